def bX7_plan_14 (F : Nat)  (σ : Sg) (l1 : Int32) (l2 : Int32) : Rs := if l1 < (0 : Int32) then (some ((-1 : Int32), σ)) else (if l1 < (σ.1 28) then (if l2 = (0 : Int32) then (if ib l1 600 then (some ((σ.2.1 40 l1.toNatClampNeg) / (512 : Int32), σ)) else none) else (if l2 = (1 : Int32) then (if ib l1 600 then (some (((σ.2.1 40 l1.toNatClampNeg) / (32 : Int32)) - ((σ.2.1 40 l1.toNatClampNeg) / (32 : Int32)) / (16 : Int32) * (16 : Int32), σ)) else none) else (if l2 = (2 : Int32) then (if ib l1 600 then (if ((σ.2.1 40 l1.toNatClampNeg) - (σ.2.1 40 l1.toNatClampNeg) / (32 : Int32) * (32 : Int32)) = (31 : Int32) then (some ((-1 : Int32), σ)) else (if ib l1 600 then (some ((σ.2.1 40 l1.toNatClampNeg) - (σ.2.1 40 l1.toNatClampNeg) / (32 : Int32) * (32 : Int32), σ)) else none)) else none) else (some ((-1 : Int32), σ))))) else (some ((-1 : Int32), σ)))
set_option maxRecDepth 100000 in
set_option maxHeartbeats 4000000 in
theorem wbX7_plan_14 {x : FX} {g : GX} {ad : Nat → Nat} {ex M0 : va_W} {r : Int32} {τ : Sg} {F : Nat} (hX : RX x g M0 (Pi_ r (HH g ad τ ++ ex)) 0 0)   (σ : Sg) (l1 : Int32) (l2 : Int32) (H : bX7_plan_14 F  σ l1 l2 = some (r, τ)) : Go x { frames := 0, cells := 0, slots := 0, locals := 0 } tX7_plan g 14 [.ref (ad 24), .int l1, .int l2] [] (HH g ad σ ++ ex) 0 0 := by
  unfold bX7_plan_14 at H
  refine g_iload_n (q := 15) (i := 1) dX7_plan_14 rfl rfl rfl ?_
  refine g_if_lt (q := 18) (r := 26) dX7_plan_15 (by decide) rfl (fun c15 => ?_) (fun c15 => ?_)
  · replace H := (if_pos c15).symm.trans H
    refine g_iconst (q := 27) (v := -1) dX7_plan_26 rfl (by decide) ?_
    exact g_iret hX dX7_plan_27 rfl rfl (Nat.le_refl _) (Nat.le_refl _) (piOk H)
  · replace H := (if_neg c15).symm.trans H
    refine g_iload_n (q := 19) (i := 1) dX7_plan_18 rfl rfl rfl ?_
    refine g_aload_n (q := 20) (i := 0) dX7_plan_19 rfl rfl rfl ?_
    refine g_get (q := 23) dX7_plan_20 rfl foX7_58 24 hc24 rfl ?_
    refine g_icmp_lt (q := 26) (r := 28) dX7_plan_23 (by decide) rfl (fun c23 => ?_) (fun c23 => ?_)
    · replace H := (if_pos c23).symm.trans H
      refine g_iload_n (q := 29) (i := 2) dX7_plan_28 rfl rfl rfl ?_
      refine g_if_ne (q := 32) (r := 43) dX7_plan_29 (by decide) rfl (fun c29 => ?_) (fun c29 => ?_)
      · replace H := (if_neg c29).symm.trans H
        refine g_iload_n (q := 44) (i := 2) dX7_plan_43 rfl rfl rfl ?_
        refine g_iconst (q := 45) (v := 1) dX7_plan_44 rfl (by decide) ?_
        refine g_icmp_ne (q := 48) (r := 61) dX7_plan_45 (by decide) rfl (fun c45 => ?_) (fun c45 => ?_)
        · replace H := (if_neg c45).symm.trans H
          refine g_iload_n (q := 62) (i := 2) dX7_plan_61 rfl rfl rfl ?_
          refine g_iconst (q := 63) (v := 2) dX7_plan_62 rfl (by decide) ?_
          refine g_icmp_ne (q := 66) (r := 92) dX7_plan_63 (by decide) rfl (fun c63 => ?_) (fun c63 => ?_)
          · replace H := (if_neg c63).symm.trans H
            refine g_iconst (q := 93) (v := -1) dX7_plan_92 rfl (by decide) ?_
            exact g_iret hX dX7_plan_93 rfl rfl (Nat.le_refl _) (Nat.le_refl _) (piOk H)
          · replace H := (if_pos c63).symm.trans H
            refine g_aload_n (q := 67) (i := 0) dX7_plan_66 rfl rfl rfl ?_
            refine g_get (q := 70) dX7_plan_67 rfl foX7_62 24 hc24 rfl ?_
            refine g_iload_n (q := 71) (i := 1) dX7_plan_70 rfl rfl rfl ?_
            obtain ⟨b71, H⟩ := of_chk H
            refine g_iald (q := 72) dX7_plan_71 rfl 40 hc40 b71 ?_
            refine g_bipush (q := 74) (v := 32) dX7_plan_72 rfl (by decide) ?_
            refine g_irem (q := 75) dX7_plan_74 rfl (by decide) ?_
            refine g_bipush (q := 77) (v := 31) dX7_plan_75 rfl (by decide) ?_
            refine g_icmp_eq (q := 80) (r := 92) dX7_plan_77 (by decide) rfl (fun c77 => ?_) (fun c77 => ?_)
            · replace H := (if_pos c77).symm.trans H
              refine g_iconst (q := 93) (v := -1) dX7_plan_92 rfl (by decide) ?_
              exact g_iret hX dX7_plan_93 rfl rfl (Nat.le_refl _) (Nat.le_refl _) (piOk H)
            · replace H := (if_neg c77).symm.trans H
              refine g_aload_n (q := 81) (i := 0) dX7_plan_80 rfl rfl rfl ?_
              refine g_get (q := 84) dX7_plan_81 rfl foX7_62 24 hc24 rfl ?_
              refine g_iload_n (q := 85) (i := 1) dX7_plan_84 rfl rfl rfl ?_
              obtain ⟨b85, H⟩ := of_chk H
              refine g_iald (q := 86) dX7_plan_85 rfl 40 hc40 b85 ?_
              refine g_bipush (q := 88) (v := 32) dX7_plan_86 rfl (by decide) ?_
              refine g_irem (q := 89) dX7_plan_88 rfl (by decide) ?_
              refine g_goto (q := 93) dX7_plan_89 (by decide) ?_
              exact g_iret hX dX7_plan_93 rfl rfl (Nat.le_refl _) (Nat.le_refl _) (piOk H)
        · replace H := (if_pos c45).symm.trans H
          refine g_aload_n (q := 49) (i := 0) dX7_plan_48 rfl rfl rfl ?_
          refine g_get (q := 52) dX7_plan_49 rfl foX7_62 24 hc24 rfl ?_
          refine g_iload_n (q := 53) (i := 1) dX7_plan_52 rfl rfl rfl ?_
          obtain ⟨b53, H⟩ := of_chk H
          refine g_iald (q := 54) dX7_plan_53 rfl 40 hc40 b53 ?_
          refine g_bipush (q := 56) (v := 32) dX7_plan_54 rfl (by decide) ?_
          refine g_idiv (q := 57) dX7_plan_56 rfl (by decide) ?_
          refine g_bipush (q := 59) (v := 16) dX7_plan_57 rfl (by decide) ?_
          refine g_irem (q := 60) dX7_plan_59 rfl (by decide) ?_
          exact g_iret hX dX7_plan_60 rfl rfl (Nat.le_refl _) (Nat.le_refl _) (piOk H)
      · replace H := (if_pos c29).symm.trans H
        refine g_aload_n (q := 33) (i := 0) dX7_plan_32 rfl rfl rfl ?_
        refine g_get (q := 36) dX7_plan_33 rfl foX7_62 24 hc24 rfl ?_
        refine g_iload_n (q := 37) (i := 1) dX7_plan_36 rfl rfl rfl ?_
        obtain ⟨b37, H⟩ := of_chk H
        refine g_iald (q := 38) dX7_plan_37 rfl 40 hc40 b37 ?_
        refine g_sipush (q := 41) (v := 512) dX7_plan_38 rfl (by decide) ?_
        refine g_idiv (q := 42) dX7_plan_41 rfl (by decide) ?_
        exact g_iret hX dX7_plan_42 rfl rfl (Nat.le_refl _) (Nat.le_refl _) (piOk H)
    · replace H := (if_neg c23).symm.trans H
      refine g_iconst (q := 27) (v := -1) dX7_plan_26 rfl (by decide) ?_
      exact g_iret hX dX7_plan_27 rfl rfl (Nat.le_refl _) (Nat.le_refl _) (piOk H)
def fX7_plan (F : Nat) (σ : Sg) (l1 : Int32) (l2 : Int32) : Rs := if l1 = (-1 : Int32) then (if l2 = (0 : Int32) then (some (σ.1 28, σ)) else (bX7_plan_14 F σ (l1) (l2))) else (bX7_plan_14 F σ (l1) (l2))
set_option maxRecDepth 100000 in
set_option maxHeartbeats 4000000 in
theorem ctX7_plan {l : Launch} {g : GX} {ad : Nat → Nat} {ex : va_W} {r : Int32} {τ σ : Sg} {F : Nat} {l1 : Int32} {l2 : Int32} (H : fX7_plan F σ l1 l2 = some (r, τ)) : Ct l g yX7_plan tX7_plan 0 0 0 0 [.ref (ad 24), .int l1, .int l2] (HH g ad σ ++ ex) (Pi_ r (HH g ad τ ++ ex)) := by
  refine Ct.of (L := [.ref (ad 24), .int l1, .int l2]) (by decide +kernel) rfl rfl rfl (Nat.le_of_ble_eq_true rfl) rfl (fun x _ hX => ?_)
  unfold fX7_plan at H
  refine g_iload_n (q := 1) (i := 1) dX7_plan_0 rfl rfl rfl ?_
  refine g_iconst (q := 2) (v := -1) dX7_plan_1 rfl (by decide) ?_
  refine g_icmp_ne (q := 5) (r := 14) dX7_plan_2 (by decide) rfl (fun c2 => ?_) (fun c2 => ?_)
  · replace H := (if_neg c2).symm.trans H
    exact g_weak (L' := [.ref (ad 24), .int l1, .int l2]) ⟨Or.inr rfl, Or.inr rfl, Or.inr rfl, trivial⟩ (wbX7_plan_14 (F := F) hX  _ _ _ H)
  · replace H := (if_pos c2).symm.trans H
    refine g_iload_n (q := 6) (i := 2) dX7_plan_5 rfl rfl rfl ?_
    refine g_if_ne (q := 9) (r := 14) dX7_plan_6 (by decide) rfl (fun c6 => ?_) (fun c6 => ?_)
    · replace H := (if_neg c6).symm.trans H
      exact g_weak (L' := [.ref (ad 24), .int l1, .int l2]) ⟨Or.inr rfl, Or.inr rfl, Or.inr rfl, trivial⟩ (wbX7_plan_14 (F := F) hX  _ _ _ H)
    · replace H := (if_pos c6).symm.trans H
      refine g_aload_n (q := 10) (i := 0) dX7_plan_9 rfl rfl rfl ?_
      refine g_get (q := 13) dX7_plan_10 rfl foX7_58 24 hc24 rfl ?_
      exact g_iret hX dX7_plan_13 rfl rfl (Nat.le_refl _) (Nat.le_refl _) (piOk H)
def fX7_witness (F : Nat) (σ : Sg) (l1 : Int32) (l2 : Int32) : Rs := (fX7_isSmall F σ l1).bind fun q1 => (fun (r1 : Int32) (σ1 : Sg) => if r1 = (0 : Int32) then (some ((-1 : Int32), σ1)) else (if l2 < (1 : Int32) then (some ((-1 : Int32), σ1)) else (if l2 ≤ (3 : Int32) then ((fX7_finds F σ1 l1 l2).bind fun q2 => (fun (r2 : Int32) (σ2 : Sg) => if r2 = (-1 : Int32) then (some (σ2.1 26, σ2)) else (some ((-2 : Int32), σ2))) q2.1 q2.2) else (some ((-1 : Int32), σ1))))) q1.1 q1.2
set_option maxRecDepth 100000 in
set_option maxHeartbeats 4000000 in
theorem ctX7_witness {l : Launch} {g : GX} {ad : Nat → Nat} {ex : va_W} {r : Int32} {τ σ : Sg} {F : Nat} {l1 : Int32} {l2 : Int32} (H : fX7_witness F σ l1 l2 = some (r, τ)) : Ct l g yX7_witness tX7_witness 4 96 0 0 [.ref (ad 24), .int l1, .int l2] (HH g ad σ ++ ex) (Pi_ r (HH g ad τ ++ ex)) := by
  refine Ct.of (L := [.ref (ad 24), .int l1, .int l2]) (by decide +kernel) rfl rfl rfl (Nat.le_of_ble_eq_true rfl) rfl (fun x _ hX => ?_)
  unfold fX7_witness at H
  refine g_aload_n (q := 1) (i := 0) dX7_witness_0 rfl rfl rfl ?_
  refine g_iload_n (q := 2) (i := 1) dX7_witness_1 rfl rfl rfl ?_
  obtain ⟨r1, σ1, e1, H⟩ := of_bnd H
  refine g_callV (q := 5) (rest := []) dX7_witness_2 rfl cvX7_181 (ctX7_isSmall e1) rfl rfl ⟨Nat.le_of_ble_eq_true rfl, Nat.le_of_ble_eq_true rfl⟩ ⟨Nat.le_refl _, Nat.le_refl _⟩ (Nat.le_of_ble_eq_true rfl) 24 hc24 rfl (fun r0 M9 hp => ?_)
  obtain ⟨rfl, rfl⟩ := hp
  show Go x _ _ g 5 [.ref (ad 24), .int l1, .int l2] [.int r1] (HH g ad σ1 ++ ex) 0 0
  refine g_if_eq (q := 8) (r := 18) dX7_witness_5 (by decide) rfl (fun c5 => ?_) (fun c5 => ?_)
  · replace H := (if_pos c5).symm.trans H
    refine g_iconst (q := 19) (v := -1) dX7_witness_18 rfl (by decide) ?_
    exact g_iret hX dX7_witness_19 rfl rfl (Nat.le_refl _) (Nat.le_refl _) (piOk H)
  · replace H := (if_neg c5).symm.trans H
    refine g_iload_n (q := 9) (i := 2) dX7_witness_8 rfl rfl rfl ?_
    refine g_iconst (q := 10) (v := 1) dX7_witness_9 rfl (by decide) ?_
    refine g_icmp_lt (q := 13) (r := 18) dX7_witness_10 (by decide) rfl (fun c10 => ?_) (fun c10 => ?_)
    · replace H := (if_pos c10).symm.trans H
      refine g_iconst (q := 19) (v := -1) dX7_witness_18 rfl (by decide) ?_
      exact g_iret hX dX7_witness_19 rfl rfl (Nat.le_refl _) (Nat.le_refl _) (piOk H)
    · replace H := (if_neg c10).symm.trans H
      refine g_iload_n (q := 14) (i := 2) dX7_witness_13 rfl rfl rfl ?_
      refine g_iconst (q := 15) (v := 3) dX7_witness_14 rfl (by decide) ?_
      refine g_icmp_le (q := 18) (r := 20) dX7_witness_15 (by decide) rfl (fun c15 => ?_) (fun c15 => ?_)
      · replace H := (if_pos c15).symm.trans H
        refine g_aload_n (q := 21) (i := 0) dX7_witness_20 rfl rfl rfl ?_
        refine g_iload_n (q := 22) (i := 1) dX7_witness_21 rfl rfl rfl ?_
        refine g_iload_n (q := 23) (i := 2) dX7_witness_22 rfl rfl rfl ?_
        obtain ⟨r2, σ2, e2, H⟩ := of_bnd H
        refine g_callV (q := 26) (rest := []) dX7_witness_23 rfl cvX7_184 (ctX7_finds e2) rfl rfl ⟨Nat.le_of_ble_eq_true rfl, Nat.le_of_ble_eq_true rfl⟩ ⟨Nat.le_refl _, Nat.le_refl _⟩ (Nat.le_of_ble_eq_true rfl) 24 hc24 rfl (fun r0 M9 hp => ?_)
        obtain ⟨rfl, rfl⟩ := hp
        show Go x _ _ g 26 [.ref (ad 24), .int l1, .int l2] [.int r2] (HH g ad σ2 ++ ex) 0 0
        refine g_iconst (q := 27) (v := -1) dX7_witness_26 rfl (by decide) ?_
        refine g_icmp_ne (q := 30) (r := 37) dX7_witness_27 (by decide) rfl (fun c27 => ?_) (fun c27 => ?_)
        · replace H := (if_neg c27).symm.trans H
          refine g_bipush (q := 39) (v := -2) dX7_witness_37 rfl (by decide) ?_
          exact g_iret hX dX7_witness_39 rfl rfl (Nat.le_refl _) (Nat.le_refl _) (piOk H)
        · replace H := (if_pos c27).symm.trans H
          refine g_aload_n (q := 31) (i := 0) dX7_witness_30 rfl rfl rfl ?_
          refine g_get (q := 34) dX7_witness_31 rfl foX7_159 24 hc24 rfl ?_
          refine g_goto (q := 39) dX7_witness_34 (by decide) ?_
          exact g_iret hX dX7_witness_39 rfl rfl (Nat.le_refl _) (Nat.le_refl _) (piOk H)
      · replace H := (if_neg c15).symm.trans H
        refine g_iconst (q := 19) (v := -1) dX7_witness_18 rfl (by decide) ?_
        exact g_iret hX dX7_witness_19 rfl rfl (Nat.le_refl _) (Nat.le_refl _) (piOk H)
def bX7_judge_190 (F : Nat) (k58 : Sg → Int32 → Int32 → Int32 → Int32 → Rs) (σ : Sg) (l1 : Int32) (l3 : Int32) (l4 : Int32) : Rs := (fX7_comes F σ (l4 + (1 : Int32))).bind fun q1 => (fun (r1 : Int32) (σ1 : Sg) => if l3 = (0 : Int32) then (k58 σ1 (l1) ((1 : Int32)) ((0 : Int32)) (l4 + 1)) else (if l1 = (2 : Int32) then ((fX7_hangs F σ1 (σ1.1 22)).bind fun q2 => (fun (r2 : Int32) (σ2 : Sg) => if r2 = (0 : Int32) then (k58 σ2 (l1) ((1 : Int32)) ((0 : Int32)) (l4 + 1)) else (k58 σ2 (l1) ((1 : Int32)) ((1 : Int32)) (l4 + 1))) q2.1 q2.2) else (k58 σ1 (l1) ((1 : Int32)) ((1 : Int32)) (l4 + 1)))) q1.1 q1.2
set_option maxRecDepth 100000 in
set_option maxHeartbeats 4000000 in
theorem wbX7_judge_190 {x : FX} {g : GX} {ad : Nat → Nat} {ex M0 : va_W} {r : Int32} {τ : Sg} {F : Nat} (hX : RX x g M0 (Pi_ r (HH g ad τ ++ ex)) 0 0) {k58 : Sg → Int32 → Int32 → Int32 → Int32 → Rs} (h58 : ∀ (σ : Sg) (l1 : Int32) (l2 : Int32) (l3 : Int32) (l4 : Int32), k58 σ l1 l2 l3 l4 = some (r, τ) → Go x { frames := 2, cells := 0, slots := 0, locals := 51 } tX7_judge g 58 [.ref (ad 24), .int l1, .int l2, .int l3, .int l4] [] (HH g ad σ ++ ex) 0 0) (σ : Sg) (l1 : Int32) (l3 : Int32) (l4 : Int32) (H : bX7_judge_190 F k58 σ l1 l3 l4 = some (r, τ)) : Go x { frames := 2, cells := 0, slots := 0, locals := 51 } tX7_judge g 190 [.ref (ad 24), .int l1, un_, .int l3, .int l4] [] (HH g ad σ ++ ex) 0 0 := by
  unfold bX7_judge_190 at H
  refine g_iconst (q := 191) (v := 1) dX7_judge_190 rfl (by decide) ?_
  refine g_goto (q := 195) dX7_judge_191 (by decide) ?_
  refine g_istore_n (q := 196) (L' := [.ref (ad 24), .int l1, .int ((1 : Int32)), .int l3, .int l4]) (i := 2) dX7_judge_195 rfl rfl (Nat.le_of_ble_eq_true rfl) rfl ?_
  refine g_aload_n (q := 197) (i := 0) dX7_judge_196 rfl rfl rfl ?_
  refine g_iload (q := 199) dX7_judge_197 rfl rfl ?_
  refine g_iconst (q := 200) (v := 1) dX7_judge_199 rfl (by decide) ?_
  refine g_iadd (q := 201) dX7_judge_200 rfl ?_
  obtain ⟨r1, σ1, e1, H⟩ := of_bnd H
  refine g_callV (q := 204) (rest := []) dX7_judge_201 rfl cvX7_120 (ctX7_comes e1) rfl rfl ⟨Nat.le_of_ble_eq_true rfl, Nat.le_of_ble_eq_true rfl⟩ ⟨Nat.le_refl _, Nat.le_refl _⟩ (Nat.le_of_ble_eq_true rfl) 24 hc24 rfl (fun r0 M9 hp => ?_)
  obtain ⟨rfl, rfl⟩ := hp
  show Go x _ _ g 204 [.ref (ad 24), .int l1, .int ((1 : Int32)), .int l3, .int l4] [] (HH g ad σ1 ++ ex) 0 0
  refine g_iload_n (q := 205) (i := 3) dX7_judge_204 rfl rfl rfl ?_
  refine g_if_eq (q := 208) (r := 228) dX7_judge_205 (by decide) rfl (fun c205 => ?_) (fun c205 => ?_)
  · replace H := (if_pos c205).symm.trans H
    refine g_iconst (q := 229) (v := 0) dX7_judge_228 rfl (by decide) ?_
    refine g_istore_n (q := 230) (L' := [.ref (ad 24), .int l1, .int ((1 : Int32)), .int ((0 : Int32)), .int l4]) (i := 3) dX7_judge_229 rfl rfl (Nat.le_of_ble_eq_true rfl) rfl ?_
    refine g_iinc (q := 233) (b := l4 + 1) (L' := [.ref (ad 24), .int l1, .int ((1 : Int32)), .int ((0 : Int32)), .int (l4 + 1)]) dX7_judge_230 rfl rfl rfl (Nat.le_of_ble_eq_true rfl) rfl ?_
    refine g_goto (q := 58) dX7_judge_233 (by decide) ?_
    exact g_weak (L' := [.ref (ad 24), .int l1, .int ((1 : Int32)), .int ((0 : Int32)), .int (l4 + 1)]) ⟨Or.inr rfl, Or.inr rfl, Or.inr rfl, Or.inr rfl, Or.inr rfl, trivial⟩ (h58 _ _ _ _ _ H)
  · replace H := (if_neg c205).symm.trans H
    refine g_iload_n (q := 209) (i := 1) dX7_judge_208 rfl rfl rfl ?_
    refine g_iconst (q := 210) (v := 2) dX7_judge_209 rfl (by decide) ?_
    refine g_icmp_ne (q := 213) (r := 224) dX7_judge_210 (by decide) rfl (fun c210 => ?_) (fun c210 => ?_)
    · replace H := (if_neg c210).symm.trans H
      refine g_iconst (q := 225) (v := 1) dX7_judge_224 rfl (by decide) ?_
      refine g_goto (q := 229) dX7_judge_225 (by decide) ?_
      refine g_istore_n (q := 230) (L' := [.ref (ad 24), .int l1, .int ((1 : Int32)), .int ((1 : Int32)), .int l4]) (i := 3) dX7_judge_229 rfl rfl (Nat.le_of_ble_eq_true rfl) rfl ?_
      refine g_iinc (q := 233) (b := l4 + 1) (L' := [.ref (ad 24), .int l1, .int ((1 : Int32)), .int ((1 : Int32)), .int (l4 + 1)]) dX7_judge_230 rfl rfl rfl (Nat.le_of_ble_eq_true rfl) rfl ?_
      refine g_goto (q := 58) dX7_judge_233 (by decide) ?_
      exact g_weak (L' := [.ref (ad 24), .int l1, .int ((1 : Int32)), .int ((1 : Int32)), .int (l4 + 1)]) ⟨Or.inr rfl, Or.inr rfl, Or.inr rfl, Or.inr rfl, Or.inr rfl, trivial⟩ (h58 _ _ _ _ _ H)
    · replace H := (if_pos c210).symm.trans H
      refine g_aload_n (q := 214) (i := 0) dX7_judge_213 rfl rfl rfl ?_
      refine g_aload_n (q := 215) (i := 0) dX7_judge_214 rfl rfl rfl ?_
      refine g_get (q := 218) dX7_judge_215 rfl foX7_74 24 hc24 rfl ?_
      obtain ⟨r2, σ2, e2, H⟩ := of_bnd H
      refine g_callV (q := 221) (rest := []) dX7_judge_218 rfl cvX7_174 (ctX7_hangs e2) rfl rfl ⟨Nat.le_of_ble_eq_true rfl, Nat.le_of_ble_eq_true rfl⟩ ⟨Nat.le_refl _, Nat.le_refl _⟩ (Nat.le_of_ble_eq_true rfl) 24 hc24 rfl (fun r0 M9 hp => ?_)
      obtain ⟨rfl, rfl⟩ := hp
      show Go x _ _ g 221 [.ref (ad 24), .int l1, .int ((1 : Int32)), .int l3, .int l4] [.int r2] (HH g ad σ2 ++ ex) 0 0
      refine g_if_eq (q := 224) (r := 228) dX7_judge_221 (by decide) rfl (fun c221 => ?_) (fun c221 => ?_)
      · replace H := (if_pos c221).symm.trans H
        refine g_iconst (q := 229) (v := 0) dX7_judge_228 rfl (by decide) ?_
        refine g_istore_n (q := 230) (L' := [.ref (ad 24), .int l1, .int ((1 : Int32)), .int ((0 : Int32)), .int l4]) (i := 3) dX7_judge_229 rfl rfl (Nat.le_of_ble_eq_true rfl) rfl ?_
        refine g_iinc (q := 233) (b := l4 + 1) (L' := [.ref (ad 24), .int l1, .int ((1 : Int32)), .int ((0 : Int32)), .int (l4 + 1)]) dX7_judge_230 rfl rfl rfl (Nat.le_of_ble_eq_true rfl) rfl ?_
        refine g_goto (q := 58) dX7_judge_233 (by decide) ?_
        exact g_weak (L' := [.ref (ad 24), .int l1, .int ((1 : Int32)), .int ((0 : Int32)), .int (l4 + 1)]) ⟨Or.inr rfl, Or.inr rfl, Or.inr rfl, Or.inr rfl, Or.inr rfl, trivial⟩ (h58 _ _ _ _ _ H)
      · replace H := (if_neg c221).symm.trans H
        refine g_iconst (q := 225) (v := 1) dX7_judge_224 rfl (by decide) ?_
        refine g_goto (q := 229) dX7_judge_225 (by decide) ?_
        refine g_istore_n (q := 230) (L' := [.ref (ad 24), .int l1, .int ((1 : Int32)), .int ((1 : Int32)), .int l4]) (i := 3) dX7_judge_229 rfl rfl (Nat.le_of_ble_eq_true rfl) rfl ?_
        refine g_iinc (q := 233) (b := l4 + 1) (L' := [.ref (ad 24), .int l1, .int ((1 : Int32)), .int ((1 : Int32)), .int (l4 + 1)]) dX7_judge_230 rfl rfl rfl (Nat.le_of_ble_eq_true rfl) rfl ?_
        refine g_goto (q := 58) dX7_judge_233 (by decide) ?_
        exact g_weak (L' := [.ref (ad 24), .int l1, .int ((1 : Int32)), .int ((1 : Int32)), .int (l4 + 1)]) ⟨Or.inr rfl, Or.inr rfl, Or.inr rfl, Or.inr rfl, Or.inr rfl, trivial⟩ (h58 _ _ _ _ _ H)
def bX7_judge_175 (F : Nat) (k58 : Sg → Int32 → Int32 → Int32 → Int32 → Rs) (σ : Sg) (l1 : Int32) (l2 : Int32) (l3 : Int32) (l4 : Int32) : Rs := if l2 = (0 : Int32) then (if ib l4 201 then (if (σ.2.1 30 l4.toNatClampNeg) = (2 : Int32) then (bX7_judge_190 F k58 σ (l1) (l3) (l4)) else ((fX7_comes F σ (l4 + (1 : Int32))).bind fun q1 => (fun (r1 : Int32) (σ1 : Sg) => if l3 = (0 : Int32) then (k58 σ1 (l1) ((0 : Int32)) ((0 : Int32)) (l4 + 1)) else (if l1 = (2 : Int32) then ((fX7_hangs F σ1 (σ1.1 22)).bind fun q2 => (fun (r2 : Int32) (σ2 : Sg) => if r2 = (0 : Int32) then (k58 σ2 (l1) ((0 : Int32)) ((0 : Int32)) (l4 + 1)) else (k58 σ2 (l1) ((0 : Int32)) ((1 : Int32)) (l4 + 1))) q2.1 q2.2) else (k58 σ1 (l1) ((0 : Int32)) ((1 : Int32)) (l4 + 1)))) q1.1 q1.2)) else none) else (bX7_judge_190 F k58 σ (l1) (l3) (l4))
set_option maxRecDepth 100000 in
set_option maxHeartbeats 4000000 in
theorem wbX7_judge_175 {x : FX} {g : GX} {ad : Nat → Nat} {ex M0 : va_W} {r : Int32} {τ : Sg} {F : Nat} (hX : RX x g M0 (Pi_ r (HH g ad τ ++ ex)) 0 0) {k58 : Sg → Int32 → Int32 → Int32 → Int32 → Rs} (h58 : ∀ (σ : Sg) (l1 : Int32) (l2 : Int32) (l3 : Int32) (l4 : Int32), k58 σ l1 l2 l3 l4 = some (r, τ) → Go x { frames := 2, cells := 0, slots := 0, locals := 51 } tX7_judge g 58 [.ref (ad 24), .int l1, .int l2, .int l3, .int l4] [] (HH g ad σ ++ ex) 0 0) (σ : Sg) (l1 : Int32) (l2 : Int32) (l3 : Int32) (l4 : Int32) (H : bX7_judge_175 F k58 σ l1 l2 l3 l4 = some (r, τ)) : Go x { frames := 2, cells := 0, slots := 0, locals := 51 } tX7_judge g 175 [.ref (ad 24), .int l1, .int l2, .int l3, .int l4] [] (HH g ad σ ++ ex) 0 0 := by
  unfold bX7_judge_175 at H
  refine g_iload_n (q := 176) (i := 2) dX7_judge_175 rfl rfl rfl ?_
  refine g_if_ne (q := 179) (r := 190) dX7_judge_176 (by decide) rfl (fun c176 => ?_) (fun c176 => ?_)
  · replace H := (if_neg c176).symm.trans H
    exact g_weak (L' := [.ref (ad 24), .int l1, un_, .int l3, .int l4]) ⟨Or.inr rfl, Or.inr rfl, Or.inl rfl, Or.inr rfl, Or.inr rfl, trivial⟩ (wbX7_judge_190 (F := F) hX h58 _ _ _ _ H)
  · replace H := (if_pos c176).symm.trans H
    refine g_aload_n (q := 180) (i := 0) dX7_judge_179 rfl rfl rfl ?_
    refine g_get (q := 183) dX7_judge_180 rfl foX7_26 24 hc24 rfl ?_
    refine g_iload (q := 185) dX7_judge_183 rfl rfl ?_
    obtain ⟨b185, H⟩ := of_chk H
    refine g_iald (q := 186) dX7_judge_185 rfl 30 hc30 b185 ?_
    refine g_iconst (q := 187) (v := 2) dX7_judge_186 rfl (by decide) ?_
    refine g_icmp_ne (q := 190) (r := 194) dX7_judge_187 (by decide) rfl (fun c187 => ?_) (fun c187 => ?_)
    · replace H := (if_neg c187).symm.trans H
      refine g_iconst (q := 195) (v := 0) dX7_judge_194 rfl (by decide) ?_
      refine g_istore_n (q := 196) (L' := [.ref (ad 24), .int l1, .int ((0 : Int32)), .int l3, .int l4]) (i := 2) dX7_judge_195 rfl rfl (Nat.le_of_ble_eq_true rfl) rfl ?_
      refine g_aload_n (q := 197) (i := 0) dX7_judge_196 rfl rfl rfl ?_
      refine g_iload (q := 199) dX7_judge_197 rfl rfl ?_
      refine g_iconst (q := 200) (v := 1) dX7_judge_199 rfl (by decide) ?_
      refine g_iadd (q := 201) dX7_judge_200 rfl ?_
      obtain ⟨r1, σ1, e1, H⟩ := of_bnd H
      refine g_callV (q := 204) (rest := []) dX7_judge_201 rfl cvX7_120 (ctX7_comes e1) rfl rfl ⟨Nat.le_of_ble_eq_true rfl, Nat.le_of_ble_eq_true rfl⟩ ⟨Nat.le_refl _, Nat.le_refl _⟩ (Nat.le_of_ble_eq_true rfl) 24 hc24 rfl (fun r0 M9 hp => ?_)
      obtain ⟨rfl, rfl⟩ := hp
      show Go x _ _ g 204 [.ref (ad 24), .int l1, .int ((0 : Int32)), .int l3, .int l4] [] (HH g ad σ1 ++ ex) 0 0
      refine g_iload_n (q := 205) (i := 3) dX7_judge_204 rfl rfl rfl ?_
      refine g_if_eq (q := 208) (r := 228) dX7_judge_205 (by decide) rfl (fun c205 => ?_) (fun c205 => ?_)
      · replace H := (if_pos c205).symm.trans H
        refine g_iconst (q := 229) (v := 0) dX7_judge_228 rfl (by decide) ?_
        refine g_istore_n (q := 230) (L' := [.ref (ad 24), .int l1, .int ((0 : Int32)), .int ((0 : Int32)), .int l4]) (i := 3) dX7_judge_229 rfl rfl (Nat.le_of_ble_eq_true rfl) rfl ?_
        refine g_iinc (q := 233) (b := l4 + 1) (L' := [.ref (ad 24), .int l1, .int ((0 : Int32)), .int ((0 : Int32)), .int (l4 + 1)]) dX7_judge_230 rfl rfl rfl (Nat.le_of_ble_eq_true rfl) rfl ?_
        refine g_goto (q := 58) dX7_judge_233 (by decide) ?_
        exact g_weak (L' := [.ref (ad 24), .int l1, .int ((0 : Int32)), .int ((0 : Int32)), .int (l4 + 1)]) ⟨Or.inr rfl, Or.inr rfl, Or.inr rfl, Or.inr rfl, Or.inr rfl, trivial⟩ (h58 _ _ _ _ _ H)
      · replace H := (if_neg c205).symm.trans H
        refine g_iload_n (q := 209) (i := 1) dX7_judge_208 rfl rfl rfl ?_
        refine g_iconst (q := 210) (v := 2) dX7_judge_209 rfl (by decide) ?_
        refine g_icmp_ne (q := 213) (r := 224) dX7_judge_210 (by decide) rfl (fun c210 => ?_) (fun c210 => ?_)
        · replace H := (if_neg c210).symm.trans H
          refine g_iconst (q := 225) (v := 1) dX7_judge_224 rfl (by decide) ?_
          refine g_goto (q := 229) dX7_judge_225 (by decide) ?_
          refine g_istore_n (q := 230) (L' := [.ref (ad 24), .int l1, .int ((0 : Int32)), .int ((1 : Int32)), .int l4]) (i := 3) dX7_judge_229 rfl rfl (Nat.le_of_ble_eq_true rfl) rfl ?_
          refine g_iinc (q := 233) (b := l4 + 1) (L' := [.ref (ad 24), .int l1, .int ((0 : Int32)), .int ((1 : Int32)), .int (l4 + 1)]) dX7_judge_230 rfl rfl rfl (Nat.le_of_ble_eq_true rfl) rfl ?_
          refine g_goto (q := 58) dX7_judge_233 (by decide) ?_
          exact g_weak (L' := [.ref (ad 24), .int l1, .int ((0 : Int32)), .int ((1 : Int32)), .int (l4 + 1)]) ⟨Or.inr rfl, Or.inr rfl, Or.inr rfl, Or.inr rfl, Or.inr rfl, trivial⟩ (h58 _ _ _ _ _ H)
        · replace H := (if_pos c210).symm.trans H
          refine g_aload_n (q := 214) (i := 0) dX7_judge_213 rfl rfl rfl ?_
          refine g_aload_n (q := 215) (i := 0) dX7_judge_214 rfl rfl rfl ?_
          refine g_get (q := 218) dX7_judge_215 rfl foX7_74 24 hc24 rfl ?_
          obtain ⟨r2, σ2, e2, H⟩ := of_bnd H
          refine g_callV (q := 221) (rest := []) dX7_judge_218 rfl cvX7_174 (ctX7_hangs e2) rfl rfl ⟨Nat.le_of_ble_eq_true rfl, Nat.le_of_ble_eq_true rfl⟩ ⟨Nat.le_refl _, Nat.le_refl _⟩ (Nat.le_of_ble_eq_true rfl) 24 hc24 rfl (fun r0 M9 hp => ?_)
          obtain ⟨rfl, rfl⟩ := hp
          show Go x _ _ g 221 [.ref (ad 24), .int l1, .int ((0 : Int32)), .int l3, .int l4] [.int r2] (HH g ad σ2 ++ ex) 0 0
          refine g_if_eq (q := 224) (r := 228) dX7_judge_221 (by decide) rfl (fun c221 => ?_) (fun c221 => ?_)
          · replace H := (if_pos c221).symm.trans H
            refine g_iconst (q := 229) (v := 0) dX7_judge_228 rfl (by decide) ?_
            refine g_istore_n (q := 230) (L' := [.ref (ad 24), .int l1, .int ((0 : Int32)), .int ((0 : Int32)), .int l4]) (i := 3) dX7_judge_229 rfl rfl (Nat.le_of_ble_eq_true rfl) rfl ?_
            refine g_iinc (q := 233) (b := l4 + 1) (L' := [.ref (ad 24), .int l1, .int ((0 : Int32)), .int ((0 : Int32)), .int (l4 + 1)]) dX7_judge_230 rfl rfl rfl (Nat.le_of_ble_eq_true rfl) rfl ?_
            refine g_goto (q := 58) dX7_judge_233 (by decide) ?_
            exact g_weak (L' := [.ref (ad 24), .int l1, .int ((0 : Int32)), .int ((0 : Int32)), .int (l4 + 1)]) ⟨Or.inr rfl, Or.inr rfl, Or.inr rfl, Or.inr rfl, Or.inr rfl, trivial⟩ (h58 _ _ _ _ _ H)
          · replace H := (if_neg c221).symm.trans H
            refine g_iconst (q := 225) (v := 1) dX7_judge_224 rfl (by decide) ?_
            refine g_goto (q := 229) dX7_judge_225 (by decide) ?_
            refine g_istore_n (q := 230) (L' := [.ref (ad 24), .int l1, .int ((0 : Int32)), .int ((1 : Int32)), .int l4]) (i := 3) dX7_judge_229 rfl rfl (Nat.le_of_ble_eq_true rfl) rfl ?_
            refine g_iinc (q := 233) (b := l4 + 1) (L' := [.ref (ad 24), .int l1, .int ((0 : Int32)), .int ((1 : Int32)), .int (l4 + 1)]) dX7_judge_230 rfl rfl rfl (Nat.le_of_ble_eq_true rfl) rfl ?_
            refine g_goto (q := 58) dX7_judge_233 (by decide) ?_
            exact g_weak (L' := [.ref (ad 24), .int l1, .int ((0 : Int32)), .int ((1 : Int32)), .int (l4 + 1)]) ⟨Or.inr rfl, Or.inr rfl, Or.inr rfl, Or.inr rfl, Or.inr rfl, trivial⟩ (h58 _ _ _ _ _ H)
    · replace H := (if_pos c187).symm.trans H
      exact g_weak (L' := [.ref (ad 24), .int l1, un_, .int l3, .int l4]) ⟨Or.inr rfl, Or.inr rfl, Or.inl rfl, Or.inr rfl, Or.inr rfl, trivial⟩ (wbX7_judge_190 (F := F) hX h58 _ _ _ _ H)
def bX7_judge_150 (F : Nat) (k58 : Sg → Int32 → Int32 → Int32 → Int32 → Rs) (σ : Sg) (l1 : Int32) (l2 : Int32) (l4 : Int32) : Rs := if l1 = (2 : Int32) then (if ib l4 201 then (if (σ.2.1 31 l4.toNatClampNeg) = (σ.1 22) then (bX7_judge_175 F k58 σ (l1) (l2) ((1 : Int32)) (l4)) else (bX7_judge_175 F k58 σ (l1) (l2) ((0 : Int32)) (l4))) else none) else (bX7_judge_175 F k58 σ (l1) (l2) ((1 : Int32)) (l4))
set_option maxRecDepth 100000 in
set_option maxHeartbeats 4000000 in
theorem wbX7_judge_150 {x : FX} {g : GX} {ad : Nat → Nat} {ex M0 : va_W} {r : Int32} {τ : Sg} {F : Nat} (hX : RX x g M0 (Pi_ r (HH g ad τ ++ ex)) 0 0) {k58 : Sg → Int32 → Int32 → Int32 → Int32 → Rs} (h58 : ∀ (σ : Sg) (l1 : Int32) (l2 : Int32) (l3 : Int32) (l4 : Int32), k58 σ l1 l2 l3 l4 = some (r, τ) → Go x { frames := 2, cells := 0, slots := 0, locals := 51 } tX7_judge g 58 [.ref (ad 24), .int l1, .int l2, .int l3, .int l4] [] (HH g ad σ ++ ex) 0 0) (σ : Sg) (l1 : Int32) (l2 : Int32) (l4 : Int32) (H : bX7_judge_150 F k58 σ l1 l2 l4 = some (r, τ)) : Go x { frames := 2, cells := 0, slots := 0, locals := 51 } tX7_judge g 150 [.ref (ad 24), .int l1, .int l2, un_, .int l4] [] (HH g ad σ ++ ex) 0 0 := by
  unfold bX7_judge_150 at H
  refine g_iload_n (q := 151) (i := 1) dX7_judge_150 rfl rfl rfl ?_
  refine g_iconst (q := 152) (v := 2) dX7_judge_151 rfl (by decide) ?_
  refine g_icmp_ne (q := 155) (r := 169) dX7_judge_152 (by decide) rfl (fun c152 => ?_) (fun c152 => ?_)
  · replace H := (if_neg c152).symm.trans H
    refine g_iconst (q := 170) (v := 1) dX7_judge_169 rfl (by decide) ?_
    refine g_goto (q := 174) dX7_judge_170 (by decide) ?_
    refine g_istore_n (q := 175) (L' := [.ref (ad 24), .int l1, .int l2, .int ((1 : Int32)), .int l4]) (i := 3) dX7_judge_174 rfl rfl (Nat.le_of_ble_eq_true rfl) rfl ?_
    exact g_weak (L' := [.ref (ad 24), .int l1, .int l2, .int ((1 : Int32)), .int l4]) ⟨Or.inr rfl, Or.inr rfl, Or.inr rfl, Or.inr rfl, Or.inr rfl, trivial⟩ (wbX7_judge_175 (F := F) hX h58 _ _ _ _ _ H)
  · replace H := (if_pos c152).symm.trans H
    refine g_aload_n (q := 156) (i := 0) dX7_judge_155 rfl rfl rfl ?_
    refine g_get (q := 159) dX7_judge_156 rfl foX7_29 24 hc24 rfl ?_
    refine g_iload (q := 161) dX7_judge_159 rfl rfl ?_
    obtain ⟨b161, H⟩ := of_chk H
    refine g_iald (q := 162) dX7_judge_161 rfl 31 hc31 b161 ?_
    refine g_aload_n (q := 163) (i := 0) dX7_judge_162 rfl rfl rfl ?_
    refine g_get (q := 166) dX7_judge_163 rfl foX7_74 24 hc24 rfl ?_
    refine g_icmp_ne (q := 169) (r := 173) dX7_judge_166 (by decide) rfl (fun c166 => ?_) (fun c166 => ?_)
    · replace H := (if_neg c166).symm.trans H
      refine g_iconst (q := 174) (v := 0) dX7_judge_173 rfl (by decide) ?_
      refine g_istore_n (q := 175) (L' := [.ref (ad 24), .int l1, .int l2, .int ((0 : Int32)), .int l4]) (i := 3) dX7_judge_174 rfl rfl (Nat.le_of_ble_eq_true rfl) rfl ?_
      exact g_weak (L' := [.ref (ad 24), .int l1, .int l2, .int ((0 : Int32)), .int l4]) ⟨Or.inr rfl, Or.inr rfl, Or.inr rfl, Or.inr rfl, Or.inr rfl, trivial⟩ (wbX7_judge_175 (F := F) hX h58 _ _ _ _ _ H)
    · replace H := (if_pos c166).symm.trans H
      refine g_iconst (q := 170) (v := 1) dX7_judge_169 rfl (by decide) ?_
      refine g_goto (q := 174) dX7_judge_170 (by decide) ?_
      refine g_istore_n (q := 175) (L' := [.ref (ad 24), .int l1, .int l2, .int ((1 : Int32)), .int l4]) (i := 3) dX7_judge_174 rfl rfl (Nat.le_of_ble_eq_true rfl) rfl ?_
      exact g_weak (L' := [.ref (ad 24), .int l1, .int l2, .int ((1 : Int32)), .int l4]) ⟨Or.inr rfl, Or.inr rfl, Or.inr rfl, Or.inr rfl, Or.inr rfl, trivial⟩ (wbX7_judge_175 (F := F) hX h58 _ _ _ _ _ H)
def bX7_judge_127 (F : Nat) (k58 : Sg → Int32 → Int32 → Int32 → Int32 → Rs) (σ : Sg) (l1 : Int32) (l2 : Int32) (l3 : Int32) (l4 : Int32) : Rs := if ib l4 201 then (if (σ.2.1 30 l4.toNatClampNeg) = (0 : Int32) then (if l3 = (0 : Int32) then (bX7_judge_175 F k58 σ (l1) (l2) ((0 : Int32)) (l4)) else (if l1 = (1 : Int32) then (if l2 = (0 : Int32) then (bX7_judge_150 F k58 σ (l1) (l2) (l4)) else (bX7_judge_175 F k58 σ (l1) (l2) ((0 : Int32)) (l4))) else (bX7_judge_150 F k58 σ (l1) (l2) (l4)))) else (bX7_judge_175 F k58 σ (l1) (l2) (l3) (l4))) else none
set_option maxRecDepth 100000 in
set_option maxHeartbeats 4000000 in
theorem wbX7_judge_127 {x : FX} {g : GX} {ad : Nat → Nat} {ex M0 : va_W} {r : Int32} {τ : Sg} {F : Nat} (hX : RX x g M0 (Pi_ r (HH g ad τ ++ ex)) 0 0) {k58 : Sg → Int32 → Int32 → Int32 → Int32 → Rs} (h58 : ∀ (σ : Sg) (l1 : Int32) (l2 : Int32) (l3 : Int32) (l4 : Int32), k58 σ l1 l2 l3 l4 = some (r, τ) → Go x { frames := 2, cells := 0, slots := 0, locals := 51 } tX7_judge g 58 [.ref (ad 24), .int l1, .int l2, .int l3, .int l4] [] (HH g ad σ ++ ex) 0 0) (σ : Sg) (l1 : Int32) (l2 : Int32) (l3 : Int32) (l4 : Int32) (H : bX7_judge_127 F k58 σ l1 l2 l3 l4 = some (r, τ)) : Go x { frames := 2, cells := 0, slots := 0, locals := 51 } tX7_judge g 127 [.ref (ad 24), .int l1, .int l2, .int l3, .int l4] [] (HH g ad σ ++ ex) 0 0 := by
  unfold bX7_judge_127 at H
  refine g_aload_n (q := 128) (i := 0) dX7_judge_127 rfl rfl rfl ?_
  refine g_get (q := 131) dX7_judge_128 rfl foX7_26 24 hc24 rfl ?_
  refine g_iload (q := 133) dX7_judge_131 rfl rfl ?_
  obtain ⟨b133, H⟩ := of_chk H
  refine g_iald (q := 134) dX7_judge_133 rfl 30 hc30 b133 ?_
  refine g_if_ne (q := 137) (r := 175) dX7_judge_134 (by decide) rfl (fun c134 => ?_) (fun c134 => ?_)
  · replace H := (if_neg c134).symm.trans H
    exact g_weak (L' := [.ref (ad 24), .int l1, .int l2, .int l3, .int l4]) ⟨Or.inr rfl, Or.inr rfl, Or.inr rfl, Or.inr rfl, Or.inr rfl, trivial⟩ (wbX7_judge_175 (F := F) hX h58 _ _ _ _ _ H)
  · replace H := (if_pos c134).symm.trans H
    refine g_iload_n (q := 138) (i := 3) dX7_judge_137 rfl rfl rfl ?_
    refine g_if_eq (q := 141) (r := 173) dX7_judge_138 (by decide) rfl (fun c138 => ?_) (fun c138 => ?_)
    · replace H := (if_pos c138).symm.trans H
      refine g_iconst (q := 174) (v := 0) dX7_judge_173 rfl (by decide) ?_
      refine g_istore_n (q := 175) (L' := [.ref (ad 24), .int l1, .int l2, .int ((0 : Int32)), .int l4]) (i := 3) dX7_judge_174 rfl rfl (Nat.le_of_ble_eq_true rfl) rfl ?_
      exact g_weak (L' := [.ref (ad 24), .int l1, .int l2, .int ((0 : Int32)), .int l4]) ⟨Or.inr rfl, Or.inr rfl, Or.inr rfl, Or.inr rfl, Or.inr rfl, trivial⟩ (wbX7_judge_175 (F := F) hX h58 _ _ _ _ _ H)
    · replace H := (if_neg c138).symm.trans H
      refine g_iload_n (q := 142) (i := 1) dX7_judge_141 rfl rfl rfl ?_
      refine g_iconst (q := 143) (v := 1) dX7_judge_142 rfl (by decide) ?_
      refine g_icmp_ne (q := 146) (r := 150) dX7_judge_143 (by decide) rfl (fun c143 => ?_) (fun c143 => ?_)
      · replace H := (if_neg c143).symm.trans H
        exact g_weak (L' := [.ref (ad 24), .int l1, .int l2, un_, .int l4]) ⟨Or.inr rfl, Or.inr rfl, Or.inr rfl, Or.inl rfl, Or.inr rfl, trivial⟩ (wbX7_judge_150 (F := F) hX h58 _ _ _ _ H)
      · replace H := (if_pos c143).symm.trans H
        refine g_iload_n (q := 147) (i := 2) dX7_judge_146 rfl rfl rfl ?_
        refine g_if_ne (q := 150) (r := 173) dX7_judge_147 (by decide) rfl (fun c147 => ?_) (fun c147 => ?_)
        · replace H := (if_neg c147).symm.trans H
          refine g_iconst (q := 174) (v := 0) dX7_judge_173 rfl (by decide) ?_
          refine g_istore_n (q := 175) (L' := [.ref (ad 24), .int l1, .int l2, .int ((0 : Int32)), .int l4]) (i := 3) dX7_judge_174 rfl rfl (Nat.le_of_ble_eq_true rfl) rfl ?_
          exact g_weak (L' := [.ref (ad 24), .int l1, .int l2, .int ((0 : Int32)), .int l4]) ⟨Or.inr rfl, Or.inr rfl, Or.inr rfl, Or.inr rfl, Or.inr rfl, trivial⟩ (wbX7_judge_175 (F := F) hX h58 _ _ _ _ _ H)
        · replace H := (if_pos c147).symm.trans H
          exact g_weak (L' := [.ref (ad 24), .int l1, .int l2, un_, .int l4]) ⟨Or.inr rfl, Or.inr rfl, Or.inr rfl, Or.inl rfl, Or.inr rfl, trivial⟩ (wbX7_judge_150 (F := F) hX h58 _ _ _ _ H)
def bX7_judge_100 (F : Nat) (k58 : Sg → Int32 → Int32 → Int32 → Int32 → Rs) (σ : Sg) (l1 : Int32) (l2 : Int32) (l4 : Int32) : Rs := if ib l4 201 then (if (σ.2.1 30 l4.toNatClampNeg) = (1 : Int32) then (if (0 : Int32) = (0 : Int32) then (bX7_judge_127 F k58 σ (l1) (l2) ((0 : Int32)) (l4)) else (if l1 = (0 : Int32) then (bX7_judge_127 F k58 σ (l1) (l2) ((1 : Int32)) (l4)) else (bX7_judge_127 F k58 σ (l1) (l2) ((0 : Int32)) (l4)))) else (bX7_judge_127 F k58 σ (l1) (l2) ((0 : Int32)) (l4))) else none
set_option maxRecDepth 100000 in
set_option maxHeartbeats 4000000 in
theorem wbX7_judge_100 {x : FX} {g : GX} {ad : Nat → Nat} {ex M0 : va_W} {r : Int32} {τ : Sg} {F : Nat} (hX : RX x g M0 (Pi_ r (HH g ad τ ++ ex)) 0 0) {k58 : Sg → Int32 → Int32 → Int32 → Int32 → Rs} (h58 : ∀ (σ : Sg) (l1 : Int32) (l2 : Int32) (l3 : Int32) (l4 : Int32), k58 σ l1 l2 l3 l4 = some (r, τ) → Go x { frames := 2, cells := 0, slots := 0, locals := 51 } tX7_judge g 58 [.ref (ad 24), .int l1, .int l2, .int l3, .int l4] [] (HH g ad σ ++ ex) 0 0) (σ : Sg) (l1 : Int32) (l2 : Int32) (l4 : Int32) (H : bX7_judge_100 F k58 σ l1 l2 l4 = some (r, τ)) : Go x { frames := 2, cells := 0, slots := 0, locals := 51 } tX7_judge g 100 [.ref (ad 24), .int l1, .int l2, un_, .int l4] [] (HH g ad σ ++ ex) 0 0 := by
  unfold bX7_judge_100 at H
  refine g_iconst (q := 101) (v := 0) dX7_judge_100 rfl (by decide) ?_
  refine g_istore_n (q := 102) (L' := [.ref (ad 24), .int l1, .int l2, .int ((0 : Int32)), .int l4]) (i := 3) dX7_judge_101 rfl rfl (Nat.le_of_ble_eq_true rfl) rfl ?_
  refine g_aload_n (q := 103) (i := 0) dX7_judge_102 rfl rfl rfl ?_
  refine g_get (q := 106) dX7_judge_103 rfl foX7_26 24 hc24 rfl ?_
  refine g_iload (q := 108) dX7_judge_106 rfl rfl ?_
  obtain ⟨b108, H⟩ := of_chk H
  refine g_iald (q := 109) dX7_judge_108 rfl 30 hc30 b108 ?_
  refine g_iconst (q := 110) (v := 1) dX7_judge_109 rfl (by decide) ?_
  refine g_icmp_ne (q := 113) (r := 127) dX7_judge_110 (by decide) rfl (fun c110 => ?_) (fun c110 => ?_)
  · replace H := (if_neg c110).symm.trans H
    exact g_weak (L' := [.ref (ad 24), .int l1, .int l2, .int ((0 : Int32)), .int l4]) ⟨Or.inr rfl, Or.inr rfl, Or.inr rfl, Or.inr rfl, Or.inr rfl, trivial⟩ (wbX7_judge_127 (F := F) hX h58 _ _ _ _ _ H)
  · replace H := (if_pos c110).symm.trans H
    refine g_iload_n (q := 114) (i := 3) dX7_judge_113 rfl rfl rfl ?_
    refine g_if_eq (q := 117) (r := 125) dX7_judge_114 (by decide) rfl (fun c114 => ?_) (fun c114 => ?_)
    · replace H := (if_pos c114).symm.trans H
      refine g_iconst (q := 126) (v := 0) dX7_judge_125 rfl (by decide) ?_
      refine g_istore_n (q := 127) (L' := [.ref (ad 24), .int l1, .int l2, .int ((0 : Int32)), .int l4]) (i := 3) dX7_judge_126 rfl rfl (Nat.le_of_ble_eq_true rfl) rfl ?_
      exact g_weak (L' := [.ref (ad 24), .int l1, .int l2, .int ((0 : Int32)), .int l4]) ⟨Or.inr rfl, Or.inr rfl, Or.inr rfl, Or.inr rfl, Or.inr rfl, trivial⟩ (wbX7_judge_127 (F := F) hX h58 _ _ _ _ _ H)
    · replace H := (if_neg c114).symm.trans H
      refine g_iload_n (q := 118) (i := 1) dX7_judge_117 rfl rfl rfl ?_
      refine g_if_ne (q := 121) (r := 125) dX7_judge_118 (by decide) rfl (fun c118 => ?_) (fun c118 => ?_)
      · replace H := (if_neg c118).symm.trans H
        refine g_iconst (q := 126) (v := 0) dX7_judge_125 rfl (by decide) ?_
        refine g_istore_n (q := 127) (L' := [.ref (ad 24), .int l1, .int l2, .int ((0 : Int32)), .int l4]) (i := 3) dX7_judge_126 rfl rfl (Nat.le_of_ble_eq_true rfl) rfl ?_
        exact g_weak (L' := [.ref (ad 24), .int l1, .int l2, .int ((0 : Int32)), .int l4]) ⟨Or.inr rfl, Or.inr rfl, Or.inr rfl, Or.inr rfl, Or.inr rfl, trivial⟩ (wbX7_judge_127 (F := F) hX h58 _ _ _ _ _ H)
      · replace H := (if_pos c118).symm.trans H
        refine g_iconst (q := 122) (v := 1) dX7_judge_121 rfl (by decide) ?_
        refine g_goto (q := 126) dX7_judge_122 (by decide) ?_
        refine g_istore_n (q := 127) (L' := [.ref (ad 24), .int l1, .int l2, .int ((1 : Int32)), .int l4]) (i := 3) dX7_judge_126 rfl rfl (Nat.le_of_ble_eq_true rfl) rfl ?_
        exact g_weak (L' := [.ref (ad 24), .int l1, .int l2, .int ((1 : Int32)), .int l4]) ⟨Or.inr rfl, Or.inr rfl, Or.inr rfl, Or.inr rfl, Or.inr rfl, trivial⟩ (wbX7_judge_127 (F := F) hX h58 _ _ _ _ _ H)
def bX7_judge_96 (F : Nat) (k58 : Sg → Int32 → Int32 → Int32 → Int32 → Rs) (σ : Sg) (l1 : Int32) (l2 : Int32) (l4 : Int32) : Rs := if ib l4 201 then (if (σ.2.1 30 l4.toNatClampNeg) = (1 : Int32) then (if (1 : Int32) = (0 : Int32) then (bX7_judge_127 F k58 σ (l1) (l2) ((0 : Int32)) (l4)) else (if l1 = (0 : Int32) then (bX7_judge_127 F k58 σ (l1) (l2) ((1 : Int32)) (l4)) else (bX7_judge_127 F k58 σ (l1) (l2) ((0 : Int32)) (l4)))) else (bX7_judge_127 F k58 σ (l1) (l2) ((1 : Int32)) (l4))) else none
set_option maxRecDepth 100000 in
set_option maxHeartbeats 4000000 in
theorem wbX7_judge_96 {x : FX} {g : GX} {ad : Nat → Nat} {ex M0 : va_W} {r : Int32} {τ : Sg} {F : Nat} (hX : RX x g M0 (Pi_ r (HH g ad τ ++ ex)) 0 0) {k58 : Sg → Int32 → Int32 → Int32 → Int32 → Rs} (h58 : ∀ (σ : Sg) (l1 : Int32) (l2 : Int32) (l3 : Int32) (l4 : Int32), k58 σ l1 l2 l3 l4 = some (r, τ) → Go x { frames := 2, cells := 0, slots := 0, locals := 51 } tX7_judge g 58 [.ref (ad 24), .int l1, .int l2, .int l3, .int l4] [] (HH g ad σ ++ ex) 0 0) (σ : Sg) (l1 : Int32) (l2 : Int32) (l4 : Int32) (H : bX7_judge_96 F k58 σ l1 l2 l4 = some (r, τ)) : Go x { frames := 2, cells := 0, slots := 0, locals := 51 } tX7_judge g 96 [.ref (ad 24), .int l1, .int l2, un_, .int l4] [] (HH g ad σ ++ ex) 0 0 := by
  unfold bX7_judge_96 at H
  refine g_iconst (q := 97) (v := 1) dX7_judge_96 rfl (by decide) ?_
  refine g_goto (q := 101) dX7_judge_97 (by decide) ?_
  refine g_istore_n (q := 102) (L' := [.ref (ad 24), .int l1, .int l2, .int ((1 : Int32)), .int l4]) (i := 3) dX7_judge_101 rfl rfl (Nat.le_of_ble_eq_true rfl) rfl ?_
  refine g_aload_n (q := 103) (i := 0) dX7_judge_102 rfl rfl rfl ?_
  refine g_get (q := 106) dX7_judge_103 rfl foX7_26 24 hc24 rfl ?_
  refine g_iload (q := 108) dX7_judge_106 rfl rfl ?_
  obtain ⟨b108, H⟩ := of_chk H
  refine g_iald (q := 109) dX7_judge_108 rfl 30 hc30 b108 ?_
  refine g_iconst (q := 110) (v := 1) dX7_judge_109 rfl (by decide) ?_
  refine g_icmp_ne (q := 113) (r := 127) dX7_judge_110 (by decide) rfl (fun c110 => ?_) (fun c110 => ?_)
  · replace H := (if_neg c110).symm.trans H
    exact g_weak (L' := [.ref (ad 24), .int l1, .int l2, .int ((1 : Int32)), .int l4]) ⟨Or.inr rfl, Or.inr rfl, Or.inr rfl, Or.inr rfl, Or.inr rfl, trivial⟩ (wbX7_judge_127 (F := F) hX h58 _ _ _ _ _ H)
  · replace H := (if_pos c110).symm.trans H
    refine g_iload_n (q := 114) (i := 3) dX7_judge_113 rfl rfl rfl ?_
    refine g_if_eq (q := 117) (r := 125) dX7_judge_114 (by decide) rfl (fun c114 => ?_) (fun c114 => ?_)
    · replace H := (if_pos c114).symm.trans H
      refine g_iconst (q := 126) (v := 0) dX7_judge_125 rfl (by decide) ?_
      refine g_istore_n (q := 127) (L' := [.ref (ad 24), .int l1, .int l2, .int ((0 : Int32)), .int l4]) (i := 3) dX7_judge_126 rfl rfl (Nat.le_of_ble_eq_true rfl) rfl ?_
      exact g_weak (L' := [.ref (ad 24), .int l1, .int l2, .int ((0 : Int32)), .int l4]) ⟨Or.inr rfl, Or.inr rfl, Or.inr rfl, Or.inr rfl, Or.inr rfl, trivial⟩ (wbX7_judge_127 (F := F) hX h58 _ _ _ _ _ H)
    · replace H := (if_neg c114).symm.trans H
      refine g_iload_n (q := 118) (i := 1) dX7_judge_117 rfl rfl rfl ?_
      refine g_if_ne (q := 121) (r := 125) dX7_judge_118 (by decide) rfl (fun c118 => ?_) (fun c118 => ?_)
      · replace H := (if_neg c118).symm.trans H
        refine g_iconst (q := 126) (v := 0) dX7_judge_125 rfl (by decide) ?_
        refine g_istore_n (q := 127) (L' := [.ref (ad 24), .int l1, .int l2, .int ((0 : Int32)), .int l4]) (i := 3) dX7_judge_126 rfl rfl (Nat.le_of_ble_eq_true rfl) rfl ?_
        exact g_weak (L' := [.ref (ad 24), .int l1, .int l2, .int ((0 : Int32)), .int l4]) ⟨Or.inr rfl, Or.inr rfl, Or.inr rfl, Or.inr rfl, Or.inr rfl, trivial⟩ (wbX7_judge_127 (F := F) hX h58 _ _ _ _ _ H)
      · replace H := (if_pos c118).symm.trans H
        refine g_iconst (q := 122) (v := 1) dX7_judge_121 rfl (by decide) ?_
        refine g_goto (q := 126) dX7_judge_122 (by decide) ?_
        refine g_istore_n (q := 127) (L' := [.ref (ad 24), .int l1, .int l2, .int ((1 : Int32)), .int l4]) (i := 3) dX7_judge_126 rfl rfl (Nat.le_of_ble_eq_true rfl) rfl ?_
        exact g_weak (L' := [.ref (ad 24), .int l1, .int l2, .int ((1 : Int32)), .int l4]) ⟨Or.inr rfl, Or.inr rfl, Or.inr rfl, Or.inr rfl, Or.inr rfl, trivial⟩ (wbX7_judge_127 (F := F) hX h58 _ _ _ _ _ H)
def bX7_judge_58 (F : Nat) (k58 : Sg → Int32 → Int32 → Int32 → Int32 → Rs) (σ : Sg) (l1 : Int32) (l2 : Int32) (l3 : Int32) (l4 : Int32) : Rs := if (σ.1 25) ≤ l4 then (if l3 = (0 : Int32) then (some ((0 : Int32), σ)) else (some ((1 : Int32), σ))) else (if l3 = (0 : Int32) then (bX7_judge_100 F k58 σ (l1) (l2) (l4)) else (if l4 = (0 : Int32) then (bX7_judge_96 F k58 σ (l1) (l2) (l4)) else (if ib l4 201 then (if (σ.2.1 34 l4.toNatClampNeg) = (0 : Int32) then (if ib l4 201 then (if (σ.2.1 35 l4.toNatClampNeg) = (0 : Int32) then (bX7_judge_100 F k58 σ (l1) (l2) (l4)) else (bX7_judge_96 F k58 σ (l1) (l2) (l4))) else none) else (bX7_judge_96 F k58 σ (l1) (l2) (l4))) else none)))
set_option maxRecDepth 100000 in
set_option maxHeartbeats 4000000 in
theorem wbX7_judge_58 {x : FX} {g : GX} {ad : Nat → Nat} {ex M0 : va_W} {r : Int32} {τ : Sg} {F : Nat} (hX : RX x g M0 (Pi_ r (HH g ad τ ++ ex)) 0 0) {k58 : Sg → Int32 → Int32 → Int32 → Int32 → Rs} (h58 : ∀ (σ : Sg) (l1 : Int32) (l2 : Int32) (l3 : Int32) (l4 : Int32), k58 σ l1 l2 l3 l4 = some (r, τ) → Go x { frames := 2, cells := 0, slots := 0, locals := 51 } tX7_judge g 58 [.ref (ad 24), .int l1, .int l2, .int l3, .int l4] [] (HH g ad σ ++ ex) 0 0) (σ : Sg) (l1 : Int32) (l2 : Int32) (l3 : Int32) (l4 : Int32) (H : bX7_judge_58 F k58 σ l1 l2 l3 l4 = some (r, τ)) : Go x { frames := 2, cells := 0, slots := 0, locals := 51 } tX7_judge g 58 [.ref (ad 24), .int l1, .int l2, .int l3, .int l4] [] (HH g ad σ ++ ex) 0 0 := by
  unfold bX7_judge_58 at H
  refine g_iload (q := 60) dX7_judge_58 rfl rfl ?_
  refine g_aload_n (q := 61) (i := 0) dX7_judge_60 rfl rfl rfl ?_
  refine g_get (q := 64) dX7_judge_61 rfl foX7_107 24 hc24 rfl ?_
  refine g_icmp_ge (q := 67) (r := 236) dX7_judge_64 (by decide) rfl (fun c64 => ?_) (fun c64 => ?_)
  · replace H := (if_pos c64).symm.trans H
    refine g_iload_n (q := 237) (i := 3) dX7_judge_236 rfl rfl rfl ?_
    refine g_if_eq (q := 240) (r := 244) dX7_judge_237 (by decide) rfl (fun c237 => ?_) (fun c237 => ?_)
    · replace H := (if_pos c237).symm.trans H
      refine g_iconst (q := 245) (v := 0) dX7_judge_244 rfl (by decide) ?_
      exact g_iret hX dX7_judge_245 rfl rfl (Nat.le_refl _) (Nat.le_refl _) (piOk H)
    · replace H := (if_neg c237).symm.trans H
      refine g_iconst (q := 241) (v := 1) dX7_judge_240 rfl (by decide) ?_
      refine g_goto (q := 245) dX7_judge_241 (by decide) ?_
      exact g_iret hX dX7_judge_245 rfl rfl (Nat.le_refl _) (Nat.le_refl _) (piOk H)
  · replace H := (if_neg c64).symm.trans H
    refine g_iload_n (q := 68) (i := 3) dX7_judge_67 rfl rfl rfl ?_
    refine g_if_eq (q := 71) (r := 100) dX7_judge_68 (by decide) rfl (fun c68 => ?_) (fun c68 => ?_)
    · replace H := (if_pos c68).symm.trans H
      exact g_weak (L' := [.ref (ad 24), .int l1, .int l2, un_, .int l4]) ⟨Or.inr rfl, Or.inr rfl, Or.inr rfl, Or.inl rfl, Or.inr rfl, trivial⟩ (wbX7_judge_100 (F := F) hX h58 _ _ _ _ H)
    · replace H := (if_neg c68).symm.trans H
      refine g_iload (q := 73) dX7_judge_71 rfl rfl ?_
      refine g_if_eq (q := 76) (r := 96) dX7_judge_73 (by decide) rfl (fun c73 => ?_) (fun c73 => ?_)
      · replace H := (if_pos c73).symm.trans H
        exact g_weak (L' := [.ref (ad 24), .int l1, .int l2, un_, .int l4]) ⟨Or.inr rfl, Or.inr rfl, Or.inr rfl, Or.inl rfl, Or.inr rfl, trivial⟩ (wbX7_judge_96 (F := F) hX h58 _ _ _ _ H)
      · replace H := (if_neg c73).symm.trans H
        refine g_aload_n (q := 77) (i := 0) dX7_judge_76 rfl rfl rfl ?_
        refine g_get (q := 80) dX7_judge_77 rfl foX7_38 24 hc24 rfl ?_
        refine g_iload (q := 82) dX7_judge_80 rfl rfl ?_
        obtain ⟨b82, H⟩ := of_chk H
        refine g_iald (q := 83) dX7_judge_82 rfl 34 hc34 b82 ?_
        refine g_if_ne (q := 86) (r := 96) dX7_judge_83 (by decide) rfl (fun c83 => ?_) (fun c83 => ?_)
        · replace H := (if_neg c83).symm.trans H
          exact g_weak (L' := [.ref (ad 24), .int l1, .int l2, un_, .int l4]) ⟨Or.inr rfl, Or.inr rfl, Or.inr rfl, Or.inl rfl, Or.inr rfl, trivial⟩ (wbX7_judge_96 (F := F) hX h58 _ _ _ _ H)
        · replace H := (if_pos c83).symm.trans H
          refine g_aload_n (q := 87) (i := 0) dX7_judge_86 rfl rfl rfl ?_
          refine g_get (q := 90) dX7_judge_87 rfl foX7_41 24 hc24 rfl ?_
          refine g_iload (q := 92) dX7_judge_90 rfl rfl ?_
          obtain ⟨b92, H⟩ := of_chk H
          refine g_iald (q := 93) dX7_judge_92 rfl 35 hc35 b92 ?_
          refine g_if_eq (q := 96) (r := 100) dX7_judge_93 (by decide) rfl (fun c93 => ?_) (fun c93 => ?_)
          · replace H := (if_pos c93).symm.trans H
            exact g_weak (L' := [.ref (ad 24), .int l1, .int l2, un_, .int l4]) ⟨Or.inr rfl, Or.inr rfl, Or.inr rfl, Or.inl rfl, Or.inr rfl, trivial⟩ (wbX7_judge_100 (F := F) hX h58 _ _ _ _ H)
          · replace H := (if_neg c93).symm.trans H
            exact g_weak (L' := [.ref (ad 24), .int l1, .int l2, un_, .int l4]) ⟨Or.inr rfl, Or.inr rfl, Or.inr rfl, Or.inl rfl, Or.inr rfl, trivial⟩ (wbX7_judge_96 (F := F) hX h58 _ _ _ _ H)
def fX7_judge_58 (F : Nat)  : Nat → Sg → Int32 → Int32 → Int32 → Int32 → Rs
  | 0 => fun _ _ _ _ _ => none
  | n + 1 => fun σ l1 l2 l3 l4 => bX7_judge_58 F  (fX7_judge_58 F  n) σ l1 l2 l3 l4
theorem wfX7_judge_58 {x : FX} {g : GX} {ad : Nat → Nat} {ex M0 : va_W} {r : Int32} {τ : Sg} {F : Nat} (hX : RX x g M0 (Pi_ r (HH g ad τ ++ ex)) 0 0)   : ∀ (n : Nat) (σ : Sg) (l1 : Int32) (l2 : Int32) (l3 : Int32) (l4 : Int32), fX7_judge_58 F  n σ l1 l2 l3 l4 = some (r, τ) → Go x { frames := 2, cells := 0, slots := 0, locals := 51 } tX7_judge g 58 [.ref (ad 24), .int l1, .int l2, .int l3, .int l4] [] (HH g ad σ ++ ex) 0 0
  | 0, _, _, _, _, _, H => nomatch (show (none : Rs) = some _ from H)
  | n + 1, σ, l1, l2, l3, l4, H => wbX7_judge_58 (F := F) hX  (fun σ2 z1 z2 z3 z4 H2 => wfX7_judge_58 (F := F) hX  n σ2 z1 z2 z3 z4 H2) σ l1 l2 l3 l4 H
def fX7_judge (F : Nat) (σ : Sg) (l1 : Int32) : Rs := if l1 < (0 : Int32) then (some ((-1 : Int32), σ)) else (if (2 : Int32) < l1 then (some ((-1 : Int32), σ)) else (if (σ.1 21) = (0 : Int32) then (some ((-1 : Int32), σ)) else (if (σ.1 25) = (0 : Int32) then (some ((0 : Int32), σ)) else (if ib (σ.1 25) 201 then (if (σ.2.1 34 (σ.1 25).toNatClampNeg) = (0 : Int32) then (if ib (σ.1 25) 201 then (if (σ.2.1 35 (σ.1 25).toNatClampNeg) = (0 : Int32) then (fX7_judge_58 F F σ (l1) ((0 : Int32)) ((1 : Int32)) ((0 : Int32))) else (some ((0 : Int32), σ))) else none) else (some ((0 : Int32), σ))) else none))))
set_option maxRecDepth 100000 in
set_option maxHeartbeats 4000000 in
theorem ctX7_judge {l : Launch} {g : GX} {ad : Nat → Nat} {ex : va_W} {r : Int32} {τ σ : Sg} {F : Nat} {l1 : Int32} (H : fX7_judge F σ l1 = some (r, τ)) : Ct l g yX7_judge tX7_judge 2 51 0 0 [.ref (ad 24), .int l1] (HH g ad σ ++ ex) (Pi_ r (HH g ad τ ++ ex)) := by
  refine Ct.of (L := [.ref (ad 24), .int l1, un_, un_, un_]) (by decide +kernel) rfl rfl rfl (Nat.le_of_ble_eq_true rfl) rfl (fun x _ hX => ?_)
  unfold fX7_judge at H
  refine g_iload_n (q := 1) (i := 1) dX7_judge_0 rfl rfl rfl ?_
  refine g_if_lt (q := 4) (r := 16) dX7_judge_1 (by decide) rfl (fun c1 => ?_) (fun c1 => ?_)
  · replace H := (if_pos c1).symm.trans H
    refine g_iconst (q := 17) (v := -1) dX7_judge_16 rfl (by decide) ?_
    exact g_iret hX dX7_judge_17 rfl rfl (Nat.le_refl _) (Nat.le_refl _) (piOk H)
  · replace H := (if_neg c1).symm.trans H
    refine g_iload_n (q := 5) (i := 1) dX7_judge_4 rfl rfl rfl ?_
    refine g_iconst (q := 6) (v := 2) dX7_judge_5 rfl (by decide) ?_
    refine g_icmp_gt (q := 9) (r := 16) dX7_judge_6 (by decide) rfl (fun c6 => ?_) (fun c6 => ?_)
    · replace H := (if_pos c6).symm.trans H
      refine g_iconst (q := 17) (v := -1) dX7_judge_16 rfl (by decide) ?_
      exact g_iret hX dX7_judge_17 rfl rfl (Nat.le_refl _) (Nat.le_refl _) (piOk H)
    · replace H := (if_neg c6).symm.trans H
      refine g_aload_n (q := 10) (i := 0) dX7_judge_9 rfl rfl rfl ?_
      refine g_get (q := 13) dX7_judge_10 rfl foX7_68 24 hc24 rfl ?_
      refine g_if_ne (q := 16) (r := 18) dX7_judge_13 (by decide) rfl (fun c13 => ?_) (fun c13 => ?_)
      · replace H := (if_neg c13).symm.trans H
        refine g_aload_n (q := 19) (i := 0) dX7_judge_18 rfl rfl rfl ?_
        refine g_get (q := 22) dX7_judge_19 rfl foX7_107 24 hc24 rfl ?_
        refine g_if_eq (q := 25) (r := 49) dX7_judge_22 (by decide) rfl (fun c22 => ?_) (fun c22 => ?_)
        · replace H := (if_pos c22).symm.trans H
          refine g_iconst (q := 50) (v := 0) dX7_judge_49 rfl (by decide) ?_
          exact g_iret hX dX7_judge_50 rfl rfl (Nat.le_refl _) (Nat.le_refl _) (piOk H)
        · replace H := (if_neg c22).symm.trans H
          refine g_aload_n (q := 26) (i := 0) dX7_judge_25 rfl rfl rfl ?_
          refine g_get (q := 29) dX7_judge_26 rfl foX7_38 24 hc24 rfl ?_
          refine g_aload_n (q := 30) (i := 0) dX7_judge_29 rfl rfl rfl ?_
          refine g_get (q := 33) dX7_judge_30 rfl foX7_107 24 hc24 rfl ?_
          obtain ⟨b33, H⟩ := of_chk H
          refine g_iald (q := 34) dX7_judge_33 rfl 34 hc34 b33 ?_
          refine g_if_ne (q := 37) (r := 49) dX7_judge_34 (by decide) rfl (fun c34 => ?_) (fun c34 => ?_)
          · replace H := (if_neg c34).symm.trans H
            refine g_iconst (q := 50) (v := 0) dX7_judge_49 rfl (by decide) ?_
            exact g_iret hX dX7_judge_50 rfl rfl (Nat.le_refl _) (Nat.le_refl _) (piOk H)
          · replace H := (if_pos c34).symm.trans H
            refine g_aload_n (q := 38) (i := 0) dX7_judge_37 rfl rfl rfl ?_
            refine g_get (q := 41) dX7_judge_38 rfl foX7_41 24 hc24 rfl ?_
            refine g_aload_n (q := 42) (i := 0) dX7_judge_41 rfl rfl rfl ?_
            refine g_get (q := 45) dX7_judge_42 rfl foX7_107 24 hc24 rfl ?_
            obtain ⟨b45, H⟩ := of_chk H
            refine g_iald (q := 46) dX7_judge_45 rfl 35 hc35 b45 ?_
            refine g_if_eq (q := 49) (r := 51) dX7_judge_46 (by decide) rfl (fun c46 => ?_) (fun c46 => ?_)
            · replace H := (if_pos c46).symm.trans H
              refine g_iconst (q := 52) (v := 0) dX7_judge_51 rfl (by decide) ?_
              refine g_istore_n (q := 53) (L' := [.ref (ad 24), .int l1, .int ((0 : Int32)), un_, un_]) (i := 2) dX7_judge_52 rfl rfl (Nat.le_of_ble_eq_true rfl) rfl ?_
              refine g_iconst (q := 54) (v := 1) dX7_judge_53 rfl (by decide) ?_
              refine g_istore_n (q := 55) (L' := [.ref (ad 24), .int l1, .int ((0 : Int32)), .int ((1 : Int32)), un_]) (i := 3) dX7_judge_54 rfl rfl (Nat.le_of_ble_eq_true rfl) rfl ?_
              refine g_iconst (q := 56) (v := 0) dX7_judge_55 rfl (by decide) ?_
              refine g_istore (q := 58) (L' := [.ref (ad 24), .int l1, .int ((0 : Int32)), .int ((1 : Int32)), .int ((0 : Int32))]) dX7_judge_56 rfl (Nat.le_of_ble_eq_true rfl) rfl ?_
              exact g_weak (L' := [.ref (ad 24), .int l1, .int ((0 : Int32)), .int ((1 : Int32)), .int ((0 : Int32))]) ⟨Or.inr rfl, Or.inr rfl, Or.inr rfl, Or.inr rfl, Or.inr rfl, trivial⟩ (wfX7_judge_58 (F := F) hX  F _ _ _ _ _ H)
            · replace H := (if_neg c46).symm.trans H
              refine g_iconst (q := 50) (v := 0) dX7_judge_49 rfl (by decide) ?_
              exact g_iret hX dX7_judge_50 rfl rfl (Nat.le_refl _) (Nat.le_refl _) (piOk H)
      · replace H := (if_pos c13).symm.trans H
        refine g_iconst (q := 17) (v := -1) dX7_judge_16 rfl (by decide) ?_
        exact g_iret hX dX7_judge_17 rfl rfl (Nat.le_refl _) (Nat.le_refl _) (piOk H)
def fX7_place (F : Nat) (σ : Sg) (l1 : Int32) (l2 : Int32) : Rs := if l1 < (0 : Int32) then (some ((0 : Int32), σ)) else (if (σ.1 21) ≤ l1 then (some ((0 : Int32), σ)) else ((fX7_isCave F σ l2).bind fun q1 => (fun (r1 : Int32) (σ1 : Sg) => if r1 = (0 : Int32) then (some ((0 : Int32), σ1)) else ((fX7_placeOf F σ1 l2).bind fun q2 => (fun (r2 : Int32) (σ2 : Sg) => if ib l1 12 then (if ib r2 12 then (ls_ (sa σ2 28 r2.toNatClampNeg (σ2.2.1 28 l1.toNatClampNeg)) fun σ3 => if ib l1 12 then (ls_ (sa σ3 28 l1.toNatClampNeg l2) fun σ4 => some ((1 : Int32), σ4)) else none) else none) else none) q2.1 q2.2)) q1.1 q1.2))
set_option maxRecDepth 100000 in
set_option maxHeartbeats 4000000 in
theorem ctX7_place {l : Launch} {g : GX} {ad : Nat → Nat} {ex : va_W} {r : Int32} {τ σ : Sg} {F : Nat} {l1 : Int32} {l2 : Int32} (H : fX7_place F σ l1 l2 = some (r, τ)) : Ct l g yX7_place tX7_place 1 22 0 0 [.ref (ad 24), .int l1, .int l2] (HH g ad σ ++ ex) (Pi_ r (HH g ad τ ++ ex)) := by
  refine Ct.of (L := [.ref (ad 24), .int l1, .int l2, un_]) (by decide +kernel) rfl rfl rfl (Nat.le_of_ble_eq_true rfl) rfl (fun x _ hX => ?_)
  unfold fX7_place at H
  refine g_iload_n (q := 1) (i := 1) dX7_place_0 rfl rfl rfl ?_
  refine g_if_lt (q := 4) (r := 20) dX7_place_1 (by decide) rfl (fun c1 => ?_) (fun c1 => ?_)
  · replace H := (if_pos c1).symm.trans H
    refine g_iconst (q := 21) (v := 0) dX7_place_20 rfl (by decide) ?_
    exact g_iret hX dX7_place_21 rfl rfl (Nat.le_refl _) (Nat.le_refl _) (piOk H)
  · replace H := (if_neg c1).symm.trans H
    refine g_iload_n (q := 5) (i := 1) dX7_place_4 rfl rfl rfl ?_
    refine g_aload_n (q := 6) (i := 0) dX7_place_5 rfl rfl rfl ?_
    refine g_get (q := 9) dX7_place_6 rfl foX7_68 24 hc24 rfl ?_
    refine g_icmp_ge (q := 12) (r := 20) dX7_place_9 (by decide) rfl (fun c9 => ?_) (fun c9 => ?_)
    · replace H := (if_pos c9).symm.trans H
      refine g_iconst (q := 21) (v := 0) dX7_place_20 rfl (by decide) ?_
      exact g_iret hX dX7_place_21 rfl rfl (Nat.le_refl _) (Nat.le_refl _) (piOk H)
    · replace H := (if_neg c9).symm.trans H
      refine g_aload_n (q := 13) (i := 0) dX7_place_12 rfl rfl rfl ?_
      refine g_iload_n (q := 14) (i := 2) dX7_place_13 rfl rfl rfl ?_
      obtain ⟨r1, σ1, e1, H⟩ := of_bnd H
      refine g_callV (q := 17) (rest := []) dX7_place_14 rfl cvX7_80 (ctX7_isCave e1) rfl rfl ⟨Nat.le_of_ble_eq_true rfl, Nat.le_of_ble_eq_true rfl⟩ ⟨Nat.le_refl _, Nat.le_refl _⟩ (Nat.le_of_ble_eq_true rfl) 24 hc24 rfl (fun r0 M9 hp => ?_)
      obtain ⟨rfl, rfl⟩ := hp
      show Go x _ _ g 17 [.ref (ad 24), .int l1, .int l2, un_] [.int r1] (HH g ad σ1 ++ ex) 0 0
      refine g_if_ne (q := 20) (r := 22) dX7_place_17 (by decide) rfl (fun c17 => ?_) (fun c17 => ?_)
      · replace H := (if_neg c17).symm.trans H
        refine g_aload_n (q := 23) (i := 0) dX7_place_22 rfl rfl rfl ?_
        refine g_iload_n (q := 24) (i := 2) dX7_place_23 rfl rfl rfl ?_
        obtain ⟨r2, σ2, e2, H⟩ := of_bnd H
        refine g_callV (q := 27) (rest := []) dX7_place_24 rfl cvX7_147 (ctX7_placeOf e2) rfl rfl ⟨Nat.le_of_ble_eq_true rfl, Nat.le_of_ble_eq_true rfl⟩ ⟨Nat.le_refl _, Nat.le_refl _⟩ (Nat.le_of_ble_eq_true rfl) 24 hc24 rfl (fun r0 M9 hp => ?_)
        obtain ⟨rfl, rfl⟩ := hp
        show Go x _ _ g 27 [.ref (ad 24), .int l1, .int l2, un_] [.int r2] (HH g ad σ2 ++ ex) 0 0
        refine g_istore_n (q := 28) (L' := [.ref (ad 24), .int l1, .int l2, .int r2]) (i := 3) dX7_place_27 rfl rfl (Nat.le_of_ble_eq_true rfl) rfl ?_
        refine g_aload_n (q := 29) (i := 0) dX7_place_28 rfl rfl rfl ?_
        refine g_get (q := 32) dX7_place_29 rfl foX7_20 24 hc24 rfl ?_
        refine g_iload_n (q := 33) (i := 3) dX7_place_32 rfl rfl rfl ?_
        refine g_aload_n (q := 34) (i := 0) dX7_place_33 rfl rfl rfl ?_
        refine g_get (q := 37) dX7_place_34 rfl foX7_20 24 hc24 rfl ?_
        refine g_iload_n (q := 38) (i := 1) dX7_place_37 rfl rfl rfl ?_
        obtain ⟨b38, H⟩ := of_chk H
        refine g_iald (q := 39) dX7_place_38 rfl 28 hc28 b38 ?_
        obtain ⟨b39, H⟩ := of_chk H
        obtain ⟨σ3, n3, H⟩ := of_ls H
        refine g_iast (q := 40) dX7_place_39 rfl 28 hc28 b39 (ha28e n3) ?_
        refine g_aload_n (q := 41) (i := 0) dX7_place_40 rfl rfl rfl ?_
        refine g_get (q := 44) dX7_place_41 rfl foX7_20 24 hc24 rfl ?_
        refine g_iload_n (q := 45) (i := 1) dX7_place_44 rfl rfl rfl ?_
        refine g_iload_n (q := 46) (i := 2) dX7_place_45 rfl rfl rfl ?_
        obtain ⟨b46, H⟩ := of_chk H
        obtain ⟨σ4, n4, H⟩ := of_ls H
        refine g_iast (q := 47) dX7_place_46 rfl 28 hc28 b46 (ha28e n4) ?_
        refine g_iconst (q := 48) (v := 1) dX7_place_47 rfl (by decide) ?_
        exact g_iret hX dX7_place_48 rfl rfl (Nat.le_refl _) (Nat.le_refl _) (piOk H)
      · replace H := (if_pos c17).symm.trans H
        refine g_iconst (q := 21) (v := 0) dX7_place_20 rfl (by decide) ?_
        exact g_iret hX dX7_place_21 rfl rfl (Nat.le_refl _) (Nat.le_refl _) (piOk H)
def bX7_cutOf_85 (F : Nat) (k4 : Sg → Int32 → Int32 → Int32 → Rs) (σ : Sg) (l1 : Int32) (l2 : Int32) (l3 : Int32) (l4 : Int32) (l5 : Int32) : Rs := if l5 = (0 : Int32) then (k4 σ (l1) (l2) (l3 + 1)) else (if l4 = (0 : Int32) then (if ib l3 18 then (li_ (l2 ||| ((1 : Int32) <<< ((σ.2.1 26 l3.toNatClampNeg) &&& 31))) fun v1 => k4 σ (l1) (v1) (l3 + 1)) else none) else (k4 σ (l1) (l2) (l3 + 1)))
set_option maxRecDepth 100000 in
set_option maxHeartbeats 4000000 in
theorem wbX7_cutOf_85 {x : FX} {g : GX} {ad : Nat → Nat} {ex M0 : va_W} {r : Int32} {τ : Sg} {F : Nat} (hX : RX x g M0 (Pi_ r (HH g ad τ ++ ex)) 0 0) {k4 : Sg → Int32 → Int32 → Int32 → Rs} (h4 : ∀ (σ : Sg) (l1 : Int32) (l2 : Int32) (l3 : Int32), k4 σ l1 l2 l3 = some (r, τ) → Go x { frames := 1, cells := 0, slots := 0, locals := 22 } tX7_cutOf g 4 [.ref (ad 24), .int l1, .int l2, .int l3, un_, un_] [] (HH g ad σ ++ ex) 0 0) (σ : Sg) (l1 : Int32) (l2 : Int32) (l3 : Int32) (l4 : Int32) (l5 : Int32) (H : bX7_cutOf_85 F k4 σ l1 l2 l3 l4 l5 = some (r, τ)) : Go x { frames := 1, cells := 0, slots := 0, locals := 22 } tX7_cutOf g 85 [.ref (ad 24), .int l1, .int l2, .int l3, .int l4, .int l5] [] (HH g ad σ ++ ex) 0 0 := by
  unfold bX7_cutOf_85 at H
  refine g_iload (q := 87) dX7_cutOf_85 rfl rfl ?_
  refine g_if_eq (q := 90) (r := 106) dX7_cutOf_87 (by decide) rfl (fun c87 => ?_) (fun c87 => ?_)
  · replace H := (if_pos c87).symm.trans H
    refine g_iinc (q := 109) (b := l3 + 1) (L' := [.ref (ad 24), .int l1, .int l2, .int (l3 + 1), .int l4, .int l5]) dX7_cutOf_106 rfl rfl rfl (Nat.le_of_ble_eq_true rfl) rfl ?_
    refine g_goto (q := 4) dX7_cutOf_109 (by decide) ?_
    exact g_weak (L' := [.ref (ad 24), .int l1, .int l2, .int (l3 + 1), un_, un_]) ⟨Or.inr rfl, Or.inr rfl, Or.inr rfl, Or.inr rfl, Or.inl rfl, Or.inl rfl, trivial⟩ (h4 _ _ _ _ H)
  · replace H := (if_neg c87).symm.trans H
    refine g_iload (q := 92) dX7_cutOf_90 rfl rfl ?_
    refine g_if_ne (q := 95) (r := 106) dX7_cutOf_92 (by decide) rfl (fun c92 => ?_) (fun c92 => ?_)
    · replace H := (if_neg c92).symm.trans H
      refine g_iinc (q := 109) (b := l3 + 1) (L' := [.ref (ad 24), .int l1, .int l2, .int (l3 + 1), .int l4, .int l5]) dX7_cutOf_106 rfl rfl rfl (Nat.le_of_ble_eq_true rfl) rfl ?_
      refine g_goto (q := 4) dX7_cutOf_109 (by decide) ?_
      exact g_weak (L' := [.ref (ad 24), .int l1, .int l2, .int (l3 + 1), un_, un_]) ⟨Or.inr rfl, Or.inr rfl, Or.inr rfl, Or.inr rfl, Or.inl rfl, Or.inl rfl, trivial⟩ (h4 _ _ _ _ H)
    · replace H := (if_pos c92).symm.trans H
      refine g_iload_n (q := 96) (i := 2) dX7_cutOf_95 rfl rfl rfl ?_
      refine g_iconst (q := 97) (v := 1) dX7_cutOf_96 rfl (by decide) ?_
      refine g_aload_n (q := 98) (i := 0) dX7_cutOf_97 rfl rfl rfl ?_
      refine g_get (q := 101) dX7_cutOf_98 rfl foX7_13 24 hc24 rfl ?_
      refine g_iload_n (q := 102) (i := 3) dX7_cutOf_101 rfl rfl rfl ?_
      obtain ⟨b102, H⟩ := of_chk H
      refine g_iald (q := 103) dX7_cutOf_102 rfl 26 hc26 b102 ?_
      refine g_ishl (q := 104) dX7_cutOf_103 rfl ?_
      refine g_ior (q := 105) dX7_cutOf_104 rfl ?_
      obtain ⟨v1, n1, H⟩ := of_li H
      refine g_name n1 ?_
      refine g_istore_n (q := 106) (L' := [.ref (ad 24), .int l1, .int v1, .int l3, .int l4, .int l5]) (i := 2) dX7_cutOf_105 rfl rfl (Nat.le_of_ble_eq_true rfl) rfl ?_
      refine g_iinc (q := 109) (b := l3 + 1) (L' := [.ref (ad 24), .int l1, .int v1, .int (l3 + 1), .int l4, .int l5]) dX7_cutOf_106 rfl rfl rfl (Nat.le_of_ble_eq_true rfl) rfl ?_
      refine g_goto (q := 4) dX7_cutOf_109 (by decide) ?_
      exact g_weak (L' := [.ref (ad 24), .int l1, .int v1, .int (l3 + 1), un_, un_]) ⟨Or.inr rfl, Or.inr rfl, Or.inr rfl, Or.inr rfl, Or.inl rfl, Or.inl rfl, trivial⟩ (h4 _ _ _ _ H)
def bX7_cutOf_4 (F : Nat) (k4 : Sg → Int32 → Int32 → Int32 → Rs) (σ : Sg) (l1 : Int32) (l2 : Int32) (l3 : Int32) : Rs := if (18 : Int32) ≤ l3 then ((fX7_bits F σ l2).bind fun q1 => (fun (r1 : Int32) (σ1 : Sg) => some (r1, σ1)) q1.1 q1.2) else (if ib l3 18 then (if (σ.2.1 27 l3.toNatClampNeg) = (0 : Int32) then (k4 σ (l1) (l2) (l3 + 1)) else (if ib l3 18 then (if ((l1 >>> ((σ.2.1 25 l3.toNatClampNeg) &&& 31)) &&& (1 : Int32)) = (1 : Int32) then (if ib l3 18 then (if ((l1 >>> ((σ.2.1 26 l3.toNatClampNeg) &&& 31)) &&& (1 : Int32)) = (1 : Int32) then (if (1 : Int32) = (0 : Int32) then (bX7_cutOf_85 F k4 σ (l1) (l2) (l3) ((1 : Int32)) ((1 : Int32))) else (if (1 : Int32) = (0 : Int32) then (if ib l3 18 then (li_ (l2 ||| ((1 : Int32) <<< ((σ.2.1 25 l3.toNatClampNeg) &&& 31))) fun v5 => bX7_cutOf_85 F k4 σ (l1) (v5) (l3) ((1 : Int32)) ((1 : Int32))) else none) else (bX7_cutOf_85 F k4 σ (l1) (l2) (l3) ((1 : Int32)) ((1 : Int32))))) else (if (1 : Int32) = (0 : Int32) then (bX7_cutOf_85 F k4 σ (l1) (l2) (l3) ((1 : Int32)) ((0 : Int32))) else (if (0 : Int32) = (0 : Int32) then (if ib l3 18 then (li_ (l2 ||| ((1 : Int32) <<< ((σ.2.1 25 l3.toNatClampNeg) &&& 31))) fun v4 => bX7_cutOf_85 F k4 σ (l1) (v4) (l3) ((1 : Int32)) ((0 : Int32))) else none) else (bX7_cutOf_85 F k4 σ (l1) (l2) (l3) ((1 : Int32)) ((0 : Int32)))))) else none) else (if ib l3 18 then (if ((l1 >>> ((σ.2.1 26 l3.toNatClampNeg) &&& 31)) &&& (1 : Int32)) = (1 : Int32) then (if (0 : Int32) = (0 : Int32) then (bX7_cutOf_85 F k4 σ (l1) (l2) (l3) ((0 : Int32)) ((1 : Int32))) else (if (1 : Int32) = (0 : Int32) then (if ib l3 18 then (li_ (l2 ||| ((1 : Int32) <<< ((σ.2.1 25 l3.toNatClampNeg) &&& 31))) fun v3 => bX7_cutOf_85 F k4 σ (l1) (v3) (l3) ((0 : Int32)) ((1 : Int32))) else none) else (bX7_cutOf_85 F k4 σ (l1) (l2) (l3) ((0 : Int32)) ((1 : Int32))))) else (if (0 : Int32) = (0 : Int32) then (bX7_cutOf_85 F k4 σ (l1) (l2) (l3) ((0 : Int32)) ((0 : Int32))) else (if (0 : Int32) = (0 : Int32) then (if ib l3 18 then (li_ (l2 ||| ((1 : Int32) <<< ((σ.2.1 25 l3.toNatClampNeg) &&& 31))) fun v2 => bX7_cutOf_85 F k4 σ (l1) (v2) (l3) ((0 : Int32)) ((0 : Int32))) else none) else (bX7_cutOf_85 F k4 σ (l1) (l2) (l3) ((0 : Int32)) ((0 : Int32)))))) else none)) else none)) else none)
set_option maxRecDepth 100000 in
set_option maxHeartbeats 4000000 in
theorem wbX7_cutOf_4 {x : FX} {g : GX} {ad : Nat → Nat} {ex M0 : va_W} {r : Int32} {τ : Sg} {F : Nat} (hX : RX x g M0 (Pi_ r (HH g ad τ ++ ex)) 0 0) {k4 : Sg → Int32 → Int32 → Int32 → Rs} (h4 : ∀ (σ : Sg) (l1 : Int32) (l2 : Int32) (l3 : Int32), k4 σ l1 l2 l3 = some (r, τ) → Go x { frames := 1, cells := 0, slots := 0, locals := 22 } tX7_cutOf g 4 [.ref (ad 24), .int l1, .int l2, .int l3, un_, un_] [] (HH g ad σ ++ ex) 0 0) (σ : Sg) (l1 : Int32) (l2 : Int32) (l3 : Int32) (H : bX7_cutOf_4 F k4 σ l1 l2 l3 = some (r, τ)) : Go x { frames := 1, cells := 0, slots := 0, locals := 22 } tX7_cutOf g 4 [.ref (ad 24), .int l1, .int l2, .int l3, un_, un_] [] (HH g ad σ ++ ex) 0 0 := by
  unfold bX7_cutOf_4 at H
  refine g_iload_n (q := 5) (i := 3) dX7_cutOf_4 rfl rfl rfl ?_
  refine g_bipush (q := 7) (v := 18) dX7_cutOf_5 rfl (by decide) ?_
  refine g_icmp_ge (q := 10) (r := 112) dX7_cutOf_7 (by decide) rfl (fun c7 => ?_) (fun c7 => ?_)
  · replace H := (if_pos c7).symm.trans H
    refine g_iload_n (q := 113) (i := 2) dX7_cutOf_112 rfl rfl rfl ?_
    obtain ⟨r1, σ1, e1, H⟩ := of_bnd H
    refine g_callS (q := 116) (rest := []) dX7_cutOf_113 rfl csX7_134 (ctX7_bits e1) rfl rfl ⟨Nat.le_of_ble_eq_true rfl, Nat.le_of_ble_eq_true rfl⟩ ⟨Nat.le_refl _, Nat.le_refl _⟩ (Nat.le_of_ble_eq_true rfl) (fun r0 M9 hp => ?_)
    obtain ⟨rfl, rfl⟩ := hp
    show Go x _ _ g 116 [.ref (ad 24), .int l1, .int l2, .int l3, un_, un_] [.int r1] (HH g ad σ1 ++ ex) 0 0
    exact g_iret hX dX7_cutOf_116 rfl rfl (Nat.le_refl _) (Nat.le_refl _) (piOk H)
  · replace H := (if_neg c7).symm.trans H
    refine g_aload_n (q := 11) (i := 0) dX7_cutOf_10 rfl rfl rfl ?_
    refine g_get (q := 14) dX7_cutOf_11 rfl foX7_16 24 hc24 rfl ?_
    refine g_iload_n (q := 15) (i := 3) dX7_cutOf_14 rfl rfl rfl ?_
    obtain ⟨b15, H⟩ := of_chk H
    refine g_zald (q := 16) dX7_cutOf_15 rfl 27 hc27 b15 ?_
    refine g_if_ne (q := 19) (r := 22) dX7_cutOf_16 (by decide) rfl (fun c16 => ?_) (fun c16 => ?_)
    · replace H := (if_neg c16).symm.trans H
      refine g_iload_n (q := 23) (i := 1) dX7_cutOf_22 rfl rfl rfl ?_
      refine g_aload_n (q := 24) (i := 0) dX7_cutOf_23 rfl rfl rfl ?_
      refine g_get (q := 27) dX7_cutOf_24 rfl foX7_7 24 hc24 rfl ?_
      refine g_iload_n (q := 28) (i := 3) dX7_cutOf_27 rfl rfl rfl ?_
      obtain ⟨b28, H⟩ := of_chk H
      refine g_iald (q := 29) dX7_cutOf_28 rfl 25 hc25 b28 ?_
      refine g_ishr (q := 30) dX7_cutOf_29 rfl ?_
      refine g_iconst (q := 31) (v := 1) dX7_cutOf_30 rfl (by decide) ?_
      refine g_iand (q := 32) dX7_cutOf_31 rfl ?_
      refine g_iconst (q := 33) (v := 1) dX7_cutOf_32 rfl (by decide) ?_
      refine g_icmp_ne (q := 36) (r := 40) dX7_cutOf_33 (by decide) rfl (fun c33 => ?_) (fun c33 => ?_)
      · replace H := (if_neg c33).symm.trans H
        refine g_iconst (q := 41) (v := 0) dX7_cutOf_40 rfl (by decide) ?_
        refine g_istore (q := 43) (L' := [.ref (ad 24), .int l1, .int l2, .int l3, .int ((0 : Int32)), un_]) dX7_cutOf_41 rfl (Nat.le_of_ble_eq_true rfl) rfl ?_
        refine g_iload_n (q := 44) (i := 1) dX7_cutOf_43 rfl rfl rfl ?_
        refine g_aload_n (q := 45) (i := 0) dX7_cutOf_44 rfl rfl rfl ?_
        refine g_get (q := 48) dX7_cutOf_45 rfl foX7_13 24 hc24 rfl ?_
        refine g_iload_n (q := 49) (i := 3) dX7_cutOf_48 rfl rfl rfl ?_
        obtain ⟨b49, H⟩ := of_chk H
        refine g_iald (q := 50) dX7_cutOf_49 rfl 26 hc26 b49 ?_
        refine g_ishr (q := 51) dX7_cutOf_50 rfl ?_
        refine g_iconst (q := 52) (v := 1) dX7_cutOf_51 rfl (by decide) ?_
        refine g_iand (q := 53) dX7_cutOf_52 rfl ?_
        refine g_iconst (q := 54) (v := 1) dX7_cutOf_53 rfl (by decide) ?_
        refine g_icmp_ne (q := 57) (r := 61) dX7_cutOf_54 (by decide) rfl (fun c54 => ?_) (fun c54 => ?_)
        · replace H := (if_neg c54).symm.trans H
          refine g_iconst (q := 62) (v := 0) dX7_cutOf_61 rfl (by decide) ?_
          refine g_istore (q := 64) (L' := [.ref (ad 24), .int l1, .int l2, .int l3, .int ((0 : Int32)), .int ((0 : Int32))]) dX7_cutOf_62 rfl (Nat.le_of_ble_eq_true rfl) rfl ?_
          refine g_iload (q := 66) dX7_cutOf_64 rfl rfl ?_
          refine g_if_eq (q := 69) (r := 85) dX7_cutOf_66 (by decide) rfl (fun c66 => ?_) (fun c66 => ?_)
          · replace H := (if_pos c66).symm.trans H
            exact g_weak (L' := [.ref (ad 24), .int l1, .int l2, .int l3, .int ((0 : Int32)), .int ((0 : Int32))]) ⟨Or.inr rfl, Or.inr rfl, Or.inr rfl, Or.inr rfl, Or.inr rfl, Or.inr rfl, trivial⟩ (wbX7_cutOf_85 (F := F) hX h4 _ _ _ _ _ _ H)
          · replace H := (if_neg c66).symm.trans H
            refine g_iload (q := 71) dX7_cutOf_69 rfl rfl ?_
            refine g_if_ne (q := 74) (r := 85) dX7_cutOf_71 (by decide) rfl (fun c71 => ?_) (fun c71 => ?_)
            · replace H := (if_neg c71).symm.trans H
              exact g_weak (L' := [.ref (ad 24), .int l1, .int l2, .int l3, .int ((0 : Int32)), .int ((0 : Int32))]) ⟨Or.inr rfl, Or.inr rfl, Or.inr rfl, Or.inr rfl, Or.inr rfl, Or.inr rfl, trivial⟩ (wbX7_cutOf_85 (F := F) hX h4 _ _ _ _ _ _ H)
            · replace H := (if_pos c71).symm.trans H
              refine g_iload_n (q := 75) (i := 2) dX7_cutOf_74 rfl rfl rfl ?_
              refine g_iconst (q := 76) (v := 1) dX7_cutOf_75 rfl (by decide) ?_
              refine g_aload_n (q := 77) (i := 0) dX7_cutOf_76 rfl rfl rfl ?_
              refine g_get (q := 80) dX7_cutOf_77 rfl foX7_7 24 hc24 rfl ?_
              refine g_iload_n (q := 81) (i := 3) dX7_cutOf_80 rfl rfl rfl ?_
              obtain ⟨b81, H⟩ := of_chk H
              refine g_iald (q := 82) dX7_cutOf_81 rfl 25 hc25 b81 ?_
              refine g_ishl (q := 83) dX7_cutOf_82 rfl ?_
              refine g_ior (q := 84) dX7_cutOf_83 rfl ?_
              obtain ⟨v2, n2, H⟩ := of_li H
              refine g_name n2 ?_
              refine g_istore_n (q := 85) (L' := [.ref (ad 24), .int l1, .int v2, .int l3, .int ((0 : Int32)), .int ((0 : Int32))]) (i := 2) dX7_cutOf_84 rfl rfl (Nat.le_of_ble_eq_true rfl) rfl ?_
              exact g_weak (L' := [.ref (ad 24), .int l1, .int v2, .int l3, .int ((0 : Int32)), .int ((0 : Int32))]) ⟨Or.inr rfl, Or.inr rfl, Or.inr rfl, Or.inr rfl, Or.inr rfl, Or.inr rfl, trivial⟩ (wbX7_cutOf_85 (F := F) hX h4 _ _ _ _ _ _ H)
        · replace H := (if_pos c54).symm.trans H
          refine g_iconst (q := 58) (v := 1) dX7_cutOf_57 rfl (by decide) ?_
          refine g_goto (q := 62) dX7_cutOf_58 (by decide) ?_
          refine g_istore (q := 64) (L' := [.ref (ad 24), .int l1, .int l2, .int l3, .int ((0 : Int32)), .int ((1 : Int32))]) dX7_cutOf_62 rfl (Nat.le_of_ble_eq_true rfl) rfl ?_
          refine g_iload (q := 66) dX7_cutOf_64 rfl rfl ?_
          refine g_if_eq (q := 69) (r := 85) dX7_cutOf_66 (by decide) rfl (fun c66 => ?_) (fun c66 => ?_)
          · replace H := (if_pos c66).symm.trans H
            exact g_weak (L' := [.ref (ad 24), .int l1, .int l2, .int l3, .int ((0 : Int32)), .int ((1 : Int32))]) ⟨Or.inr rfl, Or.inr rfl, Or.inr rfl, Or.inr rfl, Or.inr rfl, Or.inr rfl, trivial⟩ (wbX7_cutOf_85 (F := F) hX h4 _ _ _ _ _ _ H)
          · replace H := (if_neg c66).symm.trans H
            refine g_iload (q := 71) dX7_cutOf_69 rfl rfl ?_
            refine g_if_ne (q := 74) (r := 85) dX7_cutOf_71 (by decide) rfl (fun c71 => ?_) (fun c71 => ?_)
            · replace H := (if_neg c71).symm.trans H
              exact g_weak (L' := [.ref (ad 24), .int l1, .int l2, .int l3, .int ((0 : Int32)), .int ((1 : Int32))]) ⟨Or.inr rfl, Or.inr rfl, Or.inr rfl, Or.inr rfl, Or.inr rfl, Or.inr rfl, trivial⟩ (wbX7_cutOf_85 (F := F) hX h4 _ _ _ _ _ _ H)
            · replace H := (if_pos c71).symm.trans H
              refine g_iload_n (q := 75) (i := 2) dX7_cutOf_74 rfl rfl rfl ?_
              refine g_iconst (q := 76) (v := 1) dX7_cutOf_75 rfl (by decide) ?_
              refine g_aload_n (q := 77) (i := 0) dX7_cutOf_76 rfl rfl rfl ?_
              refine g_get (q := 80) dX7_cutOf_77 rfl foX7_7 24 hc24 rfl ?_
              refine g_iload_n (q := 81) (i := 3) dX7_cutOf_80 rfl rfl rfl ?_
              obtain ⟨b81, H⟩ := of_chk H
              refine g_iald (q := 82) dX7_cutOf_81 rfl 25 hc25 b81 ?_
              refine g_ishl (q := 83) dX7_cutOf_82 rfl ?_
              refine g_ior (q := 84) dX7_cutOf_83 rfl ?_
              obtain ⟨v3, n3, H⟩ := of_li H
              refine g_name n3 ?_
              refine g_istore_n (q := 85) (L' := [.ref (ad 24), .int l1, .int v3, .int l3, .int ((0 : Int32)), .int ((1 : Int32))]) (i := 2) dX7_cutOf_84 rfl rfl (Nat.le_of_ble_eq_true rfl) rfl ?_
              exact g_weak (L' := [.ref (ad 24), .int l1, .int v3, .int l3, .int ((0 : Int32)), .int ((1 : Int32))]) ⟨Or.inr rfl, Or.inr rfl, Or.inr rfl, Or.inr rfl, Or.inr rfl, Or.inr rfl, trivial⟩ (wbX7_cutOf_85 (F := F) hX h4 _ _ _ _ _ _ H)
      · replace H := (if_pos c33).symm.trans H
        refine g_iconst (q := 37) (v := 1) dX7_cutOf_36 rfl (by decide) ?_
        refine g_goto (q := 41) dX7_cutOf_37 (by decide) ?_
        refine g_istore (q := 43) (L' := [.ref (ad 24), .int l1, .int l2, .int l3, .int ((1 : Int32)), un_]) dX7_cutOf_41 rfl (Nat.le_of_ble_eq_true rfl) rfl ?_
        refine g_iload_n (q := 44) (i := 1) dX7_cutOf_43 rfl rfl rfl ?_
        refine g_aload_n (q := 45) (i := 0) dX7_cutOf_44 rfl rfl rfl ?_
        refine g_get (q := 48) dX7_cutOf_45 rfl foX7_13 24 hc24 rfl ?_
        refine g_iload_n (q := 49) (i := 3) dX7_cutOf_48 rfl rfl rfl ?_
        obtain ⟨b49, H⟩ := of_chk H
        refine g_iald (q := 50) dX7_cutOf_49 rfl 26 hc26 b49 ?_
        refine g_ishr (q := 51) dX7_cutOf_50 rfl ?_
        refine g_iconst (q := 52) (v := 1) dX7_cutOf_51 rfl (by decide) ?_
        refine g_iand (q := 53) dX7_cutOf_52 rfl ?_
        refine g_iconst (q := 54) (v := 1) dX7_cutOf_53 rfl (by decide) ?_
        refine g_icmp_ne (q := 57) (r := 61) dX7_cutOf_54 (by decide) rfl (fun c54 => ?_) (fun c54 => ?_)
        · replace H := (if_neg c54).symm.trans H
          refine g_iconst (q := 62) (v := 0) dX7_cutOf_61 rfl (by decide) ?_
          refine g_istore (q := 64) (L' := [.ref (ad 24), .int l1, .int l2, .int l3, .int ((1 : Int32)), .int ((0 : Int32))]) dX7_cutOf_62 rfl (Nat.le_of_ble_eq_true rfl) rfl ?_
          refine g_iload (q := 66) dX7_cutOf_64 rfl rfl ?_
          refine g_if_eq (q := 69) (r := 85) dX7_cutOf_66 (by decide) rfl (fun c66 => ?_) (fun c66 => ?_)
          · replace H := (if_pos c66).symm.trans H
            exact g_weak (L' := [.ref (ad 24), .int l1, .int l2, .int l3, .int ((1 : Int32)), .int ((0 : Int32))]) ⟨Or.inr rfl, Or.inr rfl, Or.inr rfl, Or.inr rfl, Or.inr rfl, Or.inr rfl, trivial⟩ (wbX7_cutOf_85 (F := F) hX h4 _ _ _ _ _ _ H)
          · replace H := (if_neg c66).symm.trans H
            refine g_iload (q := 71) dX7_cutOf_69 rfl rfl ?_
            refine g_if_ne (q := 74) (r := 85) dX7_cutOf_71 (by decide) rfl (fun c71 => ?_) (fun c71 => ?_)
            · replace H := (if_neg c71).symm.trans H
              exact g_weak (L' := [.ref (ad 24), .int l1, .int l2, .int l3, .int ((1 : Int32)), .int ((0 : Int32))]) ⟨Or.inr rfl, Or.inr rfl, Or.inr rfl, Or.inr rfl, Or.inr rfl, Or.inr rfl, trivial⟩ (wbX7_cutOf_85 (F := F) hX h4 _ _ _ _ _ _ H)
            · replace H := (if_pos c71).symm.trans H
              refine g_iload_n (q := 75) (i := 2) dX7_cutOf_74 rfl rfl rfl ?_
              refine g_iconst (q := 76) (v := 1) dX7_cutOf_75 rfl (by decide) ?_
              refine g_aload_n (q := 77) (i := 0) dX7_cutOf_76 rfl rfl rfl ?_
              refine g_get (q := 80) dX7_cutOf_77 rfl foX7_7 24 hc24 rfl ?_
              refine g_iload_n (q := 81) (i := 3) dX7_cutOf_80 rfl rfl rfl ?_
              obtain ⟨b81, H⟩ := of_chk H
              refine g_iald (q := 82) dX7_cutOf_81 rfl 25 hc25 b81 ?_
              refine g_ishl (q := 83) dX7_cutOf_82 rfl ?_
              refine g_ior (q := 84) dX7_cutOf_83 rfl ?_
              obtain ⟨v4, n4, H⟩ := of_li H
              refine g_name n4 ?_
              refine g_istore_n (q := 85) (L' := [.ref (ad 24), .int l1, .int v4, .int l3, .int ((1 : Int32)), .int ((0 : Int32))]) (i := 2) dX7_cutOf_84 rfl rfl (Nat.le_of_ble_eq_true rfl) rfl ?_
              exact g_weak (L' := [.ref (ad 24), .int l1, .int v4, .int l3, .int ((1 : Int32)), .int ((0 : Int32))]) ⟨Or.inr rfl, Or.inr rfl, Or.inr rfl, Or.inr rfl, Or.inr rfl, Or.inr rfl, trivial⟩ (wbX7_cutOf_85 (F := F) hX h4 _ _ _ _ _ _ H)
        · replace H := (if_pos c54).symm.trans H
          refine g_iconst (q := 58) (v := 1) dX7_cutOf_57 rfl (by decide) ?_
          refine g_goto (q := 62) dX7_cutOf_58 (by decide) ?_
          refine g_istore (q := 64) (L' := [.ref (ad 24), .int l1, .int l2, .int l3, .int ((1 : Int32)), .int ((1 : Int32))]) dX7_cutOf_62 rfl (Nat.le_of_ble_eq_true rfl) rfl ?_
          refine g_iload (q := 66) dX7_cutOf_64 rfl rfl ?_
          refine g_if_eq (q := 69) (r := 85) dX7_cutOf_66 (by decide) rfl (fun c66 => ?_) (fun c66 => ?_)
          · replace H := (if_pos c66).symm.trans H
            exact g_weak (L' := [.ref (ad 24), .int l1, .int l2, .int l3, .int ((1 : Int32)), .int ((1 : Int32))]) ⟨Or.inr rfl, Or.inr rfl, Or.inr rfl, Or.inr rfl, Or.inr rfl, Or.inr rfl, trivial⟩ (wbX7_cutOf_85 (F := F) hX h4 _ _ _ _ _ _ H)
          · replace H := (if_neg c66).symm.trans H
            refine g_iload (q := 71) dX7_cutOf_69 rfl rfl ?_
            refine g_if_ne (q := 74) (r := 85) dX7_cutOf_71 (by decide) rfl (fun c71 => ?_) (fun c71 => ?_)
            · replace H := (if_neg c71).symm.trans H
              exact g_weak (L' := [.ref (ad 24), .int l1, .int l2, .int l3, .int ((1 : Int32)), .int ((1 : Int32))]) ⟨Or.inr rfl, Or.inr rfl, Or.inr rfl, Or.inr rfl, Or.inr rfl, Or.inr rfl, trivial⟩ (wbX7_cutOf_85 (F := F) hX h4 _ _ _ _ _ _ H)
            · replace H := (if_pos c71).symm.trans H
              refine g_iload_n (q := 75) (i := 2) dX7_cutOf_74 rfl rfl rfl ?_
              refine g_iconst (q := 76) (v := 1) dX7_cutOf_75 rfl (by decide) ?_
              refine g_aload_n (q := 77) (i := 0) dX7_cutOf_76 rfl rfl rfl ?_
              refine g_get (q := 80) dX7_cutOf_77 rfl foX7_7 24 hc24 rfl ?_
              refine g_iload_n (q := 81) (i := 3) dX7_cutOf_80 rfl rfl rfl ?_
              obtain ⟨b81, H⟩ := of_chk H
              refine g_iald (q := 82) dX7_cutOf_81 rfl 25 hc25 b81 ?_
              refine g_ishl (q := 83) dX7_cutOf_82 rfl ?_
              refine g_ior (q := 84) dX7_cutOf_83 rfl ?_
              obtain ⟨v5, n5, H⟩ := of_li H
              refine g_name n5 ?_
              refine g_istore_n (q := 85) (L' := [.ref (ad 24), .int l1, .int v5, .int l3, .int ((1 : Int32)), .int ((1 : Int32))]) (i := 2) dX7_cutOf_84 rfl rfl (Nat.le_of_ble_eq_true rfl) rfl ?_
              exact g_weak (L' := [.ref (ad 24), .int l1, .int v5, .int l3, .int ((1 : Int32)), .int ((1 : Int32))]) ⟨Or.inr rfl, Or.inr rfl, Or.inr rfl, Or.inr rfl, Or.inr rfl, Or.inr rfl, trivial⟩ (wbX7_cutOf_85 (F := F) hX h4 _ _ _ _ _ _ H)
    · replace H := (if_pos c16).symm.trans H
      refine g_goto (q := 106) dX7_cutOf_19 (by decide) ?_
      refine g_iinc (q := 109) (b := l3 + 1) (L' := [.ref (ad 24), .int l1, .int l2, .int (l3 + 1), un_, un_]) dX7_cutOf_106 rfl rfl rfl (Nat.le_of_ble_eq_true rfl) rfl ?_
      refine g_goto (q := 4) dX7_cutOf_109 (by decide) ?_
      exact g_weak (L' := [.ref (ad 24), .int l1, .int l2, .int (l3 + 1), un_, un_]) ⟨Or.inr rfl, Or.inr rfl, Or.inr rfl, Or.inr rfl, Or.inl rfl, Or.inl rfl, trivial⟩ (h4 _ _ _ _ H)
def fX7_cutOf_4 (F : Nat)  : Nat → Sg → Int32 → Int32 → Int32 → Rs
  | 0 => fun _ _ _ _ => none
  | n + 1 => fun σ l1 l2 l3 => bX7_cutOf_4 F  (fX7_cutOf_4 F  n) σ l1 l2 l3
theorem wfX7_cutOf_4 {x : FX} {g : GX} {ad : Nat → Nat} {ex M0 : va_W} {r : Int32} {τ : Sg} {F : Nat} (hX : RX x g M0 (Pi_ r (HH g ad τ ++ ex)) 0 0)   : ∀ (n : Nat) (σ : Sg) (l1 : Int32) (l2 : Int32) (l3 : Int32), fX7_cutOf_4 F  n σ l1 l2 l3 = some (r, τ) → Go x { frames := 1, cells := 0, slots := 0, locals := 22 } tX7_cutOf g 4 [.ref (ad 24), .int l1, .int l2, .int l3, un_, un_] [] (HH g ad σ ++ ex) 0 0
  | 0, _, _, _, _, H => nomatch (show (none : Rs) = some _ from H)
  | n + 1, σ, l1, l2, l3, H => wbX7_cutOf_4 (F := F) hX  (fun σ2 z1 z2 z3 H2 => wfX7_cutOf_4 (F := F) hX  n σ2 z1 z2 z3 H2) σ l1 l2 l3 H
def fX7_cutOf (F : Nat) (σ : Sg) (l1 : Int32) : Rs := fX7_cutOf_4 F F σ (l1) ((0 : Int32)) ((0 : Int32))
set_option maxRecDepth 100000 in
set_option maxHeartbeats 4000000 in
theorem ctX7_cutOf {l : Launch} {g : GX} {ad : Nat → Nat} {ex : va_W} {r : Int32} {τ σ : Sg} {F : Nat} {l1 : Int32} (H : fX7_cutOf F σ l1 = some (r, τ)) : Ct l g yX7_cutOf tX7_cutOf 1 22 0 0 [.ref (ad 24), .int l1] (HH g ad σ ++ ex) (Pi_ r (HH g ad τ ++ ex)) := by
  refine Ct.of (L := [.ref (ad 24), .int l1, un_, un_, un_, un_]) (by decide +kernel) rfl rfl rfl (Nat.le_of_ble_eq_true rfl) rfl (fun x _ hX => ?_)
  unfold fX7_cutOf at H
  refine g_iconst (q := 1) (v := 0) dX7_cutOf_0 rfl (by decide) ?_
  refine g_istore_n (q := 2) (L' := [.ref (ad 24), .int l1, .int ((0 : Int32)), un_, un_, un_]) (i := 2) dX7_cutOf_1 rfl rfl (Nat.le_of_ble_eq_true rfl) rfl ?_
  refine g_iconst (q := 3) (v := 0) dX7_cutOf_2 rfl (by decide) ?_
  refine g_istore_n (q := 4) (L' := [.ref (ad 24), .int l1, .int ((0 : Int32)), .int ((0 : Int32)), un_, un_]) (i := 3) dX7_cutOf_3 rfl rfl (Nat.le_of_ble_eq_true rfl) rfl ?_
  exact g_weak (L' := [.ref (ad 24), .int l1, .int ((0 : Int32)), .int ((0 : Int32)), un_, un_]) ⟨Or.inr rfl, Or.inr rfl, Or.inr rfl, Or.inr rfl, Or.inl rfl, Or.inl rfl, trivial⟩ (wfX7_cutOf_4 (F := F) hX  F _ _ _ _ H)
def bX7_cutBehind_4 (F : Nat) (k4 : Sg → Int32 → Int32 → Int32 → Rs) (σ : Sg) (l1 : Int32) (l2 : Int32) (l3 : Int32) : Rs := if l1 ≤ l3 then ((fX7_cutOf F σ l2).bind fun q1 => (fun (r1 : Int32) (σ1 : Sg) => some (r1, σ1)) q1.1 q1.2) else (if ib l3 12 then (li_ (l2 ||| ((1 : Int32) <<< ((σ.2.1 28 l3.toNatClampNeg) &&& 31))) fun v2 => k4 σ (l1) (v2) (l3 + 1)) else none)
set_option maxRecDepth 100000 in
set_option maxHeartbeats 4000000 in
theorem wbX7_cutBehind_4 {x : FX} {g : GX} {ad : Nat → Nat} {ex M0 : va_W} {r : Int32} {τ : Sg} {F : Nat} (hX : RX x g M0 (Pi_ r (HH g ad τ ++ ex)) 0 0) {k4 : Sg → Int32 → Int32 → Int32 → Rs} (h4 : ∀ (σ : Sg) (l1 : Int32) (l2 : Int32) (l3 : Int32), k4 σ l1 l2 l3 = some (r, τ) → Go x { frames := 2, cells := 0, slots := 0, locals := 47 } tX7_cutBehind g 4 [.ref (ad 24), .int l1, .int l2, .int l3] [] (HH g ad σ ++ ex) 0 0) (σ : Sg) (l1 : Int32) (l2 : Int32) (l3 : Int32) (H : bX7_cutBehind_4 F k4 σ l1 l2 l3 = some (r, τ)) : Go x { frames := 2, cells := 0, slots := 0, locals := 47 } tX7_cutBehind g 4 [.ref (ad 24), .int l1, .int l2, .int l3] [] (HH g ad σ ++ ex) 0 0 := by
  unfold bX7_cutBehind_4 at H
  refine g_iload_n (q := 5) (i := 3) dX7_cutBehind_4 rfl rfl rfl ?_
  refine g_iload_n (q := 6) (i := 1) dX7_cutBehind_5 rfl rfl rfl ?_
  refine g_icmp_ge (q := 9) (r := 26) dX7_cutBehind_6 (by decide) rfl (fun c6 => ?_) (fun c6 => ?_)
  · replace H := (if_pos c6).symm.trans H
    refine g_aload_n (q := 27) (i := 0) dX7_cutBehind_26 rfl rfl rfl ?_
    refine g_iload_n (q := 28) (i := 2) dX7_cutBehind_27 rfl rfl rfl ?_
    obtain ⟨r1, σ1, e1, H⟩ := of_bnd H
    refine g_callV (q := 31) (rest := []) dX7_cutBehind_28 rfl cvX7_187 (ctX7_cutOf e1) rfl rfl ⟨Nat.le_of_ble_eq_true rfl, Nat.le_of_ble_eq_true rfl⟩ ⟨Nat.le_refl _, Nat.le_refl _⟩ (Nat.le_of_ble_eq_true rfl) 24 hc24 rfl (fun r0 M9 hp => ?_)
    obtain ⟨rfl, rfl⟩ := hp
    show Go x _ _ g 31 [.ref (ad 24), .int l1, .int l2, .int l3] [.int r1] (HH g ad σ1 ++ ex) 0 0
    exact g_iret hX dX7_cutBehind_31 rfl rfl (Nat.le_refl _) (Nat.le_refl _) (piOk H)
  · replace H := (if_neg c6).symm.trans H
    refine g_iload_n (q := 10) (i := 2) dX7_cutBehind_9 rfl rfl rfl ?_
    refine g_iconst (q := 11) (v := 1) dX7_cutBehind_10 rfl (by decide) ?_
    refine g_aload_n (q := 12) (i := 0) dX7_cutBehind_11 rfl rfl rfl ?_
    refine g_get (q := 15) dX7_cutBehind_12 rfl foX7_20 24 hc24 rfl ?_
    refine g_iload_n (q := 16) (i := 3) dX7_cutBehind_15 rfl rfl rfl ?_
    obtain ⟨b16, H⟩ := of_chk H
    refine g_iald (q := 17) dX7_cutBehind_16 rfl 28 hc28 b16 ?_
    refine g_ishl (q := 18) dX7_cutBehind_17 rfl ?_
    refine g_ior (q := 19) dX7_cutBehind_18 rfl ?_
    obtain ⟨v2, n2, H⟩ := of_li H
    refine g_name n2 ?_
    refine g_istore_n (q := 20) (L' := [.ref (ad 24), .int l1, .int v2, .int l3]) (i := 2) dX7_cutBehind_19 rfl rfl (Nat.le_of_ble_eq_true rfl) rfl ?_
    refine g_iinc (q := 23) (b := l3 + 1) (L' := [.ref (ad 24), .int l1, .int v2, .int (l3 + 1)]) dX7_cutBehind_20 rfl rfl rfl (Nat.le_of_ble_eq_true rfl) rfl ?_
    refine g_goto (q := 4) dX7_cutBehind_23 (by decide) ?_
    exact g_weak (L' := [.ref (ad 24), .int l1, .int v2, .int (l3 + 1)]) ⟨Or.inr rfl, Or.inr rfl, Or.inr rfl, Or.inr rfl, trivial⟩ (h4 _ _ _ _ H)
def fX7_cutBehind_4 (F : Nat)  : Nat → Sg → Int32 → Int32 → Int32 → Rs
  | 0 => fun _ _ _ _ => none
  | n + 1 => fun σ l1 l2 l3 => bX7_cutBehind_4 F  (fX7_cutBehind_4 F  n) σ l1 l2 l3
theorem wfX7_cutBehind_4 {x : FX} {g : GX} {ad : Nat → Nat} {ex M0 : va_W} {r : Int32} {τ : Sg} {F : Nat} (hX : RX x g M0 (Pi_ r (HH g ad τ ++ ex)) 0 0)   : ∀ (n : Nat) (σ : Sg) (l1 : Int32) (l2 : Int32) (l3 : Int32), fX7_cutBehind_4 F  n σ l1 l2 l3 = some (r, τ) → Go x { frames := 2, cells := 0, slots := 0, locals := 47 } tX7_cutBehind g 4 [.ref (ad 24), .int l1, .int l2, .int l3] [] (HH g ad σ ++ ex) 0 0
  | 0, _, _, _, _, H => nomatch (show (none : Rs) = some _ from H)
  | n + 1, σ, l1, l2, l3, H => wbX7_cutBehind_4 (F := F) hX  (fun σ2 z1 z2 z3 H2 => wfX7_cutBehind_4 (F := F) hX  n σ2 z1 z2 z3 H2) σ l1 l2 l3 H
def fX7_cutBehind (F : Nat) (σ : Sg) (l1 : Int32) : Rs := fX7_cutBehind_4 F F σ (l1) ((0 : Int32)) ((0 : Int32))
set_option maxRecDepth 100000 in
set_option maxHeartbeats 4000000 in
theorem ctX7_cutBehind {l : Launch} {g : GX} {ad : Nat → Nat} {ex : va_W} {r : Int32} {τ σ : Sg} {F : Nat} {l1 : Int32} (H : fX7_cutBehind F σ l1 = some (r, τ)) : Ct l g yX7_cutBehind tX7_cutBehind 2 47 0 0 [.ref (ad 24), .int l1] (HH g ad σ ++ ex) (Pi_ r (HH g ad τ ++ ex)) := by
  refine Ct.of (L := [.ref (ad 24), .int l1, un_, un_]) (by decide +kernel) rfl rfl rfl (Nat.le_of_ble_eq_true rfl) rfl (fun x _ hX => ?_)
  unfold fX7_cutBehind at H
  refine g_iconst (q := 1) (v := 0) dX7_cutBehind_0 rfl (by decide) ?_
  refine g_istore_n (q := 2) (L' := [.ref (ad 24), .int l1, .int ((0 : Int32)), un_]) (i := 2) dX7_cutBehind_1 rfl rfl (Nat.le_of_ble_eq_true rfl) rfl ?_
  refine g_iconst (q := 3) (v := 0) dX7_cutBehind_2 rfl (by decide) ?_
  refine g_istore_n (q := 4) (L' := [.ref (ad 24), .int l1, .int ((0 : Int32)), .int ((0 : Int32))]) (i := 3) dX7_cutBehind_3 rfl rfl (Nat.le_of_ble_eq_true rfl) rfl ?_
  exact g_weak (L' := [.ref (ad 24), .int l1, .int ((0 : Int32)), .int ((0 : Int32))]) ⟨Or.inr rfl, Or.inr rfl, Or.inr rfl, Or.inr rfl, trivial⟩ (wfX7_cutBehind_4 (F := F) hX  F _ _ _ _ H)
def bX7_cut_35 (F : Nat) (k35 : Sg → Int32 → Int32 → Rs) (σ : Sg) (l2 : Int32) (l3 : Int32) : Rs := if (σ.1 21) < l3 then (some (l2, σ)) else ((fX7_cutBehind F σ l3).bind fun q1 => (fun (r1 : Int32) (σ1 : Sg) => if r1 ≤ l2 then (k35 σ1 (l2) (l3 + 1)) else ((fX7_cutBehind F σ1 l3).bind fun q2 => (fun (r2 : Int32) (σ2 : Sg) => k35 σ2 (r2) (l3 + 1)) q2.1 q2.2)) q1.1 q1.2)
set_option maxRecDepth 100000 in
set_option maxHeartbeats 4000000 in
theorem wbX7_cut_35 {x : FX} {g : GX} {ad : Nat → Nat} {ex M0 : va_W} {r : Int32} {τ : Sg} {F : Nat} (hX : RX x g M0 (Pi_ r (HH g ad τ ++ ex)) 0 0) {k35 : Sg → Int32 → Int32 → Rs} (h35 : ∀ (σ : Sg) (l2 : Int32) (l3 : Int32), k35 σ l2 l3 = some (r, τ) → Go x { frames := 3, cells := 0, slots := 0, locals := 70 } tX7_cut g 35 [.ref (ad 24), un_, .int l2, .int l3] [] (HH g ad σ ++ ex) 0 0) (σ : Sg) (l2 : Int32) (l3 : Int32) (H : bX7_cut_35 F k35 σ l2 l3 = some (r, τ)) : Go x { frames := 3, cells := 0, slots := 0, locals := 70 } tX7_cut g 35 [.ref (ad 24), un_, .int l2, .int l3] [] (HH g ad σ ++ ex) 0 0 := by
  unfold bX7_cut_35 at H
  refine g_iload_n (q := 36) (i := 3) dX7_cut_35 rfl rfl rfl ?_
  refine g_aload_n (q := 37) (i := 0) dX7_cut_36 rfl rfl rfl ?_
  refine g_get (q := 40) dX7_cut_37 rfl foX7_68 24 hc24 rfl ?_
  refine g_icmp_gt (q := 43) (r := 64) dX7_cut_40 (by decide) rfl (fun c40 => ?_) (fun c40 => ?_)
  · replace H := (if_pos c40).symm.trans H
    refine g_iload_n (q := 65) (i := 2) dX7_cut_64 rfl rfl rfl ?_
    exact g_iret hX dX7_cut_65 rfl rfl (Nat.le_refl _) (Nat.le_refl _) (piOk H)
  · replace H := (if_neg c40).symm.trans H
    refine g_aload_n (q := 44) (i := 0) dX7_cut_43 rfl rfl rfl ?_
    refine g_iload_n (q := 45) (i := 3) dX7_cut_44 rfl rfl rfl ?_
    obtain ⟨r1, σ1, e1, H⟩ := of_bnd H
    refine g_callV (q := 48) (rest := []) dX7_cut_45 rfl cvX7_190 (ctX7_cutBehind e1) rfl rfl ⟨Nat.le_of_ble_eq_true rfl, Nat.le_of_ble_eq_true rfl⟩ ⟨Nat.le_refl _, Nat.le_refl _⟩ (Nat.le_of_ble_eq_true rfl) 24 hc24 rfl (fun r0 M9 hp => ?_)
    obtain ⟨rfl, rfl⟩ := hp
    show Go x _ _ g 48 [.ref (ad 24), un_, .int l2, .int l3] [.int r1] (HH g ad σ1 ++ ex) 0 0
    refine g_iload_n (q := 49) (i := 2) dX7_cut_48 rfl rfl rfl ?_
    refine g_icmp_le (q := 52) (r := 58) dX7_cut_49 (by decide) rfl (fun c49 => ?_) (fun c49 => ?_)
    · replace H := (if_pos c49).symm.trans H
      refine g_iinc (q := 61) (b := l3 + 1) (L' := [.ref (ad 24), un_, .int l2, .int (l3 + 1)]) dX7_cut_58 rfl rfl rfl (Nat.le_of_ble_eq_true rfl) rfl ?_
      refine g_goto (q := 35) dX7_cut_61 (by decide) ?_
      exact g_weak (L' := [.ref (ad 24), un_, .int l2, .int (l3 + 1)]) ⟨Or.inr rfl, Or.inl rfl, Or.inr rfl, Or.inr rfl, trivial⟩ (h35 _ _ _ H)
    · replace H := (if_neg c49).symm.trans H
      refine g_aload_n (q := 53) (i := 0) dX7_cut_52 rfl rfl rfl ?_
      refine g_iload_n (q := 54) (i := 3) dX7_cut_53 rfl rfl rfl ?_
      obtain ⟨r2, σ2, e2, H⟩ := of_bnd H
      refine g_callV (q := 57) (rest := []) dX7_cut_54 rfl cvX7_190 (ctX7_cutBehind e2) rfl rfl ⟨Nat.le_of_ble_eq_true rfl, Nat.le_of_ble_eq_true rfl⟩ ⟨Nat.le_refl _, Nat.le_refl _⟩ (Nat.le_of_ble_eq_true rfl) 24 hc24 rfl (fun r0 M9 hp => ?_)
      obtain ⟨rfl, rfl⟩ := hp
      show Go x _ _ g 57 [.ref (ad 24), un_, .int l2, .int l3] [.int r2] (HH g ad σ2 ++ ex) 0 0
      refine g_istore_n (q := 58) (L' := [.ref (ad 24), un_, .int r2, .int l3]) (i := 2) dX7_cut_57 rfl rfl (Nat.le_of_ble_eq_true rfl) rfl ?_
      refine g_iinc (q := 61) (b := l3 + 1) (L' := [.ref (ad 24), un_, .int r2, .int (l3 + 1)]) dX7_cut_58 rfl rfl rfl (Nat.le_of_ble_eq_true rfl) rfl ?_
      refine g_goto (q := 35) dX7_cut_61 (by decide) ?_
      exact g_weak (L' := [.ref (ad 24), un_, .int r2, .int (l3 + 1)]) ⟨Or.inr rfl, Or.inl rfl, Or.inr rfl, Or.inr rfl, trivial⟩ (h35 _ _ _ H)
def fX7_cut_35 (F : Nat)  : Nat → Sg → Int32 → Int32 → Rs
  | 0 => fun _ _ _ => none
  | n + 1 => fun σ l2 l3 => bX7_cut_35 F  (fX7_cut_35 F  n) σ l2 l3
theorem wfX7_cut_35 {x : FX} {g : GX} {ad : Nat → Nat} {ex M0 : va_W} {r : Int32} {τ : Sg} {F : Nat} (hX : RX x g M0 (Pi_ r (HH g ad τ ++ ex)) 0 0)   : ∀ (n : Nat) (σ : Sg) (l2 : Int32) (l3 : Int32), fX7_cut_35 F  n σ l2 l3 = some (r, τ) → Go x { frames := 3, cells := 0, slots := 0, locals := 70 } tX7_cut g 35 [.ref (ad 24), un_, .int l2, .int l3] [] (HH g ad σ ++ ex) 0 0
  | 0, _, _, _, H => nomatch (show (none : Rs) = some _ from H)
  | n + 1, σ, l2, l3, H => wbX7_cut_35 (F := F) hX  (fun σ2 z2 z3 H2 => wfX7_cut_35 (F := F) hX  n σ2 z2 z3 H2) σ l2 l3 H
def fX7_cut (F : Nat) (σ : Sg) (l1 : Int32) : Rs := if l1 < (0 : Int32) then (some ((-1 : Int32), σ)) else (if (σ.1 21) < l1 then (some ((-1 : Int32), σ)) else (if (σ.1 21) = (0 : Int32) then (some ((-1 : Int32), σ)) else (if l1 ≤ (0 : Int32) then (fX7_cut_35 F F σ ((0 : Int32)) ((1 : Int32))) else ((fX7_cutBehind F σ l1).bind fun q1 => (fun (r1 : Int32) (σ1 : Sg) => some (r1, σ1)) q1.1 q1.2))))
set_option maxRecDepth 100000 in
set_option maxHeartbeats 4000000 in
theorem ctX7_cut {l : Launch} {g : GX} {ad : Nat → Nat} {ex : va_W} {r : Int32} {τ σ : Sg} {F : Nat} {l1 : Int32} (H : fX7_cut F σ l1 = some (r, τ)) : Ct l g yX7_cut tX7_cut 3 70 0 0 [.ref (ad 24), .int l1] (HH g ad σ ++ ex) (Pi_ r (HH g ad τ ++ ex)) := by
  refine Ct.of (L := [.ref (ad 24), .int l1, un_, un_]) (by decide +kernel) rfl rfl rfl (Nat.le_of_ble_eq_true rfl) rfl (fun x _ hX => ?_)
  unfold fX7_cut at H
  refine g_iload_n (q := 1) (i := 1) dX7_cut_0 rfl rfl rfl ?_
  refine g_if_lt (q := 4) (r := 19) dX7_cut_1 (by decide) rfl (fun c1 => ?_) (fun c1 => ?_)
  · replace H := (if_pos c1).symm.trans H
    refine g_iconst (q := 20) (v := -1) dX7_cut_19 rfl (by decide) ?_
    exact g_iret hX dX7_cut_20 rfl rfl (Nat.le_refl _) (Nat.le_refl _) (piOk H)
  · replace H := (if_neg c1).symm.trans H
    refine g_iload_n (q := 5) (i := 1) dX7_cut_4 rfl rfl rfl ?_
    refine g_aload_n (q := 6) (i := 0) dX7_cut_5 rfl rfl rfl ?_
    refine g_get (q := 9) dX7_cut_6 rfl foX7_68 24 hc24 rfl ?_
    refine g_icmp_gt (q := 12) (r := 19) dX7_cut_9 (by decide) rfl (fun c9 => ?_) (fun c9 => ?_)
    · replace H := (if_pos c9).symm.trans H
      refine g_iconst (q := 20) (v := -1) dX7_cut_19 rfl (by decide) ?_
      exact g_iret hX dX7_cut_20 rfl rfl (Nat.le_refl _) (Nat.le_refl _) (piOk H)
    · replace H := (if_neg c9).symm.trans H
      refine g_aload_n (q := 13) (i := 0) dX7_cut_12 rfl rfl rfl ?_
      refine g_get (q := 16) dX7_cut_13 rfl foX7_68 24 hc24 rfl ?_
      refine g_if_ne (q := 19) (r := 21) dX7_cut_16 (by decide) rfl (fun c16 => ?_) (fun c16 => ?_)
      · replace H := (if_neg c16).symm.trans H
        refine g_iload_n (q := 22) (i := 1) dX7_cut_21 rfl rfl rfl ?_
        refine g_if_le (q := 25) (r := 31) dX7_cut_22 (by decide) rfl (fun c22 => ?_) (fun c22 => ?_)
        · replace H := (if_pos c22).symm.trans H
          refine g_iconst (q := 32) (v := 0) dX7_cut_31 rfl (by decide) ?_
          refine g_istore_n (q := 33) (L' := [.ref (ad 24), .int l1, .int ((0 : Int32)), un_]) (i := 2) dX7_cut_32 rfl rfl (Nat.le_of_ble_eq_true rfl) rfl ?_
          refine g_iconst (q := 34) (v := 1) dX7_cut_33 rfl (by decide) ?_
          refine g_istore_n (q := 35) (L' := [.ref (ad 24), .int l1, .int ((0 : Int32)), .int ((1 : Int32))]) (i := 3) dX7_cut_34 rfl rfl (Nat.le_of_ble_eq_true rfl) rfl ?_
          exact g_weak (L' := [.ref (ad 24), un_, .int ((0 : Int32)), .int ((1 : Int32))]) ⟨Or.inr rfl, Or.inl rfl, Or.inr rfl, Or.inr rfl, trivial⟩ (wfX7_cut_35 (F := F) hX  F _ _ _ H)
        · replace H := (if_neg c22).symm.trans H
          refine g_aload_n (q := 26) (i := 0) dX7_cut_25 rfl rfl rfl ?_
          refine g_iload_n (q := 27) (i := 1) dX7_cut_26 rfl rfl rfl ?_
          obtain ⟨r1, σ1, e1, H⟩ := of_bnd H
          refine g_callV (q := 30) (rest := []) dX7_cut_27 rfl cvX7_190 (ctX7_cutBehind e1) rfl rfl ⟨Nat.le_of_ble_eq_true rfl, Nat.le_of_ble_eq_true rfl⟩ ⟨Nat.le_refl _, Nat.le_refl _⟩ (Nat.le_of_ble_eq_true rfl) 24 hc24 rfl (fun r0 M9 hp => ?_)
          obtain ⟨rfl, rfl⟩ := hp
          show Go x _ _ g 30 [.ref (ad 24), .int l1, un_, un_] [.int r1] (HH g ad σ1 ++ ex) 0 0
          exact g_iret hX dX7_cut_30 rfl rfl (Nat.le_refl _) (Nat.le_refl _) (piOk H)
      · replace H := (if_pos c16).symm.trans H
        refine g_iconst (q := 20) (v := -1) dX7_cut_19 rfl (by decide) ?_
        exact g_iret hX dX7_cut_20 rfl rfl (Nat.le_refl _) (Nat.le_refl _) (piOk H)
def fX7_worst (F : Nat) (σ : Sg) (l1 : Int32) : Rs := (fX7_cutOf F σ l1).bind fun q1 => (fun (r1 : Int32) (σ1 : Sg) => if ib l1 4096 then (if r1 ≤ (σ1.2.1 41 l1.toNatClampNeg) then (if ib l1 4096 then (some (σ1.2.1 41 l1.toNatClampNeg, σ1)) else none) else (some (r1, σ1))) else none) q1.1 q1.2
set_option maxRecDepth 100000 in
set_option maxHeartbeats 4000000 in
theorem ctX7_worst {l : Launch} {g : GX} {ad : Nat → Nat} {ex : va_W} {r : Int32} {τ σ : Sg} {F : Nat} {l1 : Int32} (H : fX7_worst F σ l1 = some (r, τ)) : Ct l g yX7_worst tX7_worst 2 47 0 0 [.ref (ad 24), .int l1] (HH g ad σ ++ ex) (Pi_ r (HH g ad τ ++ ex)) := by
  refine Ct.of (L := [.ref (ad 24), .int l1, un_]) (by decide +kernel) rfl rfl rfl (Nat.le_of_ble_eq_true rfl) rfl (fun x _ hX => ?_)
  unfold fX7_worst at H
  refine g_aload_n (q := 1) (i := 0) dX7_worst_0 rfl rfl rfl ?_
  refine g_iload_n (q := 2) (i := 1) dX7_worst_1 rfl rfl rfl ?_
  obtain ⟨r1, σ1, e1, H⟩ := of_bnd H
  refine g_callV (q := 5) (rest := []) dX7_worst_2 rfl cvX7_187 (ctX7_cutOf e1) rfl rfl ⟨Nat.le_of_ble_eq_true rfl, Nat.le_of_ble_eq_true rfl⟩ ⟨Nat.le_refl _, Nat.le_refl _⟩ (Nat.le_of_ble_eq_true rfl) 24 hc24 rfl (fun r0 M9 hp => ?_)
  obtain ⟨rfl, rfl⟩ := hp
  show Go x _ _ g 5 [.ref (ad 24), .int l1, un_] [.int r1] (HH g ad σ1 ++ ex) 0 0
  refine g_istore_n (q := 6) (L' := [.ref (ad 24), .int l1, .int r1]) (i := 2) dX7_worst_5 rfl rfl (Nat.le_of_ble_eq_true rfl) rfl ?_
  refine g_iload_n (q := 7) (i := 2) dX7_worst_6 rfl rfl rfl ?_
  refine g_aload_n (q := 8) (i := 0) dX7_worst_7 rfl rfl rfl ?_
  refine g_get (q := 11) dX7_worst_8 rfl foX7_65 24 hc24 rfl ?_
  refine g_iload_n (q := 12) (i := 1) dX7_worst_11 rfl rfl rfl ?_
  obtain ⟨b12, H⟩ := of_chk H
  refine g_iald (q := 13) dX7_worst_12 rfl 41 hc41 b12 ?_
  refine g_icmp_le (q := 16) (r := 20) dX7_worst_13 (by decide) rfl (fun c13 => ?_) (fun c13 => ?_)
  · replace H := (if_pos c13).symm.trans H
    refine g_aload_n (q := 21) (i := 0) dX7_worst_20 rfl rfl rfl ?_
    refine g_get (q := 24) dX7_worst_21 rfl foX7_65 24 hc24 rfl ?_
    refine g_iload_n (q := 25) (i := 1) dX7_worst_24 rfl rfl rfl ?_
    obtain ⟨b25, H⟩ := of_chk H
    refine g_iald (q := 26) dX7_worst_25 rfl 41 hc41 b25 ?_
    exact g_iret hX dX7_worst_26 rfl rfl (Nat.le_refl _) (Nat.le_refl _) (piOk H)
  · replace H := (if_neg c13).symm.trans H
    refine g_iload_n (q := 17) (i := 2) dX7_worst_16 rfl rfl rfl ?_
    refine g_goto (q := 26) dX7_worst_17 (by decide) ?_
    exact g_iret hX dX7_worst_26 rfl rfl (Nat.le_refl _) (Nat.le_refl _) (piOk H)
