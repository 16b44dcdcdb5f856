def fX7_undo (F : Nat) (σ : Sg)  : Rs := if (σ.1 25) = (0 : Int32) then (some ((0 : Int32), σ)) else (ls_ (sv σ 25 ((σ.1 25) - (1 : Int32))) fun σ1 => some ((1 : Int32), σ1))
set_option maxRecDepth 100000 in
set_option maxHeartbeats 4000000 in
theorem ctX7_undo {l : Launch} {g : GX} {ad : Nat → Nat} {ex : va_W} {r : Int32} {τ σ : Sg} {F : Nat}  (H : fX7_undo F σ  = some (r, τ)) : Ct l g yX7_undo tX7_undo 0 0 0 0 [.ref (ad 24)] (HH g ad σ ++ ex) (Pi_ r (HH g ad τ ++ ex)) := by
  refine Ct.of (L := [.ref (ad 24)]) (by decide +kernel) rfl rfl rfl (Nat.le_of_ble_eq_true rfl) rfl (fun x _ hX => ?_)
  unfold fX7_undo at H
  refine g_aload_n (q := 1) (i := 0) dX7_undo_0 rfl rfl rfl ?_
  refine g_get (q := 4) dX7_undo_1 rfl foX7_107 24 hc24 rfl ?_
  refine g_if_ne (q := 7) (r := 9) dX7_undo_4 (by decide) rfl (fun c4 => ?_) (fun c4 => ?_)
  · replace H := (if_neg c4).symm.trans H
    refine g_aload_n (q := 10) (i := 0) dX7_undo_9 rfl rfl rfl ?_
    refine g_aload_n (q := 11) (i := 0) dX7_undo_10 rfl rfl rfl ?_
    refine g_get (q := 14) dX7_undo_11 rfl foX7_107 24 hc24 rfl ?_
    refine g_iconst (q := 15) (v := 1) dX7_undo_14 rfl (by decide) ?_
    refine g_isub (q := 16) dX7_undo_15 rfl ?_
    obtain ⟨σ1, n1, H⟩ := of_ls H
    refine g_put (q := 19) dX7_undo_16 rfl (fpX7_107 _) 24 hc24 rfl rfl (Nat.le_of_ble_eq_true rfl) (hs25e n1) ?_
    refine g_iconst (q := 20) (v := 1) dX7_undo_19 rfl (by decide) ?_
    exact g_iret hX dX7_undo_20 rfl rfl (Nat.le_refl _) (Nat.le_refl _) (piOk H)
  · replace H := (if_pos c4).symm.trans H
    refine g_iconst (q := 8) (v := 0) dX7_undo_7 rfl (by decide) ?_
    exact g_iret hX dX7_undo_8 rfl rfl (Nat.le_refl _) (Nat.le_refl _) (piOk H)
def bX7_party_4 (F : Nat) (k4 : Sg → Int32 → Int32 → Rs) (σ : Sg) (l1 : Int32) (l2 : Int32) : Rs := if (σ.1 25) < l2 then (some (l1, σ)) else ((fX7_comes F σ l2).bind fun q1 => (fun (r1 : Int32) (σ1 : Sg) => (fX7_below F σ1).bind fun q2 => (fun (r2 : Int32) (σ2 : Sg) => if r2 ≤ l1 then (k4 σ2 (l1) (l2 + 1)) else ((fX7_below F σ2).bind fun q3 => (fun (r3 : Int32) (σ3 : Sg) => k4 σ3 (r3) (l2 + 1)) q3.1 q3.2)) q2.1 q2.2) q1.1 q1.2)
set_option maxRecDepth 100000 in
set_option maxHeartbeats 4000000 in
theorem wbX7_party_4 {x : FX} {g : GX} {ad : Nat → Nat} {ex M0 : va_W} {r : Int32} {τ : Sg} {F : Nat} (hX : RX x g M0 (Pi_ r (HH g ad τ ++ ex)) 0 0) {k4 : Sg → Int32 → Int32 → Rs} (h4 : ∀ (σ : Sg) (l1 : Int32) (l2 : Int32), k4 σ l1 l2 = some (r, τ) → Go x { frames := 1, cells := 0, slots := 0, locals := 22 } tX7_party g 4 [.ref (ad 24), .int l1, .int l2] [] (HH g ad σ ++ ex) 0 0) (σ : Sg) (l1 : Int32) (l2 : Int32) (H : bX7_party_4 F k4 σ l1 l2 = some (r, τ)) : Go x { frames := 1, cells := 0, slots := 0, locals := 22 } tX7_party g 4 [.ref (ad 24), .int l1, .int l2] [] (HH g ad σ ++ ex) 0 0 := by
  unfold bX7_party_4 at H
  refine g_iload_n (q := 5) (i := 2) dX7_party_4 rfl rfl rfl ?_
  refine g_aload_n (q := 6) (i := 0) dX7_party_5 rfl rfl rfl ?_
  refine g_get (q := 9) dX7_party_6 rfl foX7_107 24 hc24 rfl ?_
  refine g_icmp_gt (q := 12) (r := 36) dX7_party_9 (by decide) rfl (fun c9 => ?_) (fun c9 => ?_)
  · replace H := (if_pos c9).symm.trans H
    refine g_iload_n (q := 37) (i := 1) dX7_party_36 rfl rfl rfl ?_
    exact g_iret hX dX7_party_37 rfl rfl (Nat.le_refl _) (Nat.le_refl _) (piOk H)
  · replace H := (if_neg c9).symm.trans H
    refine g_aload_n (q := 13) (i := 0) dX7_party_12 rfl rfl rfl ?_
    refine g_iload_n (q := 14) (i := 2) dX7_party_13 rfl rfl rfl ?_
    obtain ⟨r1, σ1, e1, H⟩ := of_bnd H
    refine g_callV (q := 17) (rest := []) dX7_party_14 rfl cvX7_120 (ctX7_comes e1) rfl rfl ⟨Nat.le_of_ble_eq_true rfl, Nat.le_of_ble_eq_true rfl⟩ ⟨Nat.le_refl _, Nat.le_refl _⟩ (Nat.le_of_ble_eq_true rfl) 24 hc24 rfl (fun r0 M9 hp => ?_)
    obtain ⟨rfl, rfl⟩ := hp
    show Go x _ _ g 17 [.ref (ad 24), .int l1, .int l2] [] (HH g ad σ1 ++ ex) 0 0
    refine g_aload_n (q := 18) (i := 0) dX7_party_17 rfl rfl rfl ?_
    obtain ⟨r2, σ2, e2, H⟩ := of_bnd H
    refine g_callV (q := 21) (rest := []) dX7_party_18 rfl cvX7_123 (ctX7_below e2) rfl rfl ⟨Nat.le_of_ble_eq_true rfl, Nat.le_of_ble_eq_true rfl⟩ ⟨Nat.le_refl _, Nat.le_refl _⟩ (Nat.le_of_ble_eq_true rfl) 24 hc24 rfl (fun r0 M9 hp => ?_)
    obtain ⟨rfl, rfl⟩ := hp
    show Go x _ _ g 21 [.ref (ad 24), .int l1, .int l2] [.int r2] (HH g ad σ2 ++ ex) 0 0
    refine g_iload_n (q := 22) (i := 1) dX7_party_21 rfl rfl rfl ?_
    refine g_icmp_le (q := 25) (r := 30) dX7_party_22 (by decide) rfl (fun c22 => ?_) (fun c22 => ?_)
    · replace H := (if_pos c22).symm.trans H
      refine g_iinc (q := 33) (b := l2 + 1) (L' := [.ref (ad 24), .int l1, .int (l2 + 1)]) dX7_party_30 rfl rfl rfl (Nat.le_of_ble_eq_true rfl) rfl ?_
      refine g_goto (q := 4) dX7_party_33 (by decide) ?_
      exact g_weak (L' := [.ref (ad 24), .int l1, .int (l2 + 1)]) ⟨Or.inr rfl, Or.inr rfl, Or.inr rfl, trivial⟩ (h4 _ _ _ H)
    · replace H := (if_neg c22).symm.trans H
      refine g_aload_n (q := 26) (i := 0) dX7_party_25 rfl rfl rfl ?_
      obtain ⟨r3, σ3, e3, H⟩ := of_bnd H
      refine g_callV (q := 29) (rest := []) dX7_party_26 rfl cvX7_123 (ctX7_below e3) rfl rfl ⟨Nat.le_of_ble_eq_true rfl, Nat.le_of_ble_eq_true rfl⟩ ⟨Nat.le_refl _, Nat.le_refl _⟩ (Nat.le_of_ble_eq_true rfl) 24 hc24 rfl (fun r0 M9 hp => ?_)
      obtain ⟨rfl, rfl⟩ := hp
      show Go x _ _ g 29 [.ref (ad 24), .int l1, .int l2] [.int r3] (HH g ad σ3 ++ ex) 0 0
      refine g_istore_n (q := 30) (L' := [.ref (ad 24), .int r3, .int l2]) (i := 1) dX7_party_29 rfl rfl (Nat.le_of_ble_eq_true rfl) rfl ?_
      refine g_iinc (q := 33) (b := l2 + 1) (L' := [.ref (ad 24), .int r3, .int (l2 + 1)]) dX7_party_30 rfl rfl rfl (Nat.le_of_ble_eq_true rfl) rfl ?_
      refine g_goto (q := 4) dX7_party_33 (by decide) ?_
      exact g_weak (L' := [.ref (ad 24), .int r3, .int (l2 + 1)]) ⟨Or.inr rfl, Or.inr rfl, Or.inr rfl, trivial⟩ (h4 _ _ _ H)
def fX7_party_4 (F : Nat)  : Nat → Sg → Int32 → Int32 → Rs
  | 0 => fun _ _ _ => none
  | n + 1 => fun σ l1 l2 => bX7_party_4 F  (fX7_party_4 F  n) σ l1 l2
theorem wfX7_party_4 {x : FX} {g : GX} {ad : Nat → Nat} {ex M0 : va_W} {r : Int32} {τ : Sg} {F : Nat} (hX : RX x g M0 (Pi_ r (HH g ad τ ++ ex)) 0 0)   : ∀ (n : Nat) (σ : Sg) (l1 : Int32) (l2 : Int32), fX7_party_4 F  n σ l1 l2 = some (r, τ) → Go x { frames := 1, cells := 0, slots := 0, locals := 22 } tX7_party g 4 [.ref (ad 24), .int l1, .int l2] [] (HH g ad σ ++ ex) 0 0
  | 0, _, _, _, H => nomatch (show (none : Rs) = some _ from H)
  | n + 1, σ, l1, l2, H => wbX7_party_4 (F := F) hX  (fun σ2 z1 z2 H2 => wfX7_party_4 (F := F) hX  n σ2 z1 z2 H2) σ l1 l2 H
def fX7_party (F : Nat) (σ : Sg)  : Rs := fX7_party_4 F F σ ((0 : Int32)) ((0 : Int32))
set_option maxRecDepth 100000 in
set_option maxHeartbeats 4000000 in
theorem ctX7_party {l : Launch} {g : GX} {ad : Nat → Nat} {ex : va_W} {r : Int32} {τ σ : Sg} {F : Nat}  (H : fX7_party F σ  = some (r, τ)) : Ct l g yX7_party tX7_party 1 22 0 0 [.ref (ad 24)] (HH g ad σ ++ ex) (Pi_ r (HH g ad τ ++ ex)) := by
  refine Ct.of (L := [.ref (ad 24), un_, un_]) (by decide +kernel) rfl rfl rfl (Nat.le_of_ble_eq_true rfl) rfl (fun x _ hX => ?_)
  unfold fX7_party at H
  refine g_iconst (q := 1) (v := 0) dX7_party_0 rfl (by decide) ?_
  refine g_istore_n (q := 2) (L' := [.ref (ad 24), .int ((0 : Int32)), un_]) (i := 1) dX7_party_1 rfl rfl (Nat.le_of_ble_eq_true rfl) rfl ?_
  refine g_iconst (q := 3) (v := 0) dX7_party_2 rfl (by decide) ?_
  refine g_istore_n (q := 4) (L' := [.ref (ad 24), .int ((0 : Int32)), .int ((0 : Int32))]) (i := 2) dX7_party_3 rfl rfl (Nat.le_of_ble_eq_true rfl) rfl ?_
  exact g_weak (L' := [.ref (ad 24), .int ((0 : Int32)), .int ((0 : Int32))]) ⟨Or.inr rfl, Or.inr rfl, Or.inr rfl, trivial⟩ (wfX7_party_4 (F := F) hX  F _ _ _ H)
def bX7_bits_4 (F : Nat) (k4 : Sg → Int32 → Int32 → Int32 → Rs) (σ : Sg) (l0 : Int32) (l1 : Int32) (l2 : Int32) : Rs := if (18 : Int32) ≤ l2 then (some (l1, σ)) else (li_ (l1 + ((l0 >>> (l2 &&& 31)) &&& (1 : Int32))) fun v1 => k4 σ (l0) (v1) (l2 + 1))
set_option maxRecDepth 100000 in
set_option maxHeartbeats 4000000 in
theorem wbX7_bits_4 {x : FX} {g : GX} {ad : Nat → Nat} {ex M0 : va_W} {r : Int32} {τ : Sg} {F : Nat} (hX : RX x g M0 (Pi_ r (HH g ad τ ++ ex)) 0 0) {k4 : Sg → Int32 → Int32 → Int32 → Rs} (h4 : ∀ (σ : Sg) (l0 : Int32) (l1 : Int32) (l2 : Int32), k4 σ l0 l1 l2 = some (r, τ) → Go x { frames := 0, cells := 0, slots := 0, locals := 0 } tX7_bits g 4 [.int l0, .int l1, .int l2] [] (HH g ad σ ++ ex) 0 0) (σ : Sg) (l0 : Int32) (l1 : Int32) (l2 : Int32) (H : bX7_bits_4 F k4 σ l0 l1 l2 = some (r, τ)) : Go x { frames := 0, cells := 0, slots := 0, locals := 0 } tX7_bits g 4 [.int l0, .int l1, .int l2] [] (HH g ad σ ++ ex) 0 0 := by
  unfold bX7_bits_4 at H
  refine g_iload_n (q := 5) (i := 2) dX7_bits_4 rfl rfl rfl ?_
  refine g_bipush (q := 7) (v := 18) dX7_bits_5 rfl (by decide) ?_
  refine g_icmp_ge (q := 10) (r := 24) dX7_bits_7 (by decide) rfl (fun c7 => ?_) (fun c7 => ?_)
  · replace H := (if_pos c7).symm.trans H
    refine g_iload_n (q := 25) (i := 1) dX7_bits_24 rfl rfl rfl ?_
    exact g_iret hX dX7_bits_25 rfl rfl (Nat.le_refl _) (Nat.le_refl _) (piOk H)
  · replace H := (if_neg c7).symm.trans H
    refine g_iload_n (q := 11) (i := 1) dX7_bits_10 rfl rfl rfl ?_
    refine g_iload_n (q := 12) (i := 0) dX7_bits_11 rfl rfl rfl ?_
    refine g_iload_n (q := 13) (i := 2) dX7_bits_12 rfl rfl rfl ?_
    refine g_ishr (q := 14) dX7_bits_13 rfl ?_
    refine g_iconst (q := 15) (v := 1) dX7_bits_14 rfl (by decide) ?_
    refine g_iand (q := 16) dX7_bits_15 rfl ?_
    refine g_iadd (q := 17) dX7_bits_16 rfl ?_
    obtain ⟨v1, n1, H⟩ := of_li H
    refine g_name n1 ?_
    refine g_istore_n (q := 18) (L' := [.int l0, .int v1, .int l2]) (i := 1) dX7_bits_17 rfl rfl (Nat.le_of_ble_eq_true rfl) rfl ?_
    refine g_iinc (q := 21) (b := l2 + 1) (L' := [.int l0, .int v1, .int (l2 + 1)]) dX7_bits_18 rfl rfl rfl (Nat.le_of_ble_eq_true rfl) rfl ?_
    refine g_goto (q := 4) dX7_bits_21 (by decide) ?_
    exact g_weak (L' := [.int l0, .int v1, .int (l2 + 1)]) ⟨Or.inr rfl, Or.inr rfl, Or.inr rfl, trivial⟩ (h4 _ _ _ _ H)
def fX7_bits_4 (F : Nat)  : Nat → Sg → Int32 → Int32 → Int32 → Rs
  | 0 => fun _ _ _ _ => none
  | n + 1 => fun σ l0 l1 l2 => bX7_bits_4 F  (fX7_bits_4 F  n) σ l0 l1 l2
theorem wfX7_bits_4 {x : FX} {g : GX} {ad : Nat → Nat} {ex M0 : va_W} {r : Int32} {τ : Sg} {F : Nat} (hX : RX x g M0 (Pi_ r (HH g ad τ ++ ex)) 0 0)   : ∀ (n : Nat) (σ : Sg) (l0 : Int32) (l1 : Int32) (l2 : Int32), fX7_bits_4 F  n σ l0 l1 l2 = some (r, τ) → Go x { frames := 0, cells := 0, slots := 0, locals := 0 } tX7_bits g 4 [.int l0, .int l1, .int l2] [] (HH g ad σ ++ ex) 0 0
  | 0, _, _, _, _, H => nomatch (show (none : Rs) = some _ from H)
  | n + 1, σ, l0, l1, l2, H => wbX7_bits_4 (F := F) hX  (fun σ2 z0 z1 z2 H2 => wfX7_bits_4 (F := F) hX  n σ2 z0 z1 z2 H2) σ l0 l1 l2 H
def fX7_bits (F : Nat) (σ : Sg) (l0 : Int32) : Rs := fX7_bits_4 F F σ (l0) ((0 : Int32)) ((0 : Int32))
set_option maxRecDepth 100000 in
set_option maxHeartbeats 4000000 in
theorem ctX7_bits {l : Launch} {g : GX} {ad : Nat → Nat} {ex : va_W} {r : Int32} {τ σ : Sg} {F : Nat} {l0 : Int32} (H : fX7_bits F σ l0 = some (r, τ)) : Ct l g yX7_bits tX7_bits 0 0 0 0 [.int l0] (HH g ad σ ++ ex) (Pi_ r (HH g ad τ ++ ex)) := by
  refine Ct.of (L := [.int l0, un_, un_]) (by decide +kernel) rfl rfl rfl (Nat.le_of_ble_eq_true rfl) rfl (fun x _ hX => ?_)
  unfold fX7_bits at H
  refine g_iconst (q := 1) (v := 0) dX7_bits_0 rfl (by decide) ?_
  refine g_istore_n (q := 2) (L' := [.int l0, .int ((0 : Int32)), un_]) (i := 1) dX7_bits_1 rfl rfl (Nat.le_of_ble_eq_true rfl) rfl ?_
  refine g_iconst (q := 3) (v := 0) dX7_bits_2 rfl (by decide) ?_
  refine g_istore_n (q := 4) (L' := [.int l0, .int ((0 : Int32)), .int ((0 : Int32))]) (i := 2) dX7_bits_3 rfl rfl (Nat.le_of_ble_eq_true rfl) rfl ?_
  exact g_weak (L' := [.int l0, .int ((0 : Int32)), .int ((0 : Int32))]) ⟨Or.inr rfl, Or.inr rfl, Or.inr rfl, trivial⟩ (wfX7_bits_4 (F := F) hX  F _ _ _ _ H)
def bX7_passages_4 (F : Nat) (k4 : Sg → Int32 → Int32 → Rs) (σ : Sg) (l1 : Int32) (l2 : Int32) : Rs := if (18 : Int32) ≤ l2 then (some (l1, σ)) else (if ib l2 18 then (if (σ.2.1 27 l2.toNatClampNeg) = (0 : Int32) then (li_ (l1 + (0 : Int32)) fun v1 => k4 σ (v1) (l2 + 1)) else (li_ (l1 + (1 : Int32)) fun v2 => k4 σ (v2) (l2 + 1))) else none)
set_option maxRecDepth 100000 in
set_option maxHeartbeats 4000000 in
theorem wbX7_passages_4 {x : FX} {g : GX} {ad : Nat → Nat} {ex M0 : va_W} {r : Int32} {τ : Sg} {F : Nat} (hX : RX x g M0 (Pi_ r (HH g ad τ ++ ex)) 0 0) {k4 : Sg → Int32 → Int32 → Rs} (h4 : ∀ (σ : Sg) (l1 : Int32) (l2 : Int32), k4 σ l1 l2 = some (r, τ) → Go x { frames := 0, cells := 0, slots := 0, locals := 0 } tX7_passages g 4 [.ref (ad 24), .int l1, .int l2] [] (HH g ad σ ++ ex) 0 0) (σ : Sg) (l1 : Int32) (l2 : Int32) (H : bX7_passages_4 F k4 σ l1 l2 = some (r, τ)) : Go x { frames := 0, cells := 0, slots := 0, locals := 0 } tX7_passages g 4 [.ref (ad 24), .int l1, .int l2] [] (HH g ad σ ++ ex) 0 0 := by
  unfold bX7_passages_4 at H
  refine g_iload_n (q := 5) (i := 2) dX7_passages_4 rfl rfl rfl ?_
  refine g_bipush (q := 7) (v := 18) dX7_passages_5 rfl (by decide) ?_
  refine g_icmp_ge (q := 10) (r := 33) dX7_passages_7 (by decide) rfl (fun c7 => ?_) (fun c7 => ?_)
  · replace H := (if_pos c7).symm.trans H
    refine g_iload_n (q := 34) (i := 1) dX7_passages_33 rfl rfl rfl ?_
    exact g_iret hX dX7_passages_34 rfl rfl (Nat.le_refl _) (Nat.le_refl _) (piOk H)
  · replace H := (if_neg c7).symm.trans H
    refine g_iload_n (q := 11) (i := 1) dX7_passages_10 rfl rfl rfl ?_
    refine g_aload_n (q := 12) (i := 0) dX7_passages_11 rfl rfl rfl ?_
    refine g_get (q := 15) dX7_passages_12 rfl foX7_16 24 hc24 rfl ?_
    refine g_iload_n (q := 16) (i := 2) dX7_passages_15 rfl rfl rfl ?_
    obtain ⟨b16, H⟩ := of_chk H
    refine g_zald (q := 17) dX7_passages_16 rfl 27 hc27 b16 ?_
    refine g_if_eq (q := 20) (r := 24) dX7_passages_17 (by decide) rfl (fun c17 => ?_) (fun c17 => ?_)
    · replace H := (if_pos c17).symm.trans H
      refine g_iconst (q := 25) (v := 0) dX7_passages_24 rfl (by decide) ?_
      refine g_iadd (q := 26) dX7_passages_25 rfl ?_
      obtain ⟨v1, n1, H⟩ := of_li H
      refine g_name n1 ?_
      refine g_istore_n (q := 27) (L' := [.ref (ad 24), .int v1, .int l2]) (i := 1) dX7_passages_26 rfl rfl (Nat.le_of_ble_eq_true rfl) rfl ?_
      refine g_iinc (q := 30) (b := l2 + 1) (L' := [.ref (ad 24), .int v1, .int (l2 + 1)]) dX7_passages_27 rfl rfl rfl (Nat.le_of_ble_eq_true rfl) rfl ?_
      refine g_goto (q := 4) dX7_passages_30 (by decide) ?_
      exact g_weak (L' := [.ref (ad 24), .int v1, .int (l2 + 1)]) ⟨Or.inr rfl, Or.inr rfl, Or.inr rfl, trivial⟩ (h4 _ _ _ H)
    · replace H := (if_neg c17).symm.trans H
      refine g_iconst (q := 21) (v := 1) dX7_passages_20 rfl (by decide) ?_
      refine g_goto (q := 25) dX7_passages_21 (by decide) ?_
      refine g_iadd (q := 26) dX7_passages_25 rfl ?_
      obtain ⟨v2, n2, H⟩ := of_li H
      refine g_name n2 ?_
      refine g_istore_n (q := 27) (L' := [.ref (ad 24), .int v2, .int l2]) (i := 1) dX7_passages_26 rfl rfl (Nat.le_of_ble_eq_true rfl) rfl ?_
      refine g_iinc (q := 30) (b := l2 + 1) (L' := [.ref (ad 24), .int v2, .int (l2 + 1)]) dX7_passages_27 rfl rfl rfl (Nat.le_of_ble_eq_true rfl) rfl ?_
      refine g_goto (q := 4) dX7_passages_30 (by decide) ?_
      exact g_weak (L' := [.ref (ad 24), .int v2, .int (l2 + 1)]) ⟨Or.inr rfl, Or.inr rfl, Or.inr rfl, trivial⟩ (h4 _ _ _ H)
def fX7_passages_4 (F : Nat)  : Nat → Sg → Int32 → Int32 → Rs
  | 0 => fun _ _ _ => none
  | n + 1 => fun σ l1 l2 => bX7_passages_4 F  (fX7_passages_4 F  n) σ l1 l2
theorem wfX7_passages_4 {x : FX} {g : GX} {ad : Nat → Nat} {ex M0 : va_W} {r : Int32} {τ : Sg} {F : Nat} (hX : RX x g M0 (Pi_ r (HH g ad τ ++ ex)) 0 0)   : ∀ (n : Nat) (σ : Sg) (l1 : Int32) (l2 : Int32), fX7_passages_4 F  n σ l1 l2 = some (r, τ) → Go x { frames := 0, cells := 0, slots := 0, locals := 0 } tX7_passages g 4 [.ref (ad 24), .int l1, .int l2] [] (HH g ad σ ++ ex) 0 0
  | 0, _, _, _, H => nomatch (show (none : Rs) = some _ from H)
  | n + 1, σ, l1, l2, H => wbX7_passages_4 (F := F) hX  (fun σ2 z1 z2 H2 => wfX7_passages_4 (F := F) hX  n σ2 z1 z2 H2) σ l1 l2 H
def fX7_passages (F : Nat) (σ : Sg)  : Rs := fX7_passages_4 F F σ ((0 : Int32)) ((0 : Int32))
set_option maxRecDepth 100000 in
set_option maxHeartbeats 4000000 in
theorem ctX7_passages {l : Launch} {g : GX} {ad : Nat → Nat} {ex : va_W} {r : Int32} {τ σ : Sg} {F : Nat}  (H : fX7_passages F σ  = some (r, τ)) : Ct l g yX7_passages tX7_passages 0 0 0 0 [.ref (ad 24)] (HH g ad σ ++ ex) (Pi_ r (HH g ad τ ++ ex)) := by
  refine Ct.of (L := [.ref (ad 24), un_, un_]) (by decide +kernel) rfl rfl rfl (Nat.le_of_ble_eq_true rfl) rfl (fun x _ hX => ?_)
  unfold fX7_passages at H
  refine g_iconst (q := 1) (v := 0) dX7_passages_0 rfl (by decide) ?_
  refine g_istore_n (q := 2) (L' := [.ref (ad 24), .int ((0 : Int32)), un_]) (i := 1) dX7_passages_1 rfl rfl (Nat.le_of_ble_eq_true rfl) rfl ?_
  refine g_iconst (q := 3) (v := 0) dX7_passages_2 rfl (by decide) ?_
  refine g_istore_n (q := 4) (L' := [.ref (ad 24), .int ((0 : Int32)), .int ((0 : Int32))]) (i := 2) dX7_passages_3 rfl rfl (Nat.le_of_ble_eq_true rfl) rfl ?_
  exact g_weak (L' := [.ref (ad 24), .int ((0 : Int32)), .int ((0 : Int32))]) ⟨Or.inr rfl, Or.inr rfl, Or.inr rfl, trivial⟩ (wfX7_passages_4 (F := F) hX  F _ _ _ H)
def bX7_reached_75 (F : Nat) (k5 : Sg → Int32 → Int32 → Int32 → Rs) (k16 : Sg → Int32 → Int32 → Int32 → Int32 → Rs) (σ : Sg) (l2 : Int32) (l3 : Int32) (l5 : Int32) (l6 : Int32) : Rs := if ib l6 18 then (if ib l6 18 then (li_ ((l3 ||| ((1 : Int32) <<< ((σ.2.1 25 l6.toNatClampNeg) &&& 31))) ||| ((1 : Int32) <<< ((σ.2.1 26 l6.toNatClampNeg) &&& 31))) fun v1 => k16 σ (l2) (v1) (l5) (l6 + 1)) else none) else none
set_option maxRecDepth 100000 in
set_option maxHeartbeats 4000000 in
theorem wbX7_reached_75 {x : FX} {g : GX} {ad : Nat → Nat} {ex M0 : va_W} {r : Int32} {τ : Sg} {F : Nat} (hX : RX x g M0 (Pi_ r (HH g ad τ ++ ex)) 0 0) {k5 : Sg → Int32 → Int32 → Int32 → Rs} {k16 : Sg → Int32 → Int32 → Int32 → Int32 → Rs} (h5 : ∀ (σ : Sg) (l2 : Int32) (l3 : Int32) (l4 : Int32), k5 σ l2 l3 l4 = some (r, τ) → Go x { frames := 0, cells := 0, slots := 0, locals := 0 } tX7_reached g 5 [.ref (ad 24), un_, .int l2, .int l3, .int l4, un_, un_] [] (HH g ad σ ++ ex) 0 0) (h16 : ∀ (σ : Sg) (l2 : Int32) (l3 : Int32) (l5 : Int32) (l6 : Int32), k16 σ l2 l3 l5 l6 = some (r, τ) → Go x { frames := 0, cells := 0, slots := 0, locals := 0 } tX7_reached g 16 [.ref (ad 24), un_, .int l2, .int l3, un_, .int l5, .int l6] [] (HH g ad σ ++ ex) 0 0) (σ : Sg) (l2 : Int32) (l3 : Int32) (l5 : Int32) (l6 : Int32) (H : bX7_reached_75 F k5 k16 σ l2 l3 l5 l6 = some (r, τ)) : Go x { frames := 0, cells := 0, slots := 0, locals := 0 } tX7_reached g 75 [.ref (ad 24), un_, .int l2, .int l3, un_, .int l5, .int l6] [] (HH g ad σ ++ ex) 0 0 := by
  unfold bX7_reached_75 at H
  refine g_iload_n (q := 76) (i := 3) dX7_reached_75 rfl rfl rfl ?_
  refine g_iconst (q := 77) (v := 1) dX7_reached_76 rfl (by decide) ?_
  refine g_aload_n (q := 78) (i := 0) dX7_reached_77 rfl rfl rfl ?_
  refine g_get (q := 81) dX7_reached_78 rfl foX7_7 24 hc24 rfl ?_
  refine g_iload (q := 83) dX7_reached_81 rfl rfl ?_
  obtain ⟨b83, H⟩ := of_chk H
  refine g_iald (q := 84) dX7_reached_83 rfl 25 hc25 b83 ?_
  refine g_ishl (q := 85) dX7_reached_84 rfl ?_
  refine g_ior (q := 86) dX7_reached_85 rfl ?_
  refine g_iconst (q := 87) (v := 1) dX7_reached_86 rfl (by decide) ?_
  refine g_aload_n (q := 88) (i := 0) dX7_reached_87 rfl rfl rfl ?_
  refine g_get (q := 91) dX7_reached_88 rfl foX7_13 24 hc24 rfl ?_
  refine g_iload (q := 93) dX7_reached_91 rfl rfl ?_
  obtain ⟨b93, H⟩ := of_chk H
  refine g_iald (q := 94) dX7_reached_93 rfl 26 hc26 b93 ?_
  refine g_ishl (q := 95) dX7_reached_94 rfl ?_
  refine g_ior (q := 96) dX7_reached_95 rfl ?_
  obtain ⟨v1, n1, H⟩ := of_li H
  refine g_name n1 ?_
  refine g_istore_n (q := 97) (L' := [.ref (ad 24), un_, .int l2, .int v1, un_, .int l5, .int l6]) (i := 3) dX7_reached_96 rfl rfl (Nat.le_of_ble_eq_true rfl) rfl ?_
  refine g_iinc (q := 100) (b := l6 + 1) (L' := [.ref (ad 24), un_, .int l2, .int v1, un_, .int l5, .int (l6 + 1)]) dX7_reached_97 rfl rfl rfl (Nat.le_of_ble_eq_true rfl) rfl ?_
  refine g_goto (q := 16) dX7_reached_100 (by decide) ?_
  exact g_weak (L' := [.ref (ad 24), un_, .int l2, .int v1, un_, .int l5, .int (l6 + 1)]) ⟨Or.inr rfl, Or.inl rfl, Or.inr rfl, Or.inr rfl, Or.inl rfl, Or.inr rfl, Or.inr rfl, trivial⟩ (h16 _ _ _ _ _ H)
def bX7_reached_16 (F : Nat) (k5 : Sg → Int32 → Int32 → Int32 → Rs) (k16 : Sg → Int32 → Int32 → Int32 → Int32 → Rs) (σ : Sg) (l2 : Int32) (l3 : Int32) (l5 : Int32) (l6 : Int32) : Rs := if (18 : Int32) ≤ l6 then (if l3 = l5 then (k5 σ (l2) (l3) ((0 : Int32))) else (k5 σ (l2) (l3) ((1 : Int32)))) else (if ib l6 18 then (if (σ.2.1 27 l6.toNatClampNeg) = (0 : Int32) then (k16 σ (l2) (l3) (l5) (l6 + 1)) else (if ((l2 >>> (l6 &&& 31)) &&& (1 : Int32)) = (0 : Int32) then (k16 σ (l2) (l3) (l5) (l6 + 1)) else (if ib l6 18 then (if ((l3 >>> ((σ.2.1 25 l6.toNatClampNeg) &&& 31)) &&& (1 : Int32)) = (1 : Int32) then (bX7_reached_75 F k5 k16 σ (l2) (l3) (l5) (l6)) else (if ib l6 18 then (if ((l3 >>> ((σ.2.1 26 l6.toNatClampNeg) &&& 31)) &&& (1 : Int32)) = (1 : Int32) then (bX7_reached_75 F k5 k16 σ (l2) (l3) (l5) (l6)) else (k16 σ (l2) (l3) (l5) (l6 + 1))) else none)) else none))) else none)
set_option maxRecDepth 100000 in
set_option maxHeartbeats 4000000 in
theorem wbX7_reached_16 {x : FX} {g : GX} {ad : Nat → Nat} {ex M0 : va_W} {r : Int32} {τ : Sg} {F : Nat} (hX : RX x g M0 (Pi_ r (HH g ad τ ++ ex)) 0 0) {k5 : Sg → Int32 → Int32 → Int32 → Rs} {k16 : Sg → Int32 → Int32 → Int32 → Int32 → Rs} (h5 : ∀ (σ : Sg) (l2 : Int32) (l3 : Int32) (l4 : Int32), k5 σ l2 l3 l4 = some (r, τ) → Go x { frames := 0, cells := 0, slots := 0, locals := 0 } tX7_reached g 5 [.ref (ad 24), un_, .int l2, .int l3, .int l4, un_, un_] [] (HH g ad σ ++ ex) 0 0) (h16 : ∀ (σ : Sg) (l2 : Int32) (l3 : Int32) (l5 : Int32) (l6 : Int32), k16 σ l2 l3 l5 l6 = some (r, τ) → Go x { frames := 0, cells := 0, slots := 0, locals := 0 } tX7_reached g 16 [.ref (ad 24), un_, .int l2, .int l3, un_, .int l5, .int l6] [] (HH g ad σ ++ ex) 0 0) (σ : Sg) (l2 : Int32) (l3 : Int32) (l5 : Int32) (l6 : Int32) (H : bX7_reached_16 F k5 k16 σ l2 l3 l5 l6 = some (r, τ)) : Go x { frames := 0, cells := 0, slots := 0, locals := 0 } tX7_reached g 16 [.ref (ad 24), un_, .int l2, .int l3, un_, .int l5, .int l6] [] (HH g ad σ ++ ex) 0 0 := by
  unfold bX7_reached_16 at H
  refine g_iload (q := 18) dX7_reached_16 rfl rfl ?_
  refine g_bipush (q := 20) (v := 18) dX7_reached_18 rfl (by decide) ?_
  refine g_icmp_ge (q := 23) (r := 103) dX7_reached_20 (by decide) rfl (fun c20 => ?_) (fun c20 => ?_)
  · replace H := (if_pos c20).symm.trans H
    refine g_iload_n (q := 104) (i := 3) dX7_reached_103 rfl rfl rfl ?_
    refine g_iload (q := 106) dX7_reached_104 rfl rfl ?_
    refine g_icmp_eq (q := 109) (r := 113) dX7_reached_106 (by decide) rfl (fun c106 => ?_) (fun c106 => ?_)
    · replace H := (if_pos c106).symm.trans H
      refine g_iconst (q := 114) (v := 0) dX7_reached_113 rfl (by decide) ?_
      refine g_istore (q := 116) (L' := [.ref (ad 24), un_, .int l2, .int l3, .int ((0 : Int32)), .int l5, .int l6]) dX7_reached_114 rfl (Nat.le_of_ble_eq_true rfl) rfl ?_
      refine g_goto (q := 5) dX7_reached_116 (by decide) ?_
      exact g_weak (L' := [.ref (ad 24), un_, .int l2, .int l3, .int ((0 : Int32)), un_, un_]) ⟨Or.inr rfl, Or.inl rfl, Or.inr rfl, Or.inr rfl, Or.inr rfl, Or.inl rfl, Or.inl rfl, trivial⟩ (h5 _ _ _ _ H)
    · replace H := (if_neg c106).symm.trans H
      refine g_iconst (q := 110) (v := 1) dX7_reached_109 rfl (by decide) ?_
      refine g_goto (q := 114) dX7_reached_110 (by decide) ?_
      refine g_istore (q := 116) (L' := [.ref (ad 24), un_, .int l2, .int l3, .int ((1 : Int32)), .int l5, .int l6]) dX7_reached_114 rfl (Nat.le_of_ble_eq_true rfl) rfl ?_
      refine g_goto (q := 5) dX7_reached_116 (by decide) ?_
      exact g_weak (L' := [.ref (ad 24), un_, .int l2, .int l3, .int ((1 : Int32)), un_, un_]) ⟨Or.inr rfl, Or.inl rfl, Or.inr rfl, Or.inr rfl, Or.inr rfl, Or.inl rfl, Or.inl rfl, trivial⟩ (h5 _ _ _ _ H)
  · replace H := (if_neg c20).symm.trans H
    refine g_aload_n (q := 24) (i := 0) dX7_reached_23 rfl rfl rfl ?_
    refine g_get (q := 27) dX7_reached_24 rfl foX7_16 24 hc24 rfl ?_
    refine g_iload (q := 29) dX7_reached_27 rfl rfl ?_
    obtain ⟨b29, H⟩ := of_chk H
    refine g_zald (q := 30) dX7_reached_29 rfl 27 hc27 b29 ?_
    refine g_if_eq (q := 33) (r := 97) dX7_reached_30 (by decide) rfl (fun c30 => ?_) (fun c30 => ?_)
    · replace H := (if_pos c30).symm.trans H
      refine g_iinc (q := 100) (b := l6 + 1) (L' := [.ref (ad 24), un_, .int l2, .int l3, un_, .int l5, .int (l6 + 1)]) dX7_reached_97 rfl rfl rfl (Nat.le_of_ble_eq_true rfl) rfl ?_
      refine g_goto (q := 16) dX7_reached_100 (by decide) ?_
      exact g_weak (L' := [.ref (ad 24), un_, .int l2, .int l3, un_, .int l5, .int (l6 + 1)]) ⟨Or.inr rfl, Or.inl rfl, Or.inr rfl, Or.inr rfl, Or.inl rfl, Or.inr rfl, Or.inr rfl, trivial⟩ (h16 _ _ _ _ _ H)
    · replace H := (if_neg c30).symm.trans H
      refine g_iload_n (q := 34) (i := 2) dX7_reached_33 rfl rfl rfl ?_
      refine g_iload (q := 36) dX7_reached_34 rfl rfl ?_
      refine g_ishr (q := 37) dX7_reached_36 rfl ?_
      refine g_iconst (q := 38) (v := 1) dX7_reached_37 rfl (by decide) ?_
      refine g_iand (q := 39) dX7_reached_38 rfl ?_
      refine g_if_ne (q := 42) (r := 45) dX7_reached_39 (by decide) rfl (fun c39 => ?_) (fun c39 => ?_)
      · replace H := (if_neg c39).symm.trans H
        refine g_iload_n (q := 46) (i := 3) dX7_reached_45 rfl rfl rfl ?_
        refine g_aload_n (q := 47) (i := 0) dX7_reached_46 rfl rfl rfl ?_
        refine g_get (q := 50) dX7_reached_47 rfl foX7_7 24 hc24 rfl ?_
        refine g_iload (q := 52) dX7_reached_50 rfl rfl ?_
        obtain ⟨b52, H⟩ := of_chk H
        refine g_iald (q := 53) dX7_reached_52 rfl 25 hc25 b52 ?_
        refine g_ishr (q := 54) dX7_reached_53 rfl ?_
        refine g_iconst (q := 55) (v := 1) dX7_reached_54 rfl (by decide) ?_
        refine g_iand (q := 56) dX7_reached_55 rfl ?_
        refine g_iconst (q := 57) (v := 1) dX7_reached_56 rfl (by decide) ?_
        refine g_icmp_eq (q := 60) (r := 75) dX7_reached_57 (by decide) rfl (fun c57 => ?_) (fun c57 => ?_)
        · replace H := (if_pos c57).symm.trans H
          exact g_weak (L' := [.ref (ad 24), un_, .int l2, .int l3, un_, .int l5, .int l6]) ⟨Or.inr rfl, Or.inl rfl, Or.inr rfl, Or.inr rfl, Or.inl rfl, Or.inr rfl, Or.inr rfl, trivial⟩ (wbX7_reached_75 (F := F) hX h5 h16 _ _ _ _ _ H)
        · replace H := (if_neg c57).symm.trans H
          refine g_iload_n (q := 61) (i := 3) dX7_reached_60 rfl rfl rfl ?_
          refine g_aload_n (q := 62) (i := 0) dX7_reached_61 rfl rfl rfl ?_
          refine g_get (q := 65) dX7_reached_62 rfl foX7_13 24 hc24 rfl ?_
          refine g_iload (q := 67) dX7_reached_65 rfl rfl ?_
          obtain ⟨b67, H⟩ := of_chk H
          refine g_iald (q := 68) dX7_reached_67 rfl 26 hc26 b67 ?_
          refine g_ishr (q := 69) dX7_reached_68 rfl ?_
          refine g_iconst (q := 70) (v := 1) dX7_reached_69 rfl (by decide) ?_
          refine g_iand (q := 71) dX7_reached_70 rfl ?_
          refine g_iconst (q := 72) (v := 1) dX7_reached_71 rfl (by decide) ?_
          refine g_icmp_ne (q := 75) (r := 97) dX7_reached_72 (by decide) rfl (fun c72 => ?_) (fun c72 => ?_)
          · replace H := (if_neg c72).symm.trans H
            refine g_iinc (q := 100) (b := l6 + 1) (L' := [.ref (ad 24), un_, .int l2, .int l3, un_, .int l5, .int (l6 + 1)]) dX7_reached_97 rfl rfl rfl (Nat.le_of_ble_eq_true rfl) rfl ?_
            refine g_goto (q := 16) dX7_reached_100 (by decide) ?_
            exact g_weak (L' := [.ref (ad 24), un_, .int l2, .int l3, un_, .int l5, .int (l6 + 1)]) ⟨Or.inr rfl, Or.inl rfl, Or.inr rfl, Or.inr rfl, Or.inl rfl, Or.inr rfl, Or.inr rfl, trivial⟩ (h16 _ _ _ _ _ H)
          · replace H := (if_pos c72).symm.trans H
            exact g_weak (L' := [.ref (ad 24), un_, .int l2, .int l3, un_, .int l5, .int l6]) ⟨Or.inr rfl, Or.inl rfl, Or.inr rfl, Or.inr rfl, Or.inl rfl, Or.inr rfl, Or.inr rfl, trivial⟩ (wbX7_reached_75 (F := F) hX h5 h16 _ _ _ _ _ H)
      · replace H := (if_pos c39).symm.trans H
        refine g_goto (q := 97) dX7_reached_42 (by decide) ?_
        refine g_iinc (q := 100) (b := l6 + 1) (L' := [.ref (ad 24), un_, .int l2, .int l3, un_, .int l5, .int (l6 + 1)]) dX7_reached_97 rfl rfl rfl (Nat.le_of_ble_eq_true rfl) rfl ?_
        refine g_goto (q := 16) dX7_reached_100 (by decide) ?_
        exact g_weak (L' := [.ref (ad 24), un_, .int l2, .int l3, un_, .int l5, .int (l6 + 1)]) ⟨Or.inr rfl, Or.inl rfl, Or.inr rfl, Or.inr rfl, Or.inl rfl, Or.inr rfl, Or.inr rfl, trivial⟩ (h16 _ _ _ _ _ H)
def fX7_reached_16 (F : Nat) (k5 : Sg → Int32 → Int32 → Int32 → Rs) : Nat → Sg → Int32 → Int32 → Int32 → Int32 → Rs
  | 0 => fun _ _ _ _ _ => none
  | n + 1 => fun σ l2 l3 l5 l6 => bX7_reached_16 F k5 (fX7_reached_16 F k5 n) σ l2 l3 l5 l6
theorem wfX7_reached_16 {x : FX} {g : GX} {ad : Nat → Nat} {ex M0 : va_W} {r : Int32} {τ : Sg} {F : Nat} (hX : RX x g M0 (Pi_ r (HH g ad τ ++ ex)) 0 0) {k5 : Sg → Int32 → Int32 → Int32 → Rs} (h5 : ∀ (σ : Sg) (l2 : Int32) (l3 : Int32) (l4 : Int32), k5 σ l2 l3 l4 = some (r, τ) → Go x { frames := 0, cells := 0, slots := 0, locals := 0 } tX7_reached g 5 [.ref (ad 24), un_, .int l2, .int l3, .int l4, un_, un_] [] (HH g ad σ ++ ex) 0 0) : ∀ (n : Nat) (σ : Sg) (l2 : Int32) (l3 : Int32) (l5 : Int32) (l6 : Int32), fX7_reached_16 F k5 n σ l2 l3 l5 l6 = some (r, τ) → Go x { frames := 0, cells := 0, slots := 0, locals := 0 } tX7_reached g 16 [.ref (ad 24), un_, .int l2, .int l3, un_, .int l5, .int l6] [] (HH g ad σ ++ ex) 0 0
  | 0, _, _, _, _, _, H => nomatch (show (none : Rs) = some _ from H)
  | n + 1, σ, l2, l3, l5, l6, H => wbX7_reached_16 (F := F) hX h5 (fun σ2 z2 z3 z5 z6 H2 => wfX7_reached_16 (F := F) hX h5 n σ2 z2 z3 z5 z6 H2) σ l2 l3 l5 l6 H
def bX7_reached_5 (F : Nat) (k5 : Sg → Int32 → Int32 → Int32 → Rs) (σ : Sg) (l2 : Int32) (l3 : Int32) (l4 : Int32) : Rs := if l4 = (0 : Int32) then (some (l3, σ)) else (fX7_reached_16 F k5 F σ (l2) (l3) (l3) ((0 : Int32)))
set_option maxRecDepth 100000 in
set_option maxHeartbeats 4000000 in
theorem wbX7_reached_5 {x : FX} {g : GX} {ad : Nat → Nat} {ex M0 : va_W} {r : Int32} {τ : Sg} {F : Nat} (hX : RX x g M0 (Pi_ r (HH g ad τ ++ ex)) 0 0) {k5 : Sg → Int32 → Int32 → Int32 → Rs} (h5 : ∀ (σ : Sg) (l2 : Int32) (l3 : Int32) (l4 : Int32), k5 σ l2 l3 l4 = some (r, τ) → Go x { frames := 0, cells := 0, slots := 0, locals := 0 } tX7_reached g 5 [.ref (ad 24), un_, .int l2, .int l3, .int l4, un_, un_] [] (HH g ad σ ++ ex) 0 0) (σ : Sg) (l2 : Int32) (l3 : Int32) (l4 : Int32) (H : bX7_reached_5 F k5 σ l2 l3 l4 = some (r, τ)) : Go x { frames := 0, cells := 0, slots := 0, locals := 0 } tX7_reached g 5 [.ref (ad 24), un_, .int l2, .int l3, .int l4, un_, un_] [] (HH g ad σ ++ ex) 0 0 := by
  unfold bX7_reached_5 at H
  refine g_iload (q := 7) dX7_reached_5 rfl rfl ?_
  refine g_if_eq (q := 10) (r := 119) dX7_reached_7 (by decide) rfl (fun c7 => ?_) (fun c7 => ?_)
  · replace H := (if_pos c7).symm.trans H
    refine g_iload_n (q := 120) (i := 3) dX7_reached_119 rfl rfl rfl ?_
    exact g_iret hX dX7_reached_120 rfl rfl (Nat.le_refl _) (Nat.le_refl _) (piOk H)
  · replace H := (if_neg c7).symm.trans H
    refine g_iload_n (q := 11) (i := 3) dX7_reached_10 rfl rfl rfl ?_
    refine g_istore (q := 13) (L' := [.ref (ad 24), un_, .int l2, .int l3, .int l4, .int l3, un_]) dX7_reached_11 rfl (Nat.le_of_ble_eq_true rfl) rfl ?_
    refine g_iconst (q := 14) (v := 0) dX7_reached_13 rfl (by decide) ?_
    refine g_istore (q := 16) (L' := [.ref (ad 24), un_, .int l2, .int l3, .int l4, .int l3, .int ((0 : Int32))]) dX7_reached_14 rfl (Nat.le_of_ble_eq_true rfl) rfl ?_
    exact g_weak (L' := [.ref (ad 24), un_, .int l2, .int l3, un_, .int l3, .int ((0 : Int32))]) ⟨Or.inr rfl, Or.inl rfl, Or.inr rfl, Or.inr rfl, Or.inl rfl, Or.inr rfl, Or.inr rfl, trivial⟩ (wfX7_reached_16 (F := F) hX h5 F _ _ _ _ _ H)
def fX7_reached_5 (F : Nat)  : Nat → Sg → Int32 → Int32 → Int32 → Rs
  | 0 => fun _ _ _ _ => none
  | n + 1 => fun σ l2 l3 l4 => bX7_reached_5 F  (fX7_reached_5 F  n) σ l2 l3 l4
theorem wfX7_reached_5 {x : FX} {g : GX} {ad : Nat → Nat} {ex M0 : va_W} {r : Int32} {τ : Sg} {F : Nat} (hX : RX x g M0 (Pi_ r (HH g ad τ ++ ex)) 0 0)   : ∀ (n : Nat) (σ : Sg) (l2 : Int32) (l3 : Int32) (l4 : Int32), fX7_reached_5 F  n σ l2 l3 l4 = some (r, τ) → Go x { frames := 0, cells := 0, slots := 0, locals := 0 } tX7_reached g 5 [.ref (ad 24), un_, .int l2, .int l3, .int l4, un_, un_] [] (HH g ad σ ++ ex) 0 0
  | 0, _, _, _, _, H => nomatch (show (none : Rs) = some _ from H)
  | n + 1, σ, l2, l3, l4, H => wbX7_reached_5 (F := F) hX  (fun σ2 z2 z3 z4 H2 => wfX7_reached_5 (F := F) hX  n σ2 z2 z3 z4 H2) σ l2 l3 l4 H
def fX7_reached (F : Nat) (σ : Sg) (l1 : Int32) (l2 : Int32) : Rs := fX7_reached_5 F F σ (l2) (l1) ((1 : Int32))
set_option maxRecDepth 100000 in
set_option maxHeartbeats 4000000 in
theorem ctX7_reached {l : Launch} {g : GX} {ad : Nat → Nat} {ex : va_W} {r : Int32} {τ σ : Sg} {F : Nat} {l1 : Int32} {l2 : Int32} (H : fX7_reached F σ l1 l2 = some (r, τ)) : Ct l g yX7_reached tX7_reached 0 0 0 0 [.ref (ad 24), .int l1, .int l2] (HH g ad σ ++ ex) (Pi_ r (HH g ad τ ++ ex)) := by
  refine Ct.of (L := [.ref (ad 24), .int l1, .int l2, un_, un_, un_, un_]) (by decide +kernel) rfl rfl rfl (Nat.le_of_ble_eq_true rfl) rfl (fun x _ hX => ?_)
  unfold fX7_reached at H
  refine g_iload_n (q := 1) (i := 1) dX7_reached_0 rfl rfl rfl ?_
  refine g_istore_n (q := 2) (L' := [.ref (ad 24), .int l1, .int l2, .int l1, un_, un_, un_]) (i := 3) dX7_reached_1 rfl rfl (Nat.le_of_ble_eq_true rfl) rfl ?_
  refine g_iconst (q := 3) (v := 1) dX7_reached_2 rfl (by decide) ?_
  refine g_istore (q := 5) (L' := [.ref (ad 24), .int l1, .int l2, .int l1, .int ((1 : Int32)), un_, un_]) dX7_reached_3 rfl (Nat.le_of_ble_eq_true rfl) rfl ?_
  exact g_weak (L' := [.ref (ad 24), un_, .int l2, .int l1, .int ((1 : Int32)), un_, un_]) ⟨Or.inr rfl, Or.inl rfl, Or.inr rfl, Or.inr rfl, Or.inr rfl, Or.inl rfl, Or.inl rfl, trivial⟩ (wfX7_reached_5 (F := F) hX  F _ _ _ _ H)
def bX7_pieces_17 (F : Nat) (k11 : Sg → Int32 → Int32 → Rs) (k17 : Sg → Int32 → Int32 → Int32 → Rs) (σ : Sg) (l1 : Int32) (l2 : Int32) (l3 : Int32) : Rs := if ((l1 >>> (l3 &&& 31)) &&& (1 : Int32)) = (0 : Int32) then (li_ (l3 + (1 : Int32)) fun v4 => k17 σ (l1) (l2) (v4)) else ((fX7_reached F σ ((1 : Int32) <<< (l3 &&& 31)) ((-1 : Int32))).bind fun q1 => (fun (r1 : Int32) (σ1 : Sg) => li_ (l1 &&& (r1 ^^^ (-1 : Int32))) fun v2 => li_ (l2 + (1 : Int32)) fun v3 => k11 σ1 (v2) (v3)) q1.1 q1.2)
set_option maxRecDepth 100000 in
set_option maxHeartbeats 4000000 in
theorem wbX7_pieces_17 {x : FX} {g : GX} {ad : Nat → Nat} {ex M0 : va_W} {r : Int32} {τ : Sg} {F : Nat} (hX : RX x g M0 (Pi_ r (HH g ad τ ++ ex)) 0 0) {k11 : Sg → Int32 → Int32 → Rs} {k17 : Sg → Int32 → Int32 → Int32 → Rs} (h11 : ∀ (σ : Sg) (l1 : Int32) (l2 : Int32), k11 σ l1 l2 = some (r, τ) → Go x { frames := 1, cells := 0, slots := 0, locals := 26 } tX7_pieces g 11 [.ref (ad 24), .int l1, .int l2, un_] [] (HH g ad σ ++ ex) 0 0) (h17 : ∀ (σ : Sg) (l1 : Int32) (l2 : Int32) (l3 : Int32), k17 σ l1 l2 l3 = some (r, τ) → Go x { frames := 1, cells := 0, slots := 0, locals := 26 } tX7_pieces g 17 [.ref (ad 24), .int l1, .int l2, .int l3] [] (HH g ad σ ++ ex) 0 0) (σ : Sg) (l1 : Int32) (l2 : Int32) (l3 : Int32) (H : bX7_pieces_17 F k11 k17 σ l1 l2 l3 = some (r, τ)) : Go x { frames := 1, cells := 0, slots := 0, locals := 26 } tX7_pieces g 17 [.ref (ad 24), .int l1, .int l2, .int l3] [] (HH g ad σ ++ ex) 0 0 := by
  unfold bX7_pieces_17 at H
  refine g_iload_n (q := 18) (i := 1) dX7_pieces_17 rfl rfl rfl ?_
  refine g_iload_n (q := 19) (i := 3) dX7_pieces_18 rfl rfl rfl ?_
  refine g_ishr (q := 20) dX7_pieces_19 rfl ?_
  refine g_iconst (q := 21) (v := 1) dX7_pieces_20 rfl (by decide) ?_
  refine g_iand (q := 22) dX7_pieces_21 rfl ?_
  refine g_if_ne (q := 25) (r := 32) dX7_pieces_22 (by decide) rfl (fun c22 => ?_) (fun c22 => ?_)
  · replace H := (if_neg c22).symm.trans H
    refine g_iload_n (q := 33) (i := 1) dX7_pieces_32 rfl rfl rfl ?_
    refine g_aload_n (q := 34) (i := 0) dX7_pieces_33 rfl rfl rfl ?_
    refine g_iconst (q := 35) (v := 1) dX7_pieces_34 rfl (by decide) ?_
    refine g_iload_n (q := 36) (i := 3) dX7_pieces_35 rfl rfl rfl ?_
    refine g_ishl (q := 37) dX7_pieces_36 rfl ?_
    refine g_iconst (q := 38) (v := -1) dX7_pieces_37 rfl (by decide) ?_
    obtain ⟨r1, σ1, e1, H⟩ := of_bnd H
    refine g_callV (q := 41) (rest := [.int l1]) dX7_pieces_38 rfl cvX7_87 (ctX7_reached e1) rfl rfl ⟨Nat.le_of_ble_eq_true rfl, Nat.le_of_ble_eq_true rfl⟩ ⟨Nat.le_refl _, Nat.le_refl _⟩ (Nat.le_of_ble_eq_true rfl) 24 hc24 rfl (fun r0 M9 hp => ?_)
    obtain ⟨rfl, rfl⟩ := hp
    show Go x _ _ g 41 [.ref (ad 24), .int l1, .int l2, .int l3] [.int r1, .int l1] (HH g ad σ1 ++ ex) 0 0
    refine g_iconst (q := 42) (v := -1) dX7_pieces_41 rfl (by decide) ?_
    refine g_ixor (q := 43) dX7_pieces_42 rfl ?_
    refine g_iand (q := 44) dX7_pieces_43 rfl ?_
    obtain ⟨v2, n2, H⟩ := of_li H
    refine g_name n2 ?_
    refine g_istore_n (q := 45) (L' := [.ref (ad 24), .int v2, .int l2, .int l3]) (i := 1) dX7_pieces_44 rfl rfl (Nat.le_of_ble_eq_true rfl) rfl ?_
    refine g_iload_n (q := 46) (i := 2) dX7_pieces_45 rfl rfl rfl ?_
    refine g_iconst (q := 47) (v := 1) dX7_pieces_46 rfl (by decide) ?_
    refine g_iadd (q := 48) dX7_pieces_47 rfl ?_
    obtain ⟨v3, n3, H⟩ := of_li H
    refine g_name n3 ?_
    refine g_istore_n (q := 49) (L' := [.ref (ad 24), .int v2, .int v3, .int l3]) (i := 2) dX7_pieces_48 rfl rfl (Nat.le_of_ble_eq_true rfl) rfl ?_
    refine g_goto (q := 11) dX7_pieces_49 (by decide) ?_
    exact g_weak (L' := [.ref (ad 24), .int v2, .int v3, un_]) ⟨Or.inr rfl, Or.inr rfl, Or.inr rfl, Or.inl rfl, trivial⟩ (h11 _ _ _ H)
  · replace H := (if_pos c22).symm.trans H
    refine g_iload_n (q := 26) (i := 3) dX7_pieces_25 rfl rfl rfl ?_
    refine g_iconst (q := 27) (v := 1) dX7_pieces_26 rfl (by decide) ?_
    refine g_iadd (q := 28) dX7_pieces_27 rfl ?_
    obtain ⟨v4, n4, H⟩ := of_li H
    refine g_name n4 ?_
    refine g_istore_n (q := 29) (L' := [.ref (ad 24), .int l1, .int l2, .int v4]) (i := 3) dX7_pieces_28 rfl rfl (Nat.le_of_ble_eq_true rfl) rfl ?_
    refine g_goto (q := 17) dX7_pieces_29 (by decide) ?_
    exact g_weak (L' := [.ref (ad 24), .int l1, .int l2, .int v4]) ⟨Or.inr rfl, Or.inr rfl, Or.inr rfl, Or.inr rfl, trivial⟩ (h17 _ _ _ _ H)
def fX7_pieces_17 (F : Nat) (k11 : Sg → Int32 → Int32 → Rs) : Nat → Sg → Int32 → Int32 → Int32 → Rs
  | 0 => fun _ _ _ _ => none
  | n + 1 => fun σ l1 l2 l3 => bX7_pieces_17 F k11 (fX7_pieces_17 F k11 n) σ l1 l2 l3
theorem wfX7_pieces_17 {x : FX} {g : GX} {ad : Nat → Nat} {ex M0 : va_W} {r : Int32} {τ : Sg} {F : Nat} (hX : RX x g M0 (Pi_ r (HH g ad τ ++ ex)) 0 0) {k11 : Sg → Int32 → Int32 → Rs} (h11 : ∀ (σ : Sg) (l1 : Int32) (l2 : Int32), k11 σ l1 l2 = some (r, τ) → Go x { frames := 1, cells := 0, slots := 0, locals := 26 } tX7_pieces g 11 [.ref (ad 24), .int l1, .int l2, un_] [] (HH g ad σ ++ ex) 0 0) : ∀ (n : Nat) (σ : Sg) (l1 : Int32) (l2 : Int32) (l3 : Int32), fX7_pieces_17 F k11 n σ l1 l2 l3 = some (r, τ) → Go x { frames := 1, cells := 0, slots := 0, locals := 26 } tX7_pieces g 17 [.ref (ad 24), .int l1, .int l2, .int l3] [] (HH g ad σ ++ ex) 0 0
  | 0, _, _, _, _, H => nomatch (show (none : Rs) = some _ from H)
  | n + 1, σ, l1, l2, l3, H => wbX7_pieces_17 (F := F) hX h11 (fun σ2 z1 z2 z3 H2 => wfX7_pieces_17 (F := F) hX h11 n σ2 z1 z2 z3 H2) σ l1 l2 l3 H
def bX7_pieces_11 (F : Nat) (k11 : Sg → Int32 → Int32 → Rs) (σ : Sg) (l1 : Int32) (l2 : Int32) : Rs := if l1 = (0 : Int32) then (some (l2, σ)) else (fX7_pieces_17 F k11 F σ (l1) (l2) ((0 : Int32)))
set_option maxRecDepth 100000 in
set_option maxHeartbeats 4000000 in
theorem wbX7_pieces_11 {x : FX} {g : GX} {ad : Nat → Nat} {ex M0 : va_W} {r : Int32} {τ : Sg} {F : Nat} (hX : RX x g M0 (Pi_ r (HH g ad τ ++ ex)) 0 0) {k11 : Sg → Int32 → Int32 → Rs} (h11 : ∀ (σ : Sg) (l1 : Int32) (l2 : Int32), k11 σ l1 l2 = some (r, τ) → Go x { frames := 1, cells := 0, slots := 0, locals := 26 } tX7_pieces g 11 [.ref (ad 24), .int l1, .int l2, un_] [] (HH g ad σ ++ ex) 0 0) (σ : Sg) (l1 : Int32) (l2 : Int32) (H : bX7_pieces_11 F k11 σ l1 l2 = some (r, τ)) : Go x { frames := 1, cells := 0, slots := 0, locals := 26 } tX7_pieces g 11 [.ref (ad 24), .int l1, .int l2, un_] [] (HH g ad σ ++ ex) 0 0 := by
  unfold bX7_pieces_11 at H
  refine g_iload_n (q := 12) (i := 1) dX7_pieces_11 rfl rfl rfl ?_
  refine g_if_eq (q := 15) (r := 52) dX7_pieces_12 (by decide) rfl (fun c12 => ?_) (fun c12 => ?_)
  · replace H := (if_pos c12).symm.trans H
    refine g_iload_n (q := 53) (i := 2) dX7_pieces_52 rfl rfl rfl ?_
    exact g_iret hX dX7_pieces_53 rfl rfl (Nat.le_refl _) (Nat.le_refl _) (piOk H)
  · replace H := (if_neg c12).symm.trans H
    refine g_iconst (q := 16) (v := 0) dX7_pieces_15 rfl (by decide) ?_
    refine g_istore_n (q := 17) (L' := [.ref (ad 24), .int l1, .int l2, .int ((0 : Int32))]) (i := 3) dX7_pieces_16 rfl rfl (Nat.le_of_ble_eq_true rfl) rfl ?_
    exact g_weak (L' := [.ref (ad 24), .int l1, .int l2, .int ((0 : Int32))]) ⟨Or.inr rfl, Or.inr rfl, Or.inr rfl, Or.inr rfl, trivial⟩ (wfX7_pieces_17 (F := F) hX h11 F _ _ _ _ H)
def fX7_pieces_11 (F : Nat)  : Nat → Sg → Int32 → Int32 → Rs
  | 0 => fun _ _ _ => none
  | n + 1 => fun σ l1 l2 => bX7_pieces_11 F  (fX7_pieces_11 F  n) σ l1 l2
theorem wfX7_pieces_11 {x : FX} {g : GX} {ad : Nat → Nat} {ex M0 : va_W} {r : Int32} {τ : Sg} {F : Nat} (hX : RX x g M0 (Pi_ r (HH g ad τ ++ ex)) 0 0)   : ∀ (n : Nat) (σ : Sg) (l1 : Int32) (l2 : Int32), fX7_pieces_11 F  n σ l1 l2 = some (r, τ) → Go x { frames := 1, cells := 0, slots := 0, locals := 26 } tX7_pieces g 11 [.ref (ad 24), .int l1, .int l2, un_] [] (HH g ad σ ++ ex) 0 0
  | 0, _, _, _, H => nomatch (show (none : Rs) = some _ from H)
  | n + 1, σ, l1, l2, H => wbX7_pieces_11 (F := F) hX  (fun σ2 z1 z2 H2 => wfX7_pieces_11 (F := F) hX  n σ2 z1 z2 H2) σ l1 l2 H
def fX7_pieces (F : Nat) (σ : Sg)  : Rs := li_ (((1 : Int32) <<< ((σ.1 21) &&& 31)) - (1 : Int32)) fun v1 => fX7_pieces_11 F F σ (v1) ((0 : Int32))
set_option maxRecDepth 100000 in
set_option maxHeartbeats 4000000 in
theorem ctX7_pieces {l : Launch} {g : GX} {ad : Nat → Nat} {ex : va_W} {r : Int32} {τ σ : Sg} {F : Nat}  (H : fX7_pieces F σ  = some (r, τ)) : Ct l g yX7_pieces tX7_pieces 1 26 0 0 [.ref (ad 24)] (HH g ad σ ++ ex) (Pi_ r (HH g ad τ ++ ex)) := by
  refine Ct.of (L := [.ref (ad 24), un_, un_, un_]) (by decide +kernel) rfl rfl rfl (Nat.le_of_ble_eq_true rfl) rfl (fun x _ hX => ?_)
  unfold fX7_pieces at H
  refine g_iconst (q := 1) (v := 1) dX7_pieces_0 rfl (by decide) ?_
  refine g_aload_n (q := 2) (i := 0) dX7_pieces_1 rfl rfl rfl ?_
  refine g_get (q := 5) dX7_pieces_2 rfl foX7_68 24 hc24 rfl ?_
  refine g_ishl (q := 6) dX7_pieces_5 rfl ?_
  refine g_iconst (q := 7) (v := 1) dX7_pieces_6 rfl (by decide) ?_
  refine g_isub (q := 8) dX7_pieces_7 rfl ?_
  obtain ⟨v1, n1, H⟩ := of_li H
  refine g_name n1 ?_
  refine g_istore_n (q := 9) (L' := [.ref (ad 24), .int v1, un_, un_]) (i := 1) dX7_pieces_8 rfl rfl (Nat.le_of_ble_eq_true rfl) rfl ?_
  refine g_iconst (q := 10) (v := 0) dX7_pieces_9 rfl (by decide) ?_
  refine g_istore_n (q := 11) (L' := [.ref (ad 24), .int v1, .int ((0 : Int32)), un_]) (i := 2) dX7_pieces_10 rfl rfl (Nat.le_of_ble_eq_true rfl) rfl ?_
  exact g_weak (L' := [.ref (ad 24), .int v1, .int ((0 : Int32)), un_]) ⟨Or.inr rfl, Or.inr rfl, Or.inr rfl, Or.inl rfl, trivial⟩ (wfX7_pieces_11 (F := F) hX  F _ _ _ H)
def fX7_count (F : Nat) (σ : Sg) (l1 : Int32) : Rs := if l1.toInt < 0 ∨ 10 < l1.toInt then (some ((-1 : Int32), σ)) else if l1 = 0 then (some (σ.1 25, σ)) else if l1 = 1 then ((fX7_comes F σ (σ.1 25)).bind fun q1 => (fun (r1 : Int32) (σ1 : Sg) => (fX7_below F σ1).bind fun q2 => (fun (r2 : Int32) (σ2 : Sg) => some (r2, σ2)) q2.1 q2.2) q1.1 q1.2) else if l1 = 2 then ((fX7_party F σ).bind fun q3 => (fun (r3 : Int32) (σ3 : Sg) => some (r3, σ3)) q3.1 q3.2) else if l1 = 3 then (if ib (σ.1 25) 201 then ((fX7_bits F σ (σ.2.1 34 (σ.1 25).toNatClampNeg)).bind fun q4 => (fun (r4 : Int32) (σ4 : Sg) => some (r4, σ4)) q4.1 q4.2) else none) else if l1 = 4 then (if ib (σ.1 25) 201 then ((fX7_bits F σ (σ.2.1 35 (σ.1 25).toNatClampNeg)).bind fun q5 => (fun (r5 : Int32) (σ5 : Sg) => some (r5, σ5)) q5.1 q5.2) else none) else if l1 = 5 then (if ib (σ.1 25) 201 then (if (σ.2.1 34 (σ.1 25).toNatClampNeg) = (0 : Int32) then (if ib (σ.1 25) 201 then (if (σ.2.1 35 (σ.1 25).toNatClampNeg) = (0 : Int32) then (some ((1 : Int32), σ)) else (some ((0 : Int32), σ))) else none) else (some ((0 : Int32), σ))) else none) else if l1 = 6 then (some (σ.1 21, σ)) else if l1 = 7 then ((fX7_passages F σ).bind fun q6 => (fun (r6 : Int32) (σ6 : Sg) => some (r6, σ6)) q6.1 q6.2) else if l1 = 8 then (some (σ.1 22, σ)) else if l1 = 9 then ((fX7_pieces F σ).bind fun q7 => (fun (r7 : Int32) (σ7 : Sg) => some (r7, σ7)) q7.1 q7.2) else if l1 = 10 then ((fX7_pieces F σ).bind fun q8 => (fun (r8 : Int32) (σ8 : Sg) => if r8 = (1 : Int32) then ((fX7_passages F σ8).bind fun q9 => (fun (r9 : Int32) (σ9 : Sg) => if r9 = ((σ9.1 21) - (1 : Int32)) then (some ((1 : Int32), σ9)) else (some ((0 : Int32), σ9))) q9.1 q9.2) else (some ((0 : Int32), σ8))) q8.1 q8.2) else none
set_option maxRecDepth 100000 in
set_option maxHeartbeats 4000000 in
theorem ctX7_count {l : Launch} {g : GX} {ad : Nat → Nat} {ex : va_W} {r : Int32} {τ σ : Sg} {F : Nat} {l1 : Int32} (H : fX7_count F σ l1 = some (r, τ)) : Ct l g yX7_count tX7_count 2 49 0 0 [.ref (ad 24), .int l1] (HH g ad σ ++ ex) (Pi_ r (HH g ad τ ++ ex)) := by
  refine Ct.of (L := [.ref (ad 24), .int l1]) (by decide +kernel) rfl rfl rfl (Nat.le_of_ble_eq_true rfl) rfl (fun x _ hX => ?_)
  unfold fX7_count at H
  refine g_iload_n (q := 1) (i := 1) dX7_count_0 rfl rfl rfl ?_
  by_cases c1 : l1.toInt < 0 ∨ 10 < l1.toInt
  · replace H := (if_pos c1).symm.trans H
    refine g_swOut (q := 186) dX7_count_1 c1 (by decide) ?_
    refine g_iconst (q := 187) (v := -1) dX7_count_186 rfl (by decide) ?_
    exact g_iret hX dX7_count_187 rfl rfl (Nat.le_refl _) (Nat.le_refl _) (piOk H)
  replace H := (if_neg c1).symm.trans H
  by_cases e1_0 : l1 = 0
  · replace H := (if_pos e1_0).symm.trans H
    refine g_swIn (q := 60) (off := 59) dX7_count_1 (fun z => c1 (Or.inl z)) (fun z => c1 (Or.inr z)) (by rw [e1_0]; decide) (by decide) ?_
    refine g_aload_n (q := 61) (i := 0) dX7_count_60 rfl rfl rfl ?_
    refine g_get (q := 64) dX7_count_61 rfl foX7_107 24 hc24 rfl ?_
    exact g_iret hX dX7_count_64 rfl rfl (Nat.le_refl _) (Nat.le_refl _) (piOk H)
  replace H := (if_neg e1_0).symm.trans H
  by_cases e1_1 : l1 = 1
  · replace H := (if_pos e1_1).symm.trans H
    refine g_swIn (q := 65) (off := 64) dX7_count_1 (fun z => c1 (Or.inl z)) (fun z => c1 (Or.inr z)) (by rw [e1_1]; decide) (by decide) ?_
    refine g_aload_n (q := 66) (i := 0) dX7_count_65 rfl rfl rfl ?_
    refine g_aload_n (q := 67) (i := 0) dX7_count_66 rfl rfl rfl ?_
    refine g_get (q := 70) dX7_count_67 rfl foX7_107 24 hc24 rfl ?_
    obtain ⟨r1, σ1, e1, H⟩ := of_bnd H
    refine g_callV (q := 73) (rest := []) dX7_count_70 rfl cvX7_120 (ctX7_comes e1) rfl rfl ⟨Nat.le_of_ble_eq_true rfl, Nat.le_of_ble_eq_true rfl⟩ ⟨Nat.le_refl _, Nat.le_refl _⟩ (Nat.le_of_ble_eq_true rfl) 24 hc24 rfl (fun r0 M9 hp => ?_)
    obtain ⟨rfl, rfl⟩ := hp
    show Go x _ _ g 73 [.ref (ad 24), .int l1] [] (HH g ad σ1 ++ ex) 0 0
    refine g_aload_n (q := 74) (i := 0) dX7_count_73 rfl rfl rfl ?_
    obtain ⟨r2, σ2, e2, H⟩ := of_bnd H
    refine g_callV (q := 77) (rest := []) dX7_count_74 rfl cvX7_123 (ctX7_below e2) rfl rfl ⟨Nat.le_of_ble_eq_true rfl, Nat.le_of_ble_eq_true rfl⟩ ⟨Nat.le_refl _, Nat.le_refl _⟩ (Nat.le_of_ble_eq_true rfl) 24 hc24 rfl (fun r0 M9 hp => ?_)
    obtain ⟨rfl, rfl⟩ := hp
    show Go x _ _ g 77 [.ref (ad 24), .int l1] [.int r2] (HH g ad σ2 ++ ex) 0 0
    exact g_iret hX dX7_count_77 rfl rfl (Nat.le_refl _) (Nat.le_refl _) (piOk H)
  replace H := (if_neg e1_1).symm.trans H
  by_cases e1_2 : l1 = 2
  · replace H := (if_pos e1_2).symm.trans H
    refine g_swIn (q := 78) (off := 77) dX7_count_1 (fun z => c1 (Or.inl z)) (fun z => c1 (Or.inr z)) (by rw [e1_2]; decide) (by decide) ?_
    refine g_aload_n (q := 79) (i := 0) dX7_count_78 rfl rfl rfl ?_
    obtain ⟨r3, σ3, e3, H⟩ := of_bnd H
    refine g_callV (q := 82) (rest := []) dX7_count_79 rfl cvX7_131 (ctX7_party e3) rfl rfl ⟨Nat.le_of_ble_eq_true rfl, Nat.le_of_ble_eq_true rfl⟩ ⟨Nat.le_refl _, Nat.le_refl _⟩ (Nat.le_of_ble_eq_true rfl) 24 hc24 rfl (fun r0 M9 hp => ?_)
    obtain ⟨rfl, rfl⟩ := hp
    show Go x _ _ g 82 [.ref (ad 24), .int l1] [.int r3] (HH g ad σ3 ++ ex) 0 0
    exact g_iret hX dX7_count_82 rfl rfl (Nat.le_refl _) (Nat.le_refl _) (piOk H)
  replace H := (if_neg e1_2).symm.trans H
  by_cases e1_3 : l1 = 3
  · replace H := (if_pos e1_3).symm.trans H
    refine g_swIn (q := 83) (off := 82) dX7_count_1 (fun z => c1 (Or.inl z)) (fun z => c1 (Or.inr z)) (by rw [e1_3]; decide) (by decide) ?_
    refine g_aload_n (q := 84) (i := 0) dX7_count_83 rfl rfl rfl ?_
    refine g_get (q := 87) dX7_count_84 rfl foX7_38 24 hc24 rfl ?_
    refine g_aload_n (q := 88) (i := 0) dX7_count_87 rfl rfl rfl ?_
    refine g_get (q := 91) dX7_count_88 rfl foX7_107 24 hc24 rfl ?_
    obtain ⟨b91, H⟩ := of_chk H
    refine g_iald (q := 92) dX7_count_91 rfl 34 hc34 b91 ?_
    obtain ⟨r4, σ4, e4, H⟩ := of_bnd H
    refine g_callS (q := 95) (rest := []) dX7_count_92 rfl csX7_134 (ctX7_bits e4) rfl rfl ⟨Nat.le_of_ble_eq_true rfl, Nat.le_of_ble_eq_true rfl⟩ ⟨Nat.le_refl _, Nat.le_refl _⟩ (Nat.le_of_ble_eq_true rfl) (fun r0 M9 hp => ?_)
    obtain ⟨rfl, rfl⟩ := hp
    show Go x _ _ g 95 [.ref (ad 24), .int l1] [.int r4] (HH g ad σ4 ++ ex) 0 0
    exact g_iret hX dX7_count_95 rfl rfl (Nat.le_refl _) (Nat.le_refl _) (piOk H)
  replace H := (if_neg e1_3).symm.trans H
  by_cases e1_4 : l1 = 4
  · replace H := (if_pos e1_4).symm.trans H
    refine g_swIn (q := 96) (off := 95) dX7_count_1 (fun z => c1 (Or.inl z)) (fun z => c1 (Or.inr z)) (by rw [e1_4]; decide) (by decide) ?_
    refine g_aload_n (q := 97) (i := 0) dX7_count_96 rfl rfl rfl ?_
    refine g_get (q := 100) dX7_count_97 rfl foX7_41 24 hc24 rfl ?_
    refine g_aload_n (q := 101) (i := 0) dX7_count_100 rfl rfl rfl ?_
    refine g_get (q := 104) dX7_count_101 rfl foX7_107 24 hc24 rfl ?_
    obtain ⟨b104, H⟩ := of_chk H
    refine g_iald (q := 105) dX7_count_104 rfl 35 hc35 b104 ?_
    obtain ⟨r5, σ5, e5, H⟩ := of_bnd H
    refine g_callS (q := 108) (rest := []) dX7_count_105 rfl csX7_134 (ctX7_bits e5) rfl rfl ⟨Nat.le_of_ble_eq_true rfl, Nat.le_of_ble_eq_true rfl⟩ ⟨Nat.le_refl _, Nat.le_refl _⟩ (Nat.le_of_ble_eq_true rfl) (fun r0 M9 hp => ?_)
    obtain ⟨rfl, rfl⟩ := hp
    show Go x _ _ g 108 [.ref (ad 24), .int l1] [.int r5] (HH g ad σ5 ++ ex) 0 0
    exact g_iret hX dX7_count_108 rfl rfl (Nat.le_refl _) (Nat.le_refl _) (piOk H)
  replace H := (if_neg e1_4).symm.trans H
  by_cases e1_5 : l1 = 5
  · replace H := (if_pos e1_5).symm.trans H
    refine g_swIn (q := 109) (off := 108) dX7_count_1 (fun z => c1 (Or.inl z)) (fun z => c1 (Or.inr z)) (by rw [e1_5]; decide) (by decide) ?_
    refine g_aload_n (q := 110) (i := 0) dX7_count_109 rfl rfl rfl ?_
    refine g_get (q := 113) dX7_count_110 rfl foX7_38 24 hc24 rfl ?_
    refine g_aload_n (q := 114) (i := 0) dX7_count_113 rfl rfl rfl ?_
    refine g_get (q := 117) dX7_count_114 rfl foX7_107 24 hc24 rfl ?_
    obtain ⟨b117, H⟩ := of_chk H
    refine g_iald (q := 118) dX7_count_117 rfl 34 hc34 b117 ?_
    refine g_if_ne (q := 121) (r := 137) dX7_count_118 (by decide) rfl (fun c118 => ?_) (fun c118 => ?_)
    · replace H := (if_neg c118).symm.trans H
      refine g_iconst (q := 138) (v := 0) dX7_count_137 rfl (by decide) ?_
      exact g_iret hX dX7_count_138 rfl rfl (Nat.le_refl _) (Nat.le_refl _) (piOk H)
    · replace H := (if_pos c118).symm.trans H
      refine g_aload_n (q := 122) (i := 0) dX7_count_121 rfl rfl rfl ?_
      refine g_get (q := 125) dX7_count_122 rfl foX7_41 24 hc24 rfl ?_
      refine g_aload_n (q := 126) (i := 0) dX7_count_125 rfl rfl rfl ?_
      refine g_get (q := 129) dX7_count_126 rfl foX7_107 24 hc24 rfl ?_
      obtain ⟨b129, H⟩ := of_chk H
      refine g_iald (q := 130) dX7_count_129 rfl 35 hc35 b129 ?_
      refine g_if_ne (q := 133) (r := 137) dX7_count_130 (by decide) rfl (fun c130 => ?_) (fun c130 => ?_)
      · replace H := (if_neg c130).symm.trans H
        refine g_iconst (q := 138) (v := 0) dX7_count_137 rfl (by decide) ?_
        exact g_iret hX dX7_count_138 rfl rfl (Nat.le_refl _) (Nat.le_refl _) (piOk H)
      · replace H := (if_pos c130).symm.trans H
        refine g_iconst (q := 134) (v := 1) dX7_count_133 rfl (by decide) ?_
        refine g_goto (q := 138) dX7_count_134 (by decide) ?_
        exact g_iret hX dX7_count_138 rfl rfl (Nat.le_refl _) (Nat.le_refl _) (piOk H)
  replace H := (if_neg e1_5).symm.trans H
  by_cases e1_6 : l1 = 6
  · replace H := (if_pos e1_6).symm.trans H
    refine g_swIn (q := 139) (off := 138) dX7_count_1 (fun z => c1 (Or.inl z)) (fun z => c1 (Or.inr z)) (by rw [e1_6]; decide) (by decide) ?_
    refine g_aload_n (q := 140) (i := 0) dX7_count_139 rfl rfl rfl ?_
    refine g_get (q := 143) dX7_count_140 rfl foX7_68 24 hc24 rfl ?_
    exact g_iret hX dX7_count_143 rfl rfl (Nat.le_refl _) (Nat.le_refl _) (piOk H)
  replace H := (if_neg e1_6).symm.trans H
  by_cases e1_7 : l1 = 7
  · replace H := (if_pos e1_7).symm.trans H
    refine g_swIn (q := 144) (off := 143) dX7_count_1 (fun z => c1 (Or.inl z)) (fun z => c1 (Or.inr z)) (by rw [e1_7]; decide) (by decide) ?_
    refine g_aload_n (q := 145) (i := 0) dX7_count_144 rfl rfl rfl ?_
    obtain ⟨r6, σ6, e6, H⟩ := of_bnd H
    refine g_callV (q := 148) (rest := []) dX7_count_145 rfl cvX7_138 (ctX7_passages e6) rfl rfl ⟨Nat.le_of_ble_eq_true rfl, Nat.le_of_ble_eq_true rfl⟩ ⟨Nat.le_refl _, Nat.le_refl _⟩ (Nat.le_of_ble_eq_true rfl) 24 hc24 rfl (fun r0 M9 hp => ?_)
    obtain ⟨rfl, rfl⟩ := hp
    show Go x _ _ g 148 [.ref (ad 24), .int l1] [.int r6] (HH g ad σ6 ++ ex) 0 0
    exact g_iret hX dX7_count_148 rfl rfl (Nat.le_refl _) (Nat.le_refl _) (piOk H)
  replace H := (if_neg e1_7).symm.trans H
  by_cases e1_8 : l1 = 8
  · replace H := (if_pos e1_8).symm.trans H
    refine g_swIn (q := 149) (off := 148) dX7_count_1 (fun z => c1 (Or.inl z)) (fun z => c1 (Or.inr z)) (by rw [e1_8]; decide) (by decide) ?_
    refine g_aload_n (q := 150) (i := 0) dX7_count_149 rfl rfl rfl ?_
    refine g_get (q := 153) dX7_count_150 rfl foX7_74 24 hc24 rfl ?_
    exact g_iret hX dX7_count_153 rfl rfl (Nat.le_refl _) (Nat.le_refl _) (piOk H)
  replace H := (if_neg e1_8).symm.trans H
  by_cases e1_9 : l1 = 9
  · replace H := (if_pos e1_9).symm.trans H
    refine g_swIn (q := 154) (off := 153) dX7_count_1 (fun z => c1 (Or.inl z)) (fun z => c1 (Or.inr z)) (by rw [e1_9]; decide) (by decide) ?_
    refine g_aload_n (q := 155) (i := 0) dX7_count_154 rfl rfl rfl ?_
    obtain ⟨r7, σ7, e7, H⟩ := of_bnd H
    refine g_callV (q := 158) (rest := []) dX7_count_155 rfl cvX7_141 (ctX7_pieces e7) rfl rfl ⟨Nat.le_of_ble_eq_true rfl, Nat.le_of_ble_eq_true rfl⟩ ⟨Nat.le_refl _, Nat.le_refl _⟩ (Nat.le_of_ble_eq_true rfl) 24 hc24 rfl (fun r0 M9 hp => ?_)
    obtain ⟨rfl, rfl⟩ := hp
    show Go x _ _ g 158 [.ref (ad 24), .int l1] [.int r7] (HH g ad σ7 ++ ex) 0 0
    exact g_iret hX dX7_count_158 rfl rfl (Nat.le_refl _) (Nat.le_refl _) (piOk H)
  replace H := (if_neg e1_9).symm.trans H
  by_cases e1_10 : l1 = 10
  · replace H := (if_pos e1_10).symm.trans H
    refine g_swIn (q := 159) (off := 158) dX7_count_1 (fun z => c1 (Or.inl z)) (fun z => c1 (Or.inr z)) (by rw [e1_10]; decide) (by decide) ?_
    refine g_aload_n (q := 160) (i := 0) dX7_count_159 rfl rfl rfl ?_
    obtain ⟨r8, σ8, e8, H⟩ := of_bnd H
    refine g_callV (q := 163) (rest := []) dX7_count_160 rfl cvX7_141 (ctX7_pieces e8) rfl rfl ⟨Nat.le_of_ble_eq_true rfl, Nat.le_of_ble_eq_true rfl⟩ ⟨Nat.le_refl _, Nat.le_refl _⟩ (Nat.le_of_ble_eq_true rfl) 24 hc24 rfl (fun r0 M9 hp => ?_)
    obtain ⟨rfl, rfl⟩ := hp
    show Go x _ _ g 163 [.ref (ad 24), .int l1] [.int r8] (HH g ad σ8 ++ ex) 0 0
    refine g_iconst (q := 164) (v := 1) dX7_count_163 rfl (by decide) ?_
    refine g_icmp_ne (q := 167) (r := 184) dX7_count_164 (by decide) rfl (fun c164 => ?_) (fun c164 => ?_)
    · replace H := (if_neg c164).symm.trans H
      refine g_iconst (q := 185) (v := 0) dX7_count_184 rfl (by decide) ?_
      exact g_iret hX dX7_count_185 rfl rfl (Nat.le_refl _) (Nat.le_refl _) (piOk H)
    · replace H := (if_pos c164).symm.trans H
      refine g_aload_n (q := 168) (i := 0) dX7_count_167 rfl rfl rfl ?_
      obtain ⟨r9, σ9, e9, H⟩ := of_bnd H
      refine g_callV (q := 171) (rest := []) dX7_count_168 rfl cvX7_138 (ctX7_passages e9) rfl rfl ⟨Nat.le_of_ble_eq_true rfl, Nat.le_of_ble_eq_true rfl⟩ ⟨Nat.le_refl _, Nat.le_refl _⟩ (Nat.le_of_ble_eq_true rfl) 24 hc24 rfl (fun r0 M9 hp => ?_)
      obtain ⟨rfl, rfl⟩ := hp
      show Go x _ _ g 171 [.ref (ad 24), .int l1] [.int r9] (HH g ad σ9 ++ ex) 0 0
      refine g_aload_n (q := 172) (i := 0) dX7_count_171 rfl rfl rfl ?_
      refine g_get (q := 175) dX7_count_172 rfl foX7_68 24 hc24 rfl ?_
      refine g_iconst (q := 176) (v := 1) dX7_count_175 rfl (by decide) ?_
      refine g_isub (q := 177) dX7_count_176 rfl ?_
      refine g_icmp_ne (q := 180) (r := 184) dX7_count_177 (by decide) rfl (fun c177 => ?_) (fun c177 => ?_)
      · replace H := (if_neg c177).symm.trans H
        refine g_iconst (q := 185) (v := 0) dX7_count_184 rfl (by decide) ?_
        exact g_iret hX dX7_count_185 rfl rfl (Nat.le_refl _) (Nat.le_refl _) (piOk H)
      · replace H := (if_pos c177).symm.trans H
        refine g_iconst (q := 181) (v := 1) dX7_count_180 rfl (by decide) ?_
        refine g_goto (q := 185) dX7_count_181 (by decide) ?_
        exact g_iret hX dX7_count_185 rfl rfl (Nat.le_refl _) (Nat.le_refl _) (piOk H)
  replace H := (if_neg e1_10).symm.trans H
  exact nomatch (show (none : Rs) = some _ from H)
def bX7_placeOf_2 (F : Nat) (k2 : Sg → Int32 → Int32 → Rs) (σ : Sg) (l1 : Int32) (l2 : Int32) : Rs := if ib l2 12 then (if (σ.2.1 28 l2.toNatClampNeg) = l1 then (some (l2, σ)) else (li_ (l2 + (1 : Int32)) fun v1 => k2 σ (l1) (v1))) else none
set_option maxRecDepth 100000 in
set_option maxHeartbeats 4000000 in
theorem wbX7_placeOf_2 {x : FX} {g : GX} {ad : Nat → Nat} {ex M0 : va_W} {r : Int32} {τ : Sg} {F : Nat} (hX : RX x g M0 (Pi_ r (HH g ad τ ++ ex)) 0 0) {k2 : Sg → Int32 → Int32 → Rs} (h2 : ∀ (σ : Sg) (l1 : Int32) (l2 : Int32), k2 σ l1 l2 = some (r, τ) → Go x { frames := 0, cells := 0, slots := 0, locals := 0 } tX7_placeOf g 2 [.ref (ad 24), .int l1, .int l2] [] (HH g ad σ ++ ex) 0 0) (σ : Sg) (l1 : Int32) (l2 : Int32) (H : bX7_placeOf_2 F k2 σ l1 l2 = some (r, τ)) : Go x { frames := 0, cells := 0, slots := 0, locals := 0 } tX7_placeOf g 2 [.ref (ad 24), .int l1, .int l2] [] (HH g ad σ ++ ex) 0 0 := by
  unfold bX7_placeOf_2 at H
  refine g_aload_n (q := 3) (i := 0) dX7_placeOf_2 rfl rfl rfl ?_
  refine g_get (q := 6) dX7_placeOf_3 rfl foX7_20 24 hc24 rfl ?_
  refine g_iload_n (q := 7) (i := 2) dX7_placeOf_6 rfl rfl rfl ?_
  obtain ⟨b7, H⟩ := of_chk H
  refine g_iald (q := 8) dX7_placeOf_7 rfl 28 hc28 b7 ?_
  refine g_iload_n (q := 9) (i := 1) dX7_placeOf_8 rfl rfl rfl ?_
  refine g_icmp_eq (q := 12) (r := 19) dX7_placeOf_9 (by decide) rfl (fun c9 => ?_) (fun c9 => ?_)
  · replace H := (if_pos c9).symm.trans H
    refine g_iload_n (q := 20) (i := 2) dX7_placeOf_19 rfl rfl rfl ?_
    exact g_iret hX dX7_placeOf_20 rfl rfl (Nat.le_refl _) (Nat.le_refl _) (piOk H)
  · replace H := (if_neg c9).symm.trans H
    refine g_iload_n (q := 13) (i := 2) dX7_placeOf_12 rfl rfl rfl ?_
    refine g_iconst (q := 14) (v := 1) dX7_placeOf_13 rfl (by decide) ?_
    refine g_iadd (q := 15) dX7_placeOf_14 rfl ?_
    obtain ⟨v1, n1, H⟩ := of_li H
    refine g_name n1 ?_
    refine g_istore_n (q := 16) (L' := [.ref (ad 24), .int l1, .int v1]) (i := 2) dX7_placeOf_15 rfl rfl (Nat.le_of_ble_eq_true rfl) rfl ?_
    refine g_goto (q := 2) dX7_placeOf_16 (by decide) ?_
    exact g_weak (L' := [.ref (ad 24), .int l1, .int v1]) ⟨Or.inr rfl, Or.inr rfl, Or.inr rfl, trivial⟩ (h2 _ _ _ H)
def fX7_placeOf_2 (F : Nat)  : Nat → Sg → Int32 → Int32 → Rs
  | 0 => fun _ _ _ => none
  | n + 1 => fun σ l1 l2 => bX7_placeOf_2 F  (fX7_placeOf_2 F  n) σ l1 l2
theorem wfX7_placeOf_2 {x : FX} {g : GX} {ad : Nat → Nat} {ex M0 : va_W} {r : Int32} {τ : Sg} {F : Nat} (hX : RX x g M0 (Pi_ r (HH g ad τ ++ ex)) 0 0)   : ∀ (n : Nat) (σ : Sg) (l1 : Int32) (l2 : Int32), fX7_placeOf_2 F  n σ l1 l2 = some (r, τ) → Go x { frames := 0, cells := 0, slots := 0, locals := 0 } tX7_placeOf g 2 [.ref (ad 24), .int l1, .int l2] [] (HH g ad σ ++ ex) 0 0
  | 0, _, _, _, H => nomatch (show (none : Rs) = some _ from H)
  | n + 1, σ, l1, l2, H => wbX7_placeOf_2 (F := F) hX  (fun σ2 z1 z2 H2 => wfX7_placeOf_2 (F := F) hX  n σ2 z1 z2 H2) σ l1 l2 H
def fX7_placeOf (F : Nat) (σ : Sg) (l1 : Int32) : Rs := fX7_placeOf_2 F F σ (l1) ((0 : Int32))
set_option maxRecDepth 100000 in
set_option maxHeartbeats 4000000 in
theorem ctX7_placeOf {l : Launch} {g : GX} {ad : Nat → Nat} {ex : va_W} {r : Int32} {τ σ : Sg} {F : Nat} {l1 : Int32} (H : fX7_placeOf F σ l1 = some (r, τ)) : Ct l g yX7_placeOf tX7_placeOf 0 0 0 0 [.ref (ad 24), .int l1] (HH g ad σ ++ ex) (Pi_ r (HH g ad τ ++ ex)) := by
  refine Ct.of (L := [.ref (ad 24), .int l1, un_]) (by decide +kernel) rfl rfl rfl (Nat.le_of_ble_eq_true rfl) rfl (fun x _ hX => ?_)
  unfold fX7_placeOf at H
  refine g_iconst (q := 1) (v := 0) dX7_placeOf_0 rfl (by decide) ?_
  refine g_istore_n (q := 2) (L' := [.ref (ad 24), .int l1, .int ((0 : Int32))]) (i := 2) dX7_placeOf_1 rfl rfl (Nat.le_of_ble_eq_true rfl) rfl ?_
  exact g_weak (L' := [.ref (ad 24), .int l1, .int ((0 : Int32))]) ⟨Or.inr rfl, Or.inr rfl, Or.inr rfl, trivial⟩ (wfX7_placeOf_2 (F := F) hX  F _ _ _ H)
def bX7_degree_4 (F : Nat) (k4 : Sg → Int32 → Int32 → Int32 → Rs) (σ : Sg) (l1 : Int32) (l2 : Int32) (l3 : Int32) : Rs := if (18 : Int32) ≤ l3 then (some (l2, σ)) else ((fX7_isAt F σ l3 l1).bind fun q1 => (fun (r1 : Int32) (σ1 : Sg) => if r1 = (0 : Int32) then (li_ (l2 + (0 : Int32)) fun v2 => k4 σ1 (l1) (v2) (l3 + 1)) else (li_ (l2 + (1 : Int32)) fun v3 => k4 σ1 (l1) (v3) (l3 + 1))) q1.1 q1.2)
set_option maxRecDepth 100000 in
set_option maxHeartbeats 4000000 in
theorem wbX7_degree_4 {x : FX} {g : GX} {ad : Nat → Nat} {ex M0 : va_W} {r : Int32} {τ : Sg} {F : Nat} (hX : RX x g M0 (Pi_ r (HH g ad τ ++ ex)) 0 0) {k4 : Sg → Int32 → Int32 → Int32 → Rs} (h4 : ∀ (σ : Sg) (l1 : Int32) (l2 : Int32) (l3 : Int32), k4 σ l1 l2 l3 = some (r, τ) → Go x { frames := 1, cells := 0, slots := 0, locals := 22 } tX7_degree g 4 [.ref (ad 24), .int l1, .int l2, .int l3] [] (HH g ad σ ++ ex) 0 0) (σ : Sg) (l1 : Int32) (l2 : Int32) (l3 : Int32) (H : bX7_degree_4 F k4 σ l1 l2 l3 = some (r, τ)) : Go x { frames := 1, cells := 0, slots := 0, locals := 22 } tX7_degree g 4 [.ref (ad 24), .int l1, .int l2, .int l3] [] (HH g ad σ ++ ex) 0 0 := by
  unfold bX7_degree_4 at H
  refine g_iload_n (q := 5) (i := 3) dX7_degree_4 rfl rfl rfl ?_
  refine g_bipush (q := 7) (v := 18) dX7_degree_5 rfl (by decide) ?_
  refine g_icmp_ge (q := 10) (r := 33) dX7_degree_7 (by decide) rfl (fun c7 => ?_) (fun c7 => ?_)
  · replace H := (if_pos c7).symm.trans H
    refine g_iload_n (q := 34) (i := 2) dX7_degree_33 rfl rfl rfl ?_
    exact g_iret hX dX7_degree_34 rfl rfl (Nat.le_refl _) (Nat.le_refl _) (piOk H)
  · replace H := (if_neg c7).symm.trans H
    refine g_iload_n (q := 11) (i := 2) dX7_degree_10 rfl rfl rfl ?_
    refine g_aload_n (q := 12) (i := 0) dX7_degree_11 rfl rfl rfl ?_
    refine g_iload_n (q := 13) (i := 3) dX7_degree_12 rfl rfl rfl ?_
    refine g_iload_n (q := 14) (i := 1) dX7_degree_13 rfl rfl rfl ?_
    obtain ⟨r1, σ1, e1, H⟩ := of_bnd H
    refine g_callV (q := 17) (rest := [.int l2]) dX7_degree_14 rfl cvX7_116 (ctX7_isAt e1) rfl rfl ⟨Nat.le_of_ble_eq_true rfl, Nat.le_of_ble_eq_true rfl⟩ ⟨Nat.le_refl _, Nat.le_refl _⟩ (Nat.le_of_ble_eq_true rfl) 24 hc24 rfl (fun r0 M9 hp => ?_)
    obtain ⟨rfl, rfl⟩ := hp
    show Go x _ _ g 17 [.ref (ad 24), .int l1, .int l2, .int l3] [.int r1, .int l2] (HH g ad σ1 ++ ex) 0 0
    refine g_if_eq (q := 20) (r := 24) dX7_degree_17 (by decide) rfl (fun c17 => ?_) (fun c17 => ?_)
    · replace H := (if_pos c17).symm.trans H
      refine g_iconst (q := 25) (v := 0) dX7_degree_24 rfl (by decide) ?_
      refine g_iadd (q := 26) dX7_degree_25 rfl ?_
      obtain ⟨v2, n2, H⟩ := of_li H
      refine g_name n2 ?_
      refine g_istore_n (q := 27) (L' := [.ref (ad 24), .int l1, .int v2, .int l3]) (i := 2) dX7_degree_26 rfl rfl (Nat.le_of_ble_eq_true rfl) rfl ?_
      refine g_iinc (q := 30) (b := l3 + 1) (L' := [.ref (ad 24), .int l1, .int v2, .int (l3 + 1)]) dX7_degree_27 rfl rfl rfl (Nat.le_of_ble_eq_true rfl) rfl ?_
      refine g_goto (q := 4) dX7_degree_30 (by decide) ?_
      exact g_weak (L' := [.ref (ad 24), .int l1, .int v2, .int (l3 + 1)]) ⟨Or.inr rfl, Or.inr rfl, Or.inr rfl, Or.inr rfl, trivial⟩ (h4 _ _ _ _ H)
    · replace H := (if_neg c17).symm.trans H
      refine g_iconst (q := 21) (v := 1) dX7_degree_20 rfl (by decide) ?_
      refine g_goto (q := 25) dX7_degree_21 (by decide) ?_
      refine g_iadd (q := 26) dX7_degree_25 rfl ?_
      obtain ⟨v3, n3, H⟩ := of_li H
      refine g_name n3 ?_
      refine g_istore_n (q := 27) (L' := [.ref (ad 24), .int l1, .int v3, .int l3]) (i := 2) dX7_degree_26 rfl rfl (Nat.le_of_ble_eq_true rfl) rfl ?_
      refine g_iinc (q := 30) (b := l3 + 1) (L' := [.ref (ad 24), .int l1, .int v3, .int (l3 + 1)]) dX7_degree_27 rfl rfl rfl (Nat.le_of_ble_eq_true rfl) rfl ?_
      refine g_goto (q := 4) dX7_degree_30 (by decide) ?_
      exact g_weak (L' := [.ref (ad 24), .int l1, .int v3, .int (l3 + 1)]) ⟨Or.inr rfl, Or.inr rfl, Or.inr rfl, Or.inr rfl, trivial⟩ (h4 _ _ _ _ H)
def fX7_degree_4 (F : Nat)  : Nat → Sg → Int32 → Int32 → Int32 → Rs
  | 0 => fun _ _ _ _ => none
  | n + 1 => fun σ l1 l2 l3 => bX7_degree_4 F  (fX7_degree_4 F  n) σ l1 l2 l3
theorem wfX7_degree_4 {x : FX} {g : GX} {ad : Nat → Nat} {ex M0 : va_W} {r : Int32} {τ : Sg} {F : Nat} (hX : RX x g M0 (Pi_ r (HH g ad τ ++ ex)) 0 0)   : ∀ (n : Nat) (σ : Sg) (l1 : Int32) (l2 : Int32) (l3 : Int32), fX7_degree_4 F  n σ l1 l2 l3 = some (r, τ) → Go x { frames := 1, cells := 0, slots := 0, locals := 22 } tX7_degree g 4 [.ref (ad 24), .int l1, .int l2, .int l3] [] (HH g ad σ ++ ex) 0 0
  | 0, _, _, _, _, H => nomatch (show (none : Rs) = some _ from H)
  | n + 1, σ, l1, l2, l3, H => wbX7_degree_4 (F := F) hX  (fun σ2 z1 z2 z3 H2 => wfX7_degree_4 (F := F) hX  n σ2 z1 z2 z3 H2) σ l1 l2 l3 H
def fX7_degree (F : Nat) (σ : Sg) (l1 : Int32) : Rs := fX7_degree_4 F F σ (l1) ((0 : Int32)) ((0 : Int32))
set_option maxRecDepth 100000 in
set_option maxHeartbeats 4000000 in
theorem ctX7_degree {l : Launch} {g : GX} {ad : Nat → Nat} {ex : va_W} {r : Int32} {τ σ : Sg} {F : Nat} {l1 : Int32} (H : fX7_degree F σ l1 = some (r, τ)) : Ct l g yX7_degree tX7_degree 1 22 0 0 [.ref (ad 24), .int l1] (HH g ad σ ++ ex) (Pi_ r (HH g ad τ ++ ex)) := by
  refine Ct.of (L := [.ref (ad 24), .int l1, un_, un_]) (by decide +kernel) rfl rfl rfl (Nat.le_of_ble_eq_true rfl) rfl (fun x _ hX => ?_)
  unfold fX7_degree at H
  refine g_iconst (q := 1) (v := 0) dX7_degree_0 rfl (by decide) ?_
  refine g_istore_n (q := 2) (L' := [.ref (ad 24), .int l1, .int ((0 : Int32)), un_]) (i := 2) dX7_degree_1 rfl rfl (Nat.le_of_ble_eq_true rfl) rfl ?_
  refine g_iconst (q := 3) (v := 0) dX7_degree_2 rfl (by decide) ?_
  refine g_istore_n (q := 4) (L' := [.ref (ad 24), .int l1, .int ((0 : Int32)), .int ((0 : Int32))]) (i := 3) dX7_degree_3 rfl rfl (Nat.le_of_ble_eq_true rfl) rfl ?_
  exact g_weak (L' := [.ref (ad 24), .int l1, .int ((0 : Int32)), .int ((0 : Int32))]) ⟨Or.inr rfl, Or.inr rfl, Or.inr rfl, Or.inr rfl, trivial⟩ (wfX7_degree_4 (F := F) hX  F _ _ _ _ H)
def bX7_look_76 (F : Nat)  (σ : Sg) (l1 : Int32) (l2 : Int32) : Rs := if l2 < (4 : Int32) then (some ((-1 : Int32), σ)) else (if (7 : Int32) < l2 then (some ((-1 : Int32), σ)) else ((fX7_isPassage F σ l1).bind fun q1 => (fun (r1 : Int32) (σ1 : Sg) => if r1 = (0 : Int32) then (some ((-1 : Int32), σ1)) else (if l2 = (4 : Int32) then (if ib l1 18 then (some (σ1.2.1 25 l1.toNatClampNeg, σ1)) else none) else (if l2 = (5 : Int32) then (if ib l1 18 then (some (σ1.2.1 26 l1.toNatClampNeg, σ1)) else none) else (if l2 = (6 : Int32) then (if ib (σ1.1 25) 201 then (some (((σ1.2.1 35 (σ1.1 25).toNatClampNeg) >>> (l1 &&& 31)) &&& (1 : Int32), σ1)) else none) else (if (σ1.1 25) ≤ (0 : Int32) then (some ((0 : Int32), σ1)) else (if ib (σ1.1 25) 201 then (if (((σ1.2.1 35 (σ1.1 25).toNatClampNeg) >>> (l1 &&& 31)) &&& (1 : Int32)) = (1 : Int32) then (if ib ((σ1.1 25) - (1 : Int32)) 201 then (if (((σ1.2.1 35 ((σ1.1 25) - (1 : Int32)).toNatClampNeg) >>> (l1 &&& 31)) &&& (1 : Int32)) = (0 : Int32) then (some ((1 : Int32), σ1)) else (some ((0 : Int32), σ1))) else none) else (some ((0 : Int32), σ1))) else none)))))) q1.1 q1.2))
set_option maxRecDepth 100000 in
set_option maxHeartbeats 4000000 in
theorem wbX7_look_76 {x : FX} {g : GX} {ad : Nat → Nat} {ex M0 : va_W} {r : Int32} {τ : Sg} {F : Nat} (hX : RX x g M0 (Pi_ r (HH g ad τ ++ ex)) 0 0)   (σ : Sg) (l1 : Int32) (l2 : Int32) (H : bX7_look_76 F  σ l1 l2 = some (r, τ)) : Go x { frames := 2, cells := 0, slots := 0, locals := 45 } tX7_look g 76 [.ref (ad 24), .int l1, .int l2] [] (HH g ad σ ++ ex) 0 0 := by
  unfold bX7_look_76 at H
  refine g_iload_n (q := 77) (i := 2) dX7_look_76 rfl rfl rfl ?_
  refine g_iconst (q := 78) (v := 4) dX7_look_77 rfl (by decide) ?_
  refine g_icmp_lt (q := 81) (r := 95) dX7_look_78 (by decide) rfl (fun c78 => ?_) (fun c78 => ?_)
  · replace H := (if_pos c78).symm.trans H
    refine g_iconst (q := 96) (v := -1) dX7_look_95 rfl (by decide) ?_
    exact g_iret hX dX7_look_96 rfl rfl (Nat.le_refl _) (Nat.le_refl _) (piOk H)
  · replace H := (if_neg c78).symm.trans H
    refine g_iload_n (q := 82) (i := 2) dX7_look_81 rfl rfl rfl ?_
    refine g_bipush (q := 84) (v := 7) dX7_look_82 rfl (by decide) ?_
    refine g_icmp_gt (q := 87) (r := 95) dX7_look_84 (by decide) rfl (fun c84 => ?_) (fun c84 => ?_)
    · replace H := (if_pos c84).symm.trans H
      refine g_iconst (q := 96) (v := -1) dX7_look_95 rfl (by decide) ?_
      exact g_iret hX dX7_look_96 rfl rfl (Nat.le_refl _) (Nat.le_refl _) (piOk H)
    · replace H := (if_neg c84).symm.trans H
      refine g_aload_n (q := 88) (i := 0) dX7_look_87 rfl rfl rfl ?_
      refine g_iload_n (q := 89) (i := 1) dX7_look_88 rfl rfl rfl ?_
      obtain ⟨r1, σ1, e1, H⟩ := of_bnd H
      refine g_callV (q := 92) (rest := []) dX7_look_89 rfl cvX7_84 (ctX7_isPassage e1) rfl rfl ⟨Nat.le_of_ble_eq_true rfl, Nat.le_of_ble_eq_true rfl⟩ ⟨Nat.le_refl _, Nat.le_refl _⟩ (Nat.le_of_ble_eq_true rfl) 24 hc24 rfl (fun r0 M9 hp => ?_)
      obtain ⟨rfl, rfl⟩ := hp
      show Go x _ _ g 92 [.ref (ad 24), .int l1, .int l2] [.int r1] (HH g ad σ1 ++ ex) 0 0
      refine g_if_ne (q := 95) (r := 97) dX7_look_92 (by decide) rfl (fun c92 => ?_) (fun c92 => ?_)
      · replace H := (if_neg c92).symm.trans H
        refine g_iload_n (q := 98) (i := 2) dX7_look_97 rfl rfl rfl ?_
        refine g_iconst (q := 99) (v := 4) dX7_look_98 rfl (by decide) ?_
        refine g_icmp_ne (q := 102) (r := 109) dX7_look_99 (by decide) rfl (fun c99 => ?_) (fun c99 => ?_)
        · replace H := (if_neg c99).symm.trans H
          refine g_iload_n (q := 110) (i := 2) dX7_look_109 rfl rfl rfl ?_
          refine g_iconst (q := 111) (v := 5) dX7_look_110 rfl (by decide) ?_
          refine g_icmp_ne (q := 114) (r := 121) dX7_look_111 (by decide) rfl (fun c111 => ?_) (fun c111 => ?_)
          · replace H := (if_neg c111).symm.trans H
            refine g_iload_n (q := 122) (i := 2) dX7_look_121 rfl rfl rfl ?_
            refine g_bipush (q := 124) (v := 6) dX7_look_122 rfl (by decide) ?_
            refine g_icmp_ne (q := 127) (r := 141) dX7_look_124 (by decide) rfl (fun c124 => ?_) (fun c124 => ?_)
            · replace H := (if_neg c124).symm.trans H
              refine g_aload_n (q := 142) (i := 0) dX7_look_141 rfl rfl rfl ?_
              refine g_get (q := 145) dX7_look_142 rfl foX7_107 24 hc24 rfl ?_
              refine g_if_le (q := 148) (r := 187) dX7_look_145 (by decide) rfl (fun c145 => ?_) (fun c145 => ?_)
              · replace H := (if_pos c145).symm.trans H
                refine g_iconst (q := 188) (v := 0) dX7_look_187 rfl (by decide) ?_
                exact g_iret hX dX7_look_188 rfl rfl (Nat.le_refl _) (Nat.le_refl _) (piOk H)
              · replace H := (if_neg c145).symm.trans H
                refine g_aload_n (q := 149) (i := 0) dX7_look_148 rfl rfl rfl ?_
                refine g_get (q := 152) dX7_look_149 rfl foX7_41 24 hc24 rfl ?_
                refine g_aload_n (q := 153) (i := 0) dX7_look_152 rfl rfl rfl ?_
                refine g_get (q := 156) dX7_look_153 rfl foX7_107 24 hc24 rfl ?_
                obtain ⟨b156, H⟩ := of_chk H
                refine g_iald (q := 157) dX7_look_156 rfl 35 hc35 b156 ?_
                refine g_iload_n (q := 158) (i := 1) dX7_look_157 rfl rfl rfl ?_
                refine g_ishr (q := 159) dX7_look_158 rfl ?_
                refine g_iconst (q := 160) (v := 1) dX7_look_159 rfl (by decide) ?_
                refine g_iand (q := 161) dX7_look_160 rfl ?_
                refine g_iconst (q := 162) (v := 1) dX7_look_161 rfl (by decide) ?_
                refine g_icmp_ne (q := 165) (r := 187) dX7_look_162 (by decide) rfl (fun c162 => ?_) (fun c162 => ?_)
                · replace H := (if_neg c162).symm.trans H
                  refine g_iconst (q := 188) (v := 0) dX7_look_187 rfl (by decide) ?_
                  exact g_iret hX dX7_look_188 rfl rfl (Nat.le_refl _) (Nat.le_refl _) (piOk H)
                · replace H := (if_pos c162).symm.trans H
                  refine g_aload_n (q := 166) (i := 0) dX7_look_165 rfl rfl rfl ?_
                  refine g_get (q := 169) dX7_look_166 rfl foX7_41 24 hc24 rfl ?_
                  refine g_aload_n (q := 170) (i := 0) dX7_look_169 rfl rfl rfl ?_
                  refine g_get (q := 173) dX7_look_170 rfl foX7_107 24 hc24 rfl ?_
                  refine g_iconst (q := 174) (v := 1) dX7_look_173 rfl (by decide) ?_
                  refine g_isub (q := 175) dX7_look_174 rfl ?_
                  obtain ⟨b175, H⟩ := of_chk H
                  refine g_iald (q := 176) dX7_look_175 rfl 35 hc35 b175 ?_
                  refine g_iload_n (q := 177) (i := 1) dX7_look_176 rfl rfl rfl ?_
                  refine g_ishr (q := 178) dX7_look_177 rfl ?_
                  refine g_iconst (q := 179) (v := 1) dX7_look_178 rfl (by decide) ?_
                  refine g_iand (q := 180) dX7_look_179 rfl ?_
                  refine g_if_ne (q := 183) (r := 187) dX7_look_180 (by decide) rfl (fun c180 => ?_) (fun c180 => ?_)
                  · replace H := (if_neg c180).symm.trans H
                    refine g_iconst (q := 188) (v := 0) dX7_look_187 rfl (by decide) ?_
                    exact g_iret hX dX7_look_188 rfl rfl (Nat.le_refl _) (Nat.le_refl _) (piOk H)
                  · replace H := (if_pos c180).symm.trans H
                    refine g_iconst (q := 184) (v := 1) dX7_look_183 rfl (by decide) ?_
                    refine g_goto (q := 188) dX7_look_184 (by decide) ?_
                    exact g_iret hX dX7_look_188 rfl rfl (Nat.le_refl _) (Nat.le_refl _) (piOk H)
            · replace H := (if_pos c124).symm.trans H
              refine g_aload_n (q := 128) (i := 0) dX7_look_127 rfl rfl rfl ?_
              refine g_get (q := 131) dX7_look_128 rfl foX7_41 24 hc24 rfl ?_
              refine g_aload_n (q := 132) (i := 0) dX7_look_131 rfl rfl rfl ?_
              refine g_get (q := 135) dX7_look_132 rfl foX7_107 24 hc24 rfl ?_
              obtain ⟨b135, H⟩ := of_chk H
              refine g_iald (q := 136) dX7_look_135 rfl 35 hc35 b135 ?_
              refine g_iload_n (q := 137) (i := 1) dX7_look_136 rfl rfl rfl ?_
              refine g_ishr (q := 138) dX7_look_137 rfl ?_
              refine g_iconst (q := 139) (v := 1) dX7_look_138 rfl (by decide) ?_
              refine g_iand (q := 140) dX7_look_139 rfl ?_
              exact g_iret hX dX7_look_140 rfl rfl (Nat.le_refl _) (Nat.le_refl _) (piOk H)
          · replace H := (if_pos c111).symm.trans H
            refine g_aload_n (q := 115) (i := 0) dX7_look_114 rfl rfl rfl ?_
            refine g_get (q := 118) dX7_look_115 rfl foX7_13 24 hc24 rfl ?_
            refine g_iload_n (q := 119) (i := 1) dX7_look_118 rfl rfl rfl ?_
            obtain ⟨b119, H⟩ := of_chk H
            refine g_iald (q := 120) dX7_look_119 rfl 26 hc26 b119 ?_
            exact g_iret hX dX7_look_120 rfl rfl (Nat.le_refl _) (Nat.le_refl _) (piOk H)
        · replace H := (if_pos c99).symm.trans H
          refine g_aload_n (q := 103) (i := 0) dX7_look_102 rfl rfl rfl ?_
          refine g_get (q := 106) dX7_look_103 rfl foX7_7 24 hc24 rfl ?_
          refine g_iload_n (q := 107) (i := 1) dX7_look_106 rfl rfl rfl ?_
          obtain ⟨b107, H⟩ := of_chk H
          refine g_iald (q := 108) dX7_look_107 rfl 25 hc25 b107 ?_
          exact g_iret hX dX7_look_108 rfl rfl (Nat.le_refl _) (Nat.le_refl _) (piOk H)
      · replace H := (if_pos c92).symm.trans H
        refine g_iconst (q := 96) (v := -1) dX7_look_95 rfl (by decide) ?_
        exact g_iret hX dX7_look_96 rfl rfl (Nat.le_refl _) (Nat.le_refl _) (piOk H)
def fX7_look (F : Nat) (σ : Sg) (l1 : Int32) (l2 : Int32) : Rs := if l2 < (0 : Int32) then (bX7_look_76 F σ (l1) (l2)) else (if (4 : Int32) ≤ l2 then (bX7_look_76 F σ (l1) (l2)) else ((fX7_isCave F σ l1).bind fun q1 => (fun (r1 : Int32) (σ1 : Sg) => if r1 = (0 : Int32) then (some ((-1 : Int32), σ1)) else (if l2 = (0 : Int32) then (if ib (((12 : Int32) * (σ1.1 25)) + l1) 2412 then (some (σ1.2.1 33 (((12 : Int32) * (σ1.1 25)) + l1).toNatClampNeg, σ1)) else none) else (if l2 = (1 : Int32) then (if ib (σ1.1 25) 201 then (some (((σ1.2.1 34 (σ1.1 25).toNatClampNeg) >>> (l1 &&& 31)) &&& (1 : Int32), σ1)) else none) else (if l2 = (2 : Int32) then ((fX7_degree F σ1 l1).bind fun q3 => (fun (r3 : Int32) (σ3 : Sg) => some (r3, σ3)) q3.1 q3.2) else ((fX7_placeOf F σ1 l1).bind fun q2 => (fun (r2 : Int32) (σ2 : Sg) => some (r2, σ2)) q2.1 q2.2))))) q1.1 q1.2))
set_option maxRecDepth 100000 in
set_option maxHeartbeats 4000000 in
theorem ctX7_look {l : Launch} {g : GX} {ad : Nat → Nat} {ex : va_W} {r : Int32} {τ σ : Sg} {F : Nat} {l1 : Int32} {l2 : Int32} (H : fX7_look F σ l1 l2 = some (r, τ)) : Ct l g yX7_look tX7_look 2 45 0 0 [.ref (ad 24), .int l1, .int l2] (HH g ad σ ++ ex) (Pi_ r (HH g ad τ ++ ex)) := by
  refine Ct.of (L := [.ref (ad 24), .int l1, .int l2]) (by decide +kernel) rfl rfl rfl (Nat.le_of_ble_eq_true rfl) rfl (fun x _ hX => ?_)
  unfold fX7_look at H
  refine g_iload_n (q := 1) (i := 2) dX7_look_0 rfl rfl rfl ?_
  refine g_if_lt (q := 4) (r := 76) dX7_look_1 (by decide) rfl (fun c1 => ?_) (fun c1 => ?_)
  · replace H := (if_pos c1).symm.trans H
    exact g_weak (L' := [.ref (ad 24), .int l1, .int l2]) ⟨Or.inr rfl, Or.inr rfl, Or.inr rfl, trivial⟩ (wbX7_look_76 (F := F) hX  _ _ _ H)
  · replace H := (if_neg c1).symm.trans H
    refine g_iload_n (q := 5) (i := 2) dX7_look_4 rfl rfl rfl ?_
    refine g_iconst (q := 6) (v := 4) dX7_look_5 rfl (by decide) ?_
    refine g_icmp_ge (q := 9) (r := 76) dX7_look_6 (by decide) rfl (fun c6 => ?_) (fun c6 => ?_)
    · replace H := (if_pos c6).symm.trans H
      exact g_weak (L' := [.ref (ad 24), .int l1, .int l2]) ⟨Or.inr rfl, Or.inr rfl, Or.inr rfl, trivial⟩ (wbX7_look_76 (F := F) hX  _ _ _ H)
    · replace H := (if_neg c6).symm.trans H
      refine g_aload_n (q := 10) (i := 0) dX7_look_9 rfl rfl rfl ?_
      refine g_iload_n (q := 11) (i := 1) dX7_look_10 rfl rfl rfl ?_
      obtain ⟨r1, σ1, e1, H⟩ := of_bnd H
      refine g_callV (q := 14) (rest := []) dX7_look_11 rfl cvX7_80 (ctX7_isCave e1) rfl rfl ⟨Nat.le_of_ble_eq_true rfl, Nat.le_of_ble_eq_true rfl⟩ ⟨Nat.le_refl _, Nat.le_refl _⟩ (Nat.le_of_ble_eq_true rfl) 24 hc24 rfl (fun r0 M9 hp => ?_)
      obtain ⟨rfl, rfl⟩ := hp
      show Go x _ _ g 14 [.ref (ad 24), .int l1, .int l2] [.int r1] (HH g ad σ1 ++ ex) 0 0
      refine g_if_ne (q := 17) (r := 19) dX7_look_14 (by decide) rfl (fun c14 => ?_) (fun c14 => ?_)
      · replace H := (if_neg c14).symm.trans H
        refine g_iload_n (q := 20) (i := 2) dX7_look_19 rfl rfl rfl ?_
        refine g_if_ne (q := 23) (r := 38) dX7_look_20 (by decide) rfl (fun c20 => ?_) (fun c20 => ?_)
        · replace H := (if_neg c20).symm.trans H
          refine g_iload_n (q := 39) (i := 2) dX7_look_38 rfl rfl rfl ?_
          refine g_iconst (q := 40) (v := 1) dX7_look_39 rfl (by decide) ?_
          refine g_icmp_ne (q := 43) (r := 57) dX7_look_40 (by decide) rfl (fun c40 => ?_) (fun c40 => ?_)
          · replace H := (if_neg c40).symm.trans H
            refine g_iload_n (q := 58) (i := 2) dX7_look_57 rfl rfl rfl ?_
            refine g_iconst (q := 59) (v := 2) dX7_look_58 rfl (by decide) ?_
            refine g_icmp_ne (q := 62) (r := 70) dX7_look_59 (by decide) rfl (fun c59 => ?_) (fun c59 => ?_)
            · replace H := (if_neg c59).symm.trans H
              refine g_aload_n (q := 71) (i := 0) dX7_look_70 rfl rfl rfl ?_
              refine g_iload_n (q := 72) (i := 1) dX7_look_71 rfl rfl rfl ?_
              obtain ⟨r2, σ2, e2, H⟩ := of_bnd H
              refine g_callV (q := 75) (rest := []) dX7_look_72 rfl cvX7_147 (ctX7_placeOf e2) rfl rfl ⟨Nat.le_of_ble_eq_true rfl, Nat.le_of_ble_eq_true rfl⟩ ⟨Nat.le_refl _, Nat.le_refl _⟩ (Nat.le_of_ble_eq_true rfl) 24 hc24 rfl (fun r0 M9 hp => ?_)
              obtain ⟨rfl, rfl⟩ := hp
              show Go x _ _ g 75 [.ref (ad 24), .int l1, .int l2] [.int r2] (HH g ad σ2 ++ ex) 0 0
              exact g_iret hX dX7_look_75 rfl rfl (Nat.le_refl _) (Nat.le_refl _) (piOk H)
            · replace H := (if_pos c59).symm.trans H
              refine g_aload_n (q := 63) (i := 0) dX7_look_62 rfl rfl rfl ?_
              refine g_iload_n (q := 64) (i := 1) dX7_look_63 rfl rfl rfl ?_
              obtain ⟨r3, σ3, e3, H⟩ := of_bnd H
              refine g_callV (q := 67) (rest := []) dX7_look_64 rfl cvX7_144 (ctX7_degree e3) rfl rfl ⟨Nat.le_of_ble_eq_true rfl, Nat.le_of_ble_eq_true rfl⟩ ⟨Nat.le_refl _, Nat.le_refl _⟩ (Nat.le_of_ble_eq_true rfl) 24 hc24 rfl (fun r0 M9 hp => ?_)
              obtain ⟨rfl, rfl⟩ := hp
              show Go x _ _ g 67 [.ref (ad 24), .int l1, .int l2] [.int r3] (HH g ad σ3 ++ ex) 0 0
              refine g_goto (q := 75) dX7_look_67 (by decide) ?_
              exact g_iret hX dX7_look_75 rfl rfl (Nat.le_refl _) (Nat.le_refl _) (piOk H)
          · replace H := (if_pos c40).symm.trans H
            refine g_aload_n (q := 44) (i := 0) dX7_look_43 rfl rfl rfl ?_
            refine g_get (q := 47) dX7_look_44 rfl foX7_38 24 hc24 rfl ?_
            refine g_aload_n (q := 48) (i := 0) dX7_look_47 rfl rfl rfl ?_
            refine g_get (q := 51) dX7_look_48 rfl foX7_107 24 hc24 rfl ?_
            obtain ⟨b51, H⟩ := of_chk H
            refine g_iald (q := 52) dX7_look_51 rfl 34 hc34 b51 ?_
            refine g_iload_n (q := 53) (i := 1) dX7_look_52 rfl rfl rfl ?_
            refine g_ishr (q := 54) dX7_look_53 rfl ?_
            refine g_iconst (q := 55) (v := 1) dX7_look_54 rfl (by decide) ?_
            refine g_iand (q := 56) dX7_look_55 rfl ?_
            exact g_iret hX dX7_look_56 rfl rfl (Nat.le_refl _) (Nat.le_refl _) (piOk H)
        · replace H := (if_pos c20).symm.trans H
          refine g_aload_n (q := 24) (i := 0) dX7_look_23 rfl rfl rfl ?_
          refine g_get (q := 27) dX7_look_24 rfl foX7_35 24 hc24 rfl ?_
          refine g_bipush (q := 29) (v := 12) dX7_look_27 rfl (by decide) ?_
          refine g_aload_n (q := 30) (i := 0) dX7_look_29 rfl rfl rfl ?_
          refine g_get (q := 33) dX7_look_30 rfl foX7_107 24 hc24 rfl ?_
          refine g_imul (q := 34) dX7_look_33 rfl ?_
          refine g_iload_n (q := 35) (i := 1) dX7_look_34 rfl rfl rfl ?_
          refine g_iadd (q := 36) dX7_look_35 rfl ?_
          obtain ⟨b36, H⟩ := of_chk H
          refine g_iald (q := 37) dX7_look_36 rfl 33 hc33 b36 ?_
          exact g_iret hX dX7_look_37 rfl rfl (Nat.le_refl _) (Nat.le_refl _) (piOk H)
      · replace H := (if_pos c14).symm.trans H
        refine g_iconst (q := 18) (v := -1) dX7_look_17 rfl (by decide) ?_
        exact g_iret hX dX7_look_18 rfl rfl (Nat.le_refl _) (Nat.le_refl _) (piOk H)
def bX7_number_32 (F : Nat) (k32 : Sg → Int32 → Int32 → Int32 → Int32 → Rs) (σ : Sg) (l1 : Int32) (l2 : Int32) (l3 : Int32) (l4 : Int32) : Rs := if (18 : Int32) ≤ l4 then (if l1 = (1 : Int32) then (if (σ.1 27) = (0 : Int32) then (some ((((l2 <<< ((6 : Int32) &&& 31)) ||| (σ.1 23)) <<< ((1 : Int32) &&& 31)) ||| (0 : Int32), σ)) else (some ((((l2 <<< ((6 : Int32) &&& 31)) ||| (σ.1 23)) <<< ((1 : Int32) &&& 31)) ||| (1 : Int32), σ))) else (some ((((l2 <<< ((6 : Int32) &&& 31)) ||| (σ.1 23)) <<< ((1 : Int32) &&& 31)) ||| (0 : Int32), σ))) else (if ib l4 18 then (if (σ.2.1 27 l4.toNatClampNeg) = (0 : Int32) then (k32 σ (l1) (l2) (l3) (l4 + 1)) else (li_ ((l2 <<< ((1 : Int32) &&& 31)) ||| (((σ.1 24) >>> (l4 &&& 31)) &&& (1 : Int32))) fun v1 => li_ (l3 + (1 : Int32)) fun v2 => k32 σ (l1) (v1) (v2) (l4 + 1))) else none)
set_option maxRecDepth 100000 in
set_option maxHeartbeats 4000000 in
theorem wbX7_number_32 {x : FX} {g : GX} {ad : Nat → Nat} {ex M0 : va_W} {r : Int32} {τ : Sg} {F : Nat} (hX : RX x g M0 (Pi_ r (HH g ad τ ++ ex)) 0 0) {k32 : Sg → Int32 → Int32 → Int32 → Int32 → Rs} (h32 : ∀ (σ : Sg) (l1 : Int32) (l2 : Int32) (l3 : Int32) (l4 : Int32), k32 σ l1 l2 l3 l4 = some (r, τ) → Go x { frames := 0, cells := 0, slots := 0, locals := 0 } tX7_number g 32 [.ref (ad 24), .int l1, .int l2, .int l3, .int l4] [] (HH g ad σ ++ ex) 0 0) (σ : Sg) (l1 : Int32) (l2 : Int32) (l3 : Int32) (l4 : Int32) (H : bX7_number_32 F k32 σ l1 l2 l3 l4 = some (r, τ)) : Go x { frames := 0, cells := 0, slots := 0, locals := 0 } tX7_number g 32 [.ref (ad 24), .int l1, .int l2, .int l3, .int l4] [] (HH g ad σ ++ ex) 0 0 := by
  unfold bX7_number_32 at H
  refine g_iload (q := 34) dX7_number_32 rfl rfl ?_
  refine g_bipush (q := 36) (v := 18) dX7_number_34 rfl (by decide) ?_
  refine g_icmp_ge (q := 39) (r := 76) dX7_number_36 (by decide) rfl (fun c36 => ?_) (fun c36 => ?_)
  · replace H := (if_pos c36).symm.trans H
    refine g_iload_n (q := 77) (i := 2) dX7_number_76 rfl rfl rfl ?_
    refine g_bipush (q := 79) (v := 6) dX7_number_77 rfl (by decide) ?_
    refine g_ishl (q := 80) dX7_number_79 rfl ?_
    refine g_aload_n (q := 81) (i := 0) dX7_number_80 rfl rfl rfl ?_
    refine g_get (q := 84) dX7_number_81 rfl foX7_91 24 hc24 rfl ?_
    refine g_ior (q := 85) dX7_number_84 rfl ?_
    refine g_iconst (q := 86) (v := 1) dX7_number_85 rfl (by decide) ?_
    refine g_ishl (q := 87) dX7_number_86 rfl ?_
    refine g_iload_n (q := 88) (i := 1) dX7_number_87 rfl rfl rfl ?_
    refine g_iconst (q := 89) (v := 1) dX7_number_88 rfl (by decide) ?_
    refine g_icmp_ne (q := 92) (r := 103) dX7_number_89 (by decide) rfl (fun c89 => ?_) (fun c89 => ?_)
    · replace H := (if_neg c89).symm.trans H
      refine g_iconst (q := 104) (v := 0) dX7_number_103 rfl (by decide) ?_
      refine g_ior (q := 105) dX7_number_104 rfl ?_
      exact g_iret hX dX7_number_105 rfl rfl (Nat.le_refl _) (Nat.le_refl _) (piOk H)
    · replace H := (if_pos c89).symm.trans H
      refine g_aload_n (q := 93) (i := 0) dX7_number_92 rfl rfl rfl ?_
      refine g_get (q := 96) dX7_number_93 rfl foX7_150 24 hc24 rfl ?_
      refine g_if_eq (q := 99) (r := 103) dX7_number_96 (by decide) rfl (fun c96 => ?_) (fun c96 => ?_)
      · replace H := (if_pos c96).symm.trans H
        refine g_iconst (q := 104) (v := 0) dX7_number_103 rfl (by decide) ?_
        refine g_ior (q := 105) dX7_number_104 rfl ?_
        exact g_iret hX dX7_number_105 rfl rfl (Nat.le_refl _) (Nat.le_refl _) (piOk H)
      · replace H := (if_neg c96).symm.trans H
        refine g_iconst (q := 100) (v := 1) dX7_number_99 rfl (by decide) ?_
        refine g_goto (q := 104) dX7_number_100 (by decide) ?_
        refine g_ior (q := 105) dX7_number_104 rfl ?_
        exact g_iret hX dX7_number_105 rfl rfl (Nat.le_refl _) (Nat.le_refl _) (piOk H)
  · replace H := (if_neg c36).symm.trans H
    refine g_aload_n (q := 40) (i := 0) dX7_number_39 rfl rfl rfl ?_
    refine g_get (q := 43) dX7_number_40 rfl foX7_16 24 hc24 rfl ?_
    refine g_iload (q := 45) dX7_number_43 rfl rfl ?_
    obtain ⟨b45, H⟩ := of_chk H
    refine g_zald (q := 46) dX7_number_45 rfl 27 hc27 b45 ?_
    refine g_if_ne (q := 49) (r := 52) dX7_number_46 (by decide) rfl (fun c46 => ?_) (fun c46 => ?_)
    · replace H := (if_neg c46).symm.trans H
      refine g_iload_n (q := 53) (i := 2) dX7_number_52 rfl rfl rfl ?_
      refine g_iconst (q := 54) (v := 1) dX7_number_53 rfl (by decide) ?_
      refine g_ishl (q := 55) dX7_number_54 rfl ?_
      refine g_aload_n (q := 56) (i := 0) dX7_number_55 rfl rfl rfl ?_
      refine g_get (q := 59) dX7_number_56 rfl foX7_94 24 hc24 rfl ?_
      refine g_iload (q := 61) dX7_number_59 rfl rfl ?_
      refine g_ishr (q := 62) dX7_number_61 rfl ?_
      refine g_iconst (q := 63) (v := 1) dX7_number_62 rfl (by decide) ?_
      refine g_iand (q := 64) dX7_number_63 rfl ?_
      refine g_ior (q := 65) dX7_number_64 rfl ?_
      obtain ⟨v1, n1, H⟩ := of_li H
      refine g_name n1 ?_
      refine g_istore_n (q := 66) (L' := [.ref (ad 24), .int l1, .int v1, .int l3, .int l4]) (i := 2) dX7_number_65 rfl rfl (Nat.le_of_ble_eq_true rfl) rfl ?_
      refine g_iload_n (q := 67) (i := 3) dX7_number_66 rfl rfl rfl ?_
      refine g_iconst (q := 68) (v := 1) dX7_number_67 rfl (by decide) ?_
      refine g_iadd (q := 69) dX7_number_68 rfl ?_
      obtain ⟨v2, n2, H⟩ := of_li H
      refine g_name n2 ?_
      refine g_istore_n (q := 70) (L' := [.ref (ad 24), .int l1, .int v1, .int v2, .int l4]) (i := 3) dX7_number_69 rfl rfl (Nat.le_of_ble_eq_true rfl) rfl ?_
      refine g_iinc (q := 73) (b := l4 + 1) (L' := [.ref (ad 24), .int l1, .int v1, .int v2, .int (l4 + 1)]) dX7_number_70 rfl rfl rfl (Nat.le_of_ble_eq_true rfl) rfl ?_
      refine g_goto (q := 32) dX7_number_73 (by decide) ?_
      exact g_weak (L' := [.ref (ad 24), .int l1, .int v1, .int v2, .int (l4 + 1)]) ⟨Or.inr rfl, Or.inr rfl, Or.inr rfl, Or.inr rfl, Or.inr rfl, trivial⟩ (h32 _ _ _ _ _ H)
    · replace H := (if_pos c46).symm.trans H
      refine g_goto (q := 70) dX7_number_49 (by decide) ?_
      refine g_iinc (q := 73) (b := l4 + 1) (L' := [.ref (ad 24), .int l1, .int l2, .int l3, .int (l4 + 1)]) dX7_number_70 rfl rfl rfl (Nat.le_of_ble_eq_true rfl) rfl ?_
      refine g_goto (q := 32) dX7_number_73 (by decide) ?_
      exact g_weak (L' := [.ref (ad 24), .int l1, .int l2, .int l3, .int (l4 + 1)]) ⟨Or.inr rfl, Or.inr rfl, Or.inr rfl, Or.inr rfl, Or.inr rfl, trivial⟩ (h32 _ _ _ _ _ H)
def fX7_number_32 (F : Nat)  : Nat → Sg → Int32 → Int32 → Int32 → Int32 → Rs
  | 0 => fun _ _ _ _ _ => none
  | n + 1 => fun σ l1 l2 l3 l4 => bX7_number_32 F  (fX7_number_32 F  n) σ l1 l2 l3 l4
theorem wfX7_number_32 {x : FX} {g : GX} {ad : Nat → Nat} {ex M0 : va_W} {r : Int32} {τ : Sg} {F : Nat} (hX : RX x g M0 (Pi_ r (HH g ad τ ++ ex)) 0 0)   : ∀ (n : Nat) (σ : Sg) (l1 : Int32) (l2 : Int32) (l3 : Int32) (l4 : Int32), fX7_number_32 F  n σ l1 l2 l3 l4 = some (r, τ) → Go x { frames := 0, cells := 0, slots := 0, locals := 0 } tX7_number g 32 [.ref (ad 24), .int l1, .int l2, .int l3, .int l4] [] (HH g ad σ ++ ex) 0 0
  | 0, _, _, _, _, _, H => nomatch (show (none : Rs) = some _ from H)
  | n + 1, σ, l1, l2, l3, l4, H => wbX7_number_32 (F := F) hX  (fun σ2 z1 z2 z3 z4 H2 => wfX7_number_32 (F := F) hX  n σ2 z1 z2 z3 z4 H2) σ l1 l2 l3 l4 H
def bX7_number_4 (F : Nat) (k4 : Sg → Int32 → Int32 → Int32 → Rs) (σ : Sg) (l1 : Int32) (l2 : Int32) (l3 : Int32) : Rs := if (6 : Int32) ≤ l3 then (fX7_number_32 F F σ (l1) (l2) ((0 : Int32)) ((0 : Int32))) else (if ib l3 12 then (li_ ((l2 <<< ((2 : Int32) &&& 31)) ||| (σ.2.1 29 l3.toNatClampNeg)) fun v1 => k4 σ (l1) (v1) (l3 + 1)) else none)
set_option maxRecDepth 100000 in
set_option maxHeartbeats 4000000 in
theorem wbX7_number_4 {x : FX} {g : GX} {ad : Nat → Nat} {ex M0 : va_W} {r : Int32} {τ : Sg} {F : Nat} (hX : RX x g M0 (Pi_ r (HH g ad τ ++ ex)) 0 0) {k4 : Sg → Int32 → Int32 → Int32 → Rs} (h4 : ∀ (σ : Sg) (l1 : Int32) (l2 : Int32) (l3 : Int32), k4 σ l1 l2 l3 = some (r, τ) → Go x { frames := 0, cells := 0, slots := 0, locals := 0 } tX7_number g 4 [.ref (ad 24), .int l1, .int l2, .int l3, un_] [] (HH g ad σ ++ ex) 0 0) (σ : Sg) (l1 : Int32) (l2 : Int32) (l3 : Int32) (H : bX7_number_4 F k4 σ l1 l2 l3 = some (r, τ)) : Go x { frames := 0, cells := 0, slots := 0, locals := 0 } tX7_number g 4 [.ref (ad 24), .int l1, .int l2, .int l3, un_] [] (HH g ad σ ++ ex) 0 0 := by
  unfold bX7_number_4 at H
  refine g_iload_n (q := 5) (i := 3) dX7_number_4 rfl rfl rfl ?_
  refine g_bipush (q := 7) (v := 6) dX7_number_5 rfl (by decide) ?_
  refine g_icmp_ge (q := 10) (r := 27) dX7_number_7 (by decide) rfl (fun c7 => ?_) (fun c7 => ?_)
  · replace H := (if_pos c7).symm.trans H
    refine g_iconst (q := 28) (v := 0) dX7_number_27 rfl (by decide) ?_
    refine g_istore_n (q := 29) (L' := [.ref (ad 24), .int l1, .int l2, .int ((0 : Int32)), un_]) (i := 3) dX7_number_28 rfl rfl (Nat.le_of_ble_eq_true rfl) rfl ?_
    refine g_iconst (q := 30) (v := 0) dX7_number_29 rfl (by decide) ?_
    refine g_istore (q := 32) (L' := [.ref (ad 24), .int l1, .int l2, .int ((0 : Int32)), .int ((0 : Int32))]) dX7_number_30 rfl (Nat.le_of_ble_eq_true rfl) rfl ?_
    exact g_weak (L' := [.ref (ad 24), .int l1, .int l2, .int ((0 : Int32)), .int ((0 : Int32))]) ⟨Or.inr rfl, Or.inr rfl, Or.inr rfl, Or.inr rfl, Or.inr rfl, trivial⟩ (wfX7_number_32 (F := F) hX  F _ _ _ _ _ H)
  · replace H := (if_neg c7).symm.trans H
    refine g_iload_n (q := 11) (i := 2) dX7_number_10 rfl rfl rfl ?_
    refine g_iconst (q := 12) (v := 2) dX7_number_11 rfl (by decide) ?_
    refine g_ishl (q := 13) dX7_number_12 rfl ?_
    refine g_aload_n (q := 14) (i := 0) dX7_number_13 rfl rfl rfl ?_
    refine g_get (q := 17) dX7_number_14 rfl foX7_23 24 hc24 rfl ?_
    refine g_iload_n (q := 18) (i := 3) dX7_number_17 rfl rfl rfl ?_
    obtain ⟨b18, H⟩ := of_chk H
    refine g_iald (q := 19) dX7_number_18 rfl 29 hc29 b18 ?_
    refine g_ior (q := 20) dX7_number_19 rfl ?_
    obtain ⟨v1, n1, H⟩ := of_li H
    refine g_name n1 ?_
    refine g_istore_n (q := 21) (L' := [.ref (ad 24), .int l1, .int v1, .int l3, un_]) (i := 2) dX7_number_20 rfl rfl (Nat.le_of_ble_eq_true rfl) rfl ?_
    refine g_iinc (q := 24) (b := l3 + 1) (L' := [.ref (ad 24), .int l1, .int v1, .int (l3 + 1), un_]) dX7_number_21 rfl rfl rfl (Nat.le_of_ble_eq_true rfl) rfl ?_
    refine g_goto (q := 4) dX7_number_24 (by decide) ?_
    exact g_weak (L' := [.ref (ad 24), .int l1, .int v1, .int (l3 + 1), un_]) ⟨Or.inr rfl, Or.inr rfl, Or.inr rfl, Or.inr rfl, Or.inl rfl, trivial⟩ (h4 _ _ _ _ H)
def fX7_number_4 (F : Nat)  : Nat → Sg → Int32 → Int32 → Int32 → Rs
  | 0 => fun _ _ _ _ => none
  | n + 1 => fun σ l1 l2 l3 => bX7_number_4 F  (fX7_number_4 F  n) σ l1 l2 l3
theorem wfX7_number_4 {x : FX} {g : GX} {ad : Nat → Nat} {ex M0 : va_W} {r : Int32} {τ : Sg} {F : Nat} (hX : RX x g M0 (Pi_ r (HH g ad τ ++ ex)) 0 0)   : ∀ (n : Nat) (σ : Sg) (l1 : Int32) (l2 : Int32) (l3 : Int32), fX7_number_4 F  n σ l1 l2 l3 = some (r, τ) → Go x { frames := 0, cells := 0, slots := 0, locals := 0 } tX7_number g 4 [.ref (ad 24), .int l1, .int l2, .int l3, un_] [] (HH g ad σ ++ ex) 0 0
  | 0, _, _, _, _, H => nomatch (show (none : Rs) = some _ from H)
  | n + 1, σ, l1, l2, l3, H => wbX7_number_4 (F := F) hX  (fun σ2 z1 z2 z3 H2 => wfX7_number_4 (F := F) hX  n σ2 z1 z2 z3 H2) σ l1 l2 l3 H
def fX7_number (F : Nat) (σ : Sg) (l1 : Int32) : Rs := fX7_number_4 F F σ (l1) ((0 : Int32)) ((0 : Int32))
set_option maxRecDepth 100000 in
set_option maxHeartbeats 4000000 in
theorem ctX7_number {l : Launch} {g : GX} {ad : Nat → Nat} {ex : va_W} {r : Int32} {τ σ : Sg} {F : Nat} {l1 : Int32} (H : fX7_number F σ l1 = some (r, τ)) : Ct l g yX7_number tX7_number 0 0 0 0 [.ref (ad 24), .int l1] (HH g ad σ ++ ex) (Pi_ r (HH g ad τ ++ ex)) := by
  refine Ct.of (L := [.ref (ad 24), .int l1, un_, un_, un_]) (by decide +kernel) rfl rfl rfl (Nat.le_of_ble_eq_true rfl) rfl (fun x _ hX => ?_)
  unfold fX7_number at H
  refine g_iconst (q := 1) (v := 0) dX7_number_0 rfl (by decide) ?_
  refine g_istore_n (q := 2) (L' := [.ref (ad 24), .int l1, .int ((0 : Int32)), un_, un_]) (i := 2) dX7_number_1 rfl rfl (Nat.le_of_ble_eq_true rfl) rfl ?_
  refine g_iconst (q := 3) (v := 0) dX7_number_2 rfl (by decide) ?_
  refine g_istore_n (q := 4) (L' := [.ref (ad 24), .int l1, .int ((0 : Int32)), .int ((0 : Int32)), un_]) (i := 3) dX7_number_3 rfl rfl (Nat.le_of_ble_eq_true rfl) rfl ?_
  exact g_weak (L' := [.ref (ad 24), .int l1, .int ((0 : Int32)), .int ((0 : Int32)), un_]) ⟨Or.inr rfl, Or.inr rfl, Or.inr rfl, Or.inr rfl, Or.inl rfl, trivial⟩ (wfX7_number_4 (F := F) hX  F _ _ _ _ H)
def bX7_meets_20 (F : Nat) (k20 : Sg → Int32 → Int32 → Int32 → Int32 → Rs) (σ : Sg) (l2 : Int32) (l3 : Int32) (l4 : Int32) (l5 : Int32) : Rs := if ib l5 524288 then (if (σ.2.1 36 l5.toNatClampNeg) = (0 : Int32) then (if ib (σ.1 26) 262144 then (ls_ (sa σ 37 (σ.1 26).toNatClampNeg l4) fun σ1 => if ib (σ1.1 26) 262144 then (ls_ (sa σ1 38 (σ1.1 26).toNatClampNeg l2) fun σ2 => if ib (σ2.1 26) 262144 then (ls_ (sa σ2 39 (σ2.1 26).toNatClampNeg l3) fun σ3 => ls_ (sv σ3 26 ((σ3.1 26) + (1 : Int32))) fun σ4 => if ib l5 524288 then (ls_ (sa σ4 36 l5.toNatClampNeg (σ4.1 26)) fun σ5 => some ((1 : Int32), σ5)) else none) else none) else none) else none) else (if ib l5 524288 then (if ib ((σ.2.1 36 l5.toNatClampNeg) - (1 : Int32)) 262144 then (if (σ.2.1 37 ((σ.2.1 36 l5.toNatClampNeg) - (1 : Int32)).toNatClampNeg) = l4 then (some ((0 : Int32), σ)) else (li_ ((l5 + (1 : Int32)) &&& (524287 : Int32)) fun v6 => k20 σ (l2) (l3) (l4) (v6))) else none) else none)) else none
set_option maxRecDepth 100000 in
set_option maxHeartbeats 4000000 in
theorem wbX7_meets_20 {x : FX} {g : GX} {ad : Nat → Nat} {ex M0 : va_W} {r : Int32} {τ : Sg} {F : Nat} (hX : RX x g M0 (Pi_ r (HH g ad τ ++ ex)) 0 0) {k20 : Sg → Int32 → Int32 → Int32 → Int32 → Rs} (h20 : ∀ (σ : Sg) (l2 : Int32) (l3 : Int32) (l4 : Int32) (l5 : Int32), k20 σ l2 l3 l4 l5 = some (r, τ) → Go x { frames := 1, cells := 0, slots := 0, locals := 24 } tX7_meets g 20 [.ref (ad 24), un_, .int l2, .int l3, .int l4, .int l5] [] (HH g ad σ ++ ex) 0 0) (σ : Sg) (l2 : Int32) (l3 : Int32) (l4 : Int32) (l5 : Int32) (H : bX7_meets_20 F k20 σ l2 l3 l4 l5 = some (r, τ)) : Go x { frames := 1, cells := 0, slots := 0, locals := 24 } tX7_meets g 20 [.ref (ad 24), un_, .int l2, .int l3, .int l4, .int l5] [] (HH g ad σ ++ ex) 0 0 := by
  unfold bX7_meets_20 at H
  refine g_aload_n (q := 21) (i := 0) dX7_meets_20 rfl rfl rfl ?_
  refine g_get (q := 24) dX7_meets_21 rfl foX7_45 24 hc24 rfl ?_
  refine g_iload (q := 26) dX7_meets_24 rfl rfl ?_
  obtain ⟨b26, H⟩ := of_chk H
  refine g_iald (q := 27) dX7_meets_26 rfl 36 hc36 b26 ?_
  refine g_if_eq (q := 30) (r := 63) dX7_meets_27 (by decide) rfl (fun c27 => ?_) (fun c27 => ?_)
  · replace H := (if_pos c27).symm.trans H
    refine g_aload_n (q := 64) (i := 0) dX7_meets_63 rfl rfl rfl ?_
    refine g_get (q := 67) dX7_meets_64 rfl foX7_49 24 hc24 rfl ?_
    refine g_aload_n (q := 68) (i := 0) dX7_meets_67 rfl rfl rfl ?_
    refine g_get (q := 71) dX7_meets_68 rfl foX7_159 24 hc24 rfl ?_
    refine g_iload (q := 73) dX7_meets_71 rfl rfl ?_
    obtain ⟨b73, H⟩ := of_chk H
    obtain ⟨σ1, n1, H⟩ := of_ls H
    refine g_iast (q := 74) dX7_meets_73 rfl 37 hc37 b73 (ha37e n1) ?_
    refine g_aload_n (q := 75) (i := 0) dX7_meets_74 rfl rfl rfl ?_
    refine g_get (q := 78) dX7_meets_75 rfl foX7_52 24 hc24 rfl ?_
    refine g_aload_n (q := 79) (i := 0) dX7_meets_78 rfl rfl rfl ?_
    refine g_get (q := 82) dX7_meets_79 rfl foX7_159 24 hc24 rfl ?_
    refine g_iload_n (q := 83) (i := 2) dX7_meets_82 rfl rfl rfl ?_
    obtain ⟨b83, H⟩ := of_chk H
    obtain ⟨σ2, n2, H⟩ := of_ls H
    refine g_iast (q := 84) dX7_meets_83 rfl 38 hc38 b83 (ha38e n2) ?_
    refine g_aload_n (q := 85) (i := 0) dX7_meets_84 rfl rfl rfl ?_
    refine g_get (q := 88) dX7_meets_85 rfl foX7_55 24 hc24 rfl ?_
    refine g_aload_n (q := 89) (i := 0) dX7_meets_88 rfl rfl rfl ?_
    refine g_get (q := 92) dX7_meets_89 rfl foX7_159 24 hc24 rfl ?_
    refine g_iload_n (q := 93) (i := 3) dX7_meets_92 rfl rfl rfl ?_
    obtain ⟨b93, H⟩ := of_chk H
    obtain ⟨σ3, n3, H⟩ := of_ls H
    refine g_iast (q := 94) dX7_meets_93 rfl 39 hc39 b93 (ha39e n3) ?_
    refine g_aload_n (q := 95) (i := 0) dX7_meets_94 rfl rfl rfl ?_
    refine g_aload_n (q := 96) (i := 0) dX7_meets_95 rfl rfl rfl ?_
    refine g_get (q := 99) dX7_meets_96 rfl foX7_159 24 hc24 rfl ?_
    refine g_iconst (q := 100) (v := 1) dX7_meets_99 rfl (by decide) ?_
    refine g_iadd (q := 101) dX7_meets_100 rfl ?_
    obtain ⟨σ4, n4, H⟩ := of_ls H
    refine g_put (q := 104) dX7_meets_101 rfl (fpX7_159 _) 24 hc24 rfl rfl (Nat.le_of_ble_eq_true rfl) (hs26e n4) ?_
    refine g_aload_n (q := 105) (i := 0) dX7_meets_104 rfl rfl rfl ?_
    refine g_get (q := 108) dX7_meets_105 rfl foX7_45 24 hc24 rfl ?_
    refine g_iload (q := 110) dX7_meets_108 rfl rfl ?_
    refine g_aload_n (q := 111) (i := 0) dX7_meets_110 rfl rfl rfl ?_
    refine g_get (q := 114) dX7_meets_111 rfl foX7_159 24 hc24 rfl ?_
    obtain ⟨b114, H⟩ := of_chk H
    obtain ⟨σ5, n5, H⟩ := of_ls H
    refine g_iast (q := 115) dX7_meets_114 rfl 36 hc36 b114 (ha36e n5) ?_
    refine g_iconst (q := 116) (v := 1) dX7_meets_115 rfl (by decide) ?_
    exact g_iret hX dX7_meets_116 rfl rfl (Nat.le_refl _) (Nat.le_refl _) (piOk H)
  · replace H := (if_neg c27).symm.trans H
    refine g_aload_n (q := 31) (i := 0) dX7_meets_30 rfl rfl rfl ?_
    refine g_get (q := 34) dX7_meets_31 rfl foX7_49 24 hc24 rfl ?_
    refine g_aload_n (q := 35) (i := 0) dX7_meets_34 rfl rfl rfl ?_
    refine g_get (q := 38) dX7_meets_35 rfl foX7_45 24 hc24 rfl ?_
    refine g_iload (q := 40) dX7_meets_38 rfl rfl ?_
    obtain ⟨b40, H⟩ := of_chk H
    refine g_iald (q := 41) dX7_meets_40 rfl 36 hc36 b40 ?_
    refine g_iconst (q := 42) (v := 1) dX7_meets_41 rfl (by decide) ?_
    refine g_isub (q := 43) dX7_meets_42 rfl ?_
    obtain ⟨b43, H⟩ := of_chk H
    refine g_iald (q := 44) dX7_meets_43 rfl 37 hc37 b43 ?_
    refine g_iload (q := 46) dX7_meets_44 rfl rfl ?_
    refine g_icmp_ne (q := 49) (r := 51) dX7_meets_46 (by decide) rfl (fun c46 => ?_) (fun c46 => ?_)
    · replace H := (if_neg c46).symm.trans H
      refine g_iload (q := 53) dX7_meets_51 rfl rfl ?_
      refine g_iconst (q := 54) (v := 1) dX7_meets_53 rfl (by decide) ?_
      refine g_iadd (q := 55) dX7_meets_54 rfl ?_
      refine g_ldc (q := 57) dX7_meets_55 rfl kcX7_158 ?_
      refine g_iand (q := 58) dX7_meets_57 rfl ?_
      obtain ⟨v6, n6, H⟩ := of_li H
      refine g_name n6 ?_
      refine g_istore (q := 60) (L' := [.ref (ad 24), un_, .int l2, .int l3, .int l4, .int v6]) dX7_meets_58 rfl (Nat.le_of_ble_eq_true rfl) rfl ?_
      refine g_goto (q := 20) dX7_meets_60 (by decide) ?_
      exact g_weak (L' := [.ref (ad 24), un_, .int l2, .int l3, .int l4, .int v6]) ⟨Or.inr rfl, Or.inl rfl, Or.inr rfl, Or.inr rfl, Or.inr rfl, Or.inr rfl, trivial⟩ (h20 _ _ _ _ _ H)
    · replace H := (if_pos c46).symm.trans H
      refine g_iconst (q := 50) (v := 0) dX7_meets_49 rfl (by decide) ?_
      exact g_iret hX dX7_meets_50 rfl rfl (Nat.le_refl _) (Nat.le_refl _) (piOk H)
def fX7_meets_20 (F : Nat)  : Nat → Sg → Int32 → Int32 → Int32 → Int32 → Rs
  | 0 => fun _ _ _ _ _ => none
  | n + 1 => fun σ l2 l3 l4 l5 => bX7_meets_20 F  (fX7_meets_20 F  n) σ l2 l3 l4 l5
theorem wfX7_meets_20 {x : FX} {g : GX} {ad : Nat → Nat} {ex M0 : va_W} {r : Int32} {τ : Sg} {F : Nat} (hX : RX x g M0 (Pi_ r (HH g ad τ ++ ex)) 0 0)   : ∀ (n : Nat) (σ : Sg) (l2 : Int32) (l3 : Int32) (l4 : Int32) (l5 : Int32), fX7_meets_20 F  n σ l2 l3 l4 l5 = some (r, τ) → Go x { frames := 1, cells := 0, slots := 0, locals := 24 } tX7_meets g 20 [.ref (ad 24), un_, .int l2, .int l3, .int l4, .int l5] [] (HH g ad σ ++ ex) 0 0
  | 0, _, _, _, _, _, H => nomatch (show (none : Rs) = some _ from H)
  | n + 1, σ, l2, l3, l4, l5, H => wbX7_meets_20 (F := F) hX  (fun σ2 z2 z3 z4 z5 H2 => wfX7_meets_20 (F := F) hX  n σ2 z2 z3 z4 z5 H2) σ l2 l3 l4 l5 H
def fX7_meets (F : Nat) (σ : Sg) (l1 : Int32) (l2 : Int32) (l3 : Int32) : Rs := (fX7_number F σ l1).bind fun q1 => (fun (r1 : Int32) (σ1 : Sg) => li_ ((((r1 * (-1640531535 : Int32)).toUInt32 >>> ((13 : Int32).toUInt32 &&& Int32.toUInt32 31)).toInt32) &&& (524287 : Int32)) fun v2 => fX7_meets_20 F F σ1 (l2) (l3) (r1) (v2)) q1.1 q1.2
set_option maxRecDepth 100000 in
set_option maxHeartbeats 4000000 in
theorem ctX7_meets {l : Launch} {g : GX} {ad : Nat → Nat} {ex : va_W} {r : Int32} {τ σ : Sg} {F : Nat} {l1 : Int32} {l2 : Int32} {l3 : Int32} (H : fX7_meets F σ l1 l2 l3 = some (r, τ)) : Ct l g yX7_meets tX7_meets 1 24 0 0 [.ref (ad 24), .int l1, .int l2, .int l3] (HH g ad σ ++ ex) (Pi_ r (HH g ad τ ++ ex)) := by
  refine Ct.of (L := [.ref (ad 24), .int l1, .int l2, .int l3, un_, un_]) (by decide +kernel) rfl rfl rfl (Nat.le_of_ble_eq_true rfl) rfl (fun x _ hX => ?_)
  unfold fX7_meets at H
  refine g_aload_n (q := 1) (i := 0) dX7_meets_0 rfl rfl rfl ?_
  refine g_iload_n (q := 2) (i := 1) dX7_meets_1 rfl rfl rfl ?_
  obtain ⟨r1, σ1, e1, H⟩ := of_bnd H
  refine g_callV (q := 5) (rest := []) dX7_meets_2 rfl cvX7_154 (ctX7_number e1) rfl rfl ⟨Nat.le_of_ble_eq_true rfl, Nat.le_of_ble_eq_true rfl⟩ ⟨Nat.le_refl _, Nat.le_refl _⟩ (Nat.le_of_ble_eq_true rfl) 24 hc24 rfl (fun r0 M9 hp => ?_)
  obtain ⟨rfl, rfl⟩ := hp
  show Go x _ _ g 5 [.ref (ad 24), .int l1, .int l2, .int l3, un_, un_] [.int r1] (HH g ad σ1 ++ ex) 0 0
  refine g_istore (q := 7) (L' := [.ref (ad 24), .int l1, .int l2, .int l3, .int r1, un_]) dX7_meets_5 rfl (Nat.le_of_ble_eq_true rfl) rfl ?_
  refine g_iload (q := 9) dX7_meets_7 rfl rfl ?_
  refine g_ldc (q := 11) dX7_meets_9 rfl kcX7_157 ?_
  refine g_imul (q := 12) dX7_meets_11 rfl ?_
  refine g_bipush (q := 14) (v := 13) dX7_meets_12 rfl (by decide) ?_
  refine g_iushr (q := 15) dX7_meets_14 rfl ?_
  refine g_ldc (q := 17) dX7_meets_15 rfl kcX7_158 ?_
  refine g_iand (q := 18) dX7_meets_17 rfl ?_
  obtain ⟨v2, n2, H⟩ := of_li H
  refine g_name n2 ?_
  refine g_istore (q := 20) (L' := [.ref (ad 24), .int l1, .int l2, .int l3, .int r1, .int v2]) dX7_meets_18 rfl (Nat.le_of_ble_eq_true rfl) rfl ?_
  exact g_weak (L' := [.ref (ad 24), un_, .int l2, .int l3, .int r1, .int v2]) ⟨Or.inr rfl, Or.inl rfl, Or.inr rfl, Or.inr rfl, Or.inr rfl, Or.inr rfl, trivial⟩ (wfX7_meets_20 (F := F) hX  F _ _ _ _ _ H)
