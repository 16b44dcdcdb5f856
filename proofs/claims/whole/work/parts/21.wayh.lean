theorem mx0 {N : Nat} (h : N < 2 ^ 31) : mx_ 0 (nI N) = nI N := by
  unfold mx_
  by_cases h0 : (0 : Int32) < nI N
  · rw [if_pos h0]
  · rw [if_neg h0]
    have : ¬ 0 < N := fun hp => h0 (by rw [← nI_0]; exact nI_lt hp h)
    have h2 : N = 0 := by omega
    rw [h2, nI_0]
set_option maxRecDepth 100000 in
set_option maxHeartbeats 4000000 in
/-- Way(length): its array -/
theorem ctX5_init {l : Launch} {g : GX} {ad : Nat → Nat} {σ : Sg} {q N : Nat} (hN : N ≤ 1604) : Ct l g yX5_init tX5_init 1 14 1 N [.ref q, .int (nI N)] (HH g ad σ ++ [(q, .inr (5, [.null]))]) (fun rv M' => rv = none ∧ ∃ a : Nat, M' = HH g ad σ ++ [(q, .inr (5, [.ref a])), (a, .inl (g.2.1, N, .inl (fun _ => 0)))]) := by
  refine Ct.of (L := [.ref q, .int (nI N)]) (by decide +kernel) rfl rfl rfl (Nat.le_of_ble_eq_true rfl) rfl (fun x _ hX => ?_)
  refine g_aload_n (q := 1) (i := 0) dX5_init_0 rfl rfl rfl ?_
  refine g_objInit (q := 4) dX5_init_1 rfl coX5_3 ob_inst ob_code (Nat.le_of_ble_eq_true rfl) (Nat.le_of_ble_eq_true rfl) ?_
  refine g_aload_n (q := 5) (i := 0) dX5_init_4 rfl rfl rfl ?_
  refine g_iconst (q := 6) (v := 0) dX5_init_5 rfl (by decide) ?_
  refine g_iload_n (q := 7) (i := 1) dX5_init_6 rfl rfl rfl ?_
  refine g_max (q := 10) dX5_init_7 rfl csX5_9 (Nat.le_of_ble_eq_true rfl) (Nat.le_of_ble_eq_true rfl) (Nat.zero_le _) (Nat.zero_le _) ?_
  rw [mx0 (by omega)]
  refine g_newi (q := 12) (N := N) dX5_init_10 rfl ar_int (nI_pos (by omega)) (nI_clamp (by omega)) (by omega) (Nat.le_refl _) (by simp) (fun a => ?_)
  refine g_put (q := 15) (M' := HH g ad σ ++ [(q, .inr (5, [.ref a])), (a, .inl (g.2.1, N, .inl (fun _ => 0)))]) dX5_init_12 rfl fpX5_15 42 rfl rfl rfl (Nat.le_of_ble_eq_true rfl) rfl ?_
  exact g_vret hX dX5_init_15 rfl (Nat.le_refl _) (by simp) ⟨rfl, a, rfl⟩
/-- the way's array, empty -/
def sz_ (σ : Sg) : Sg := (σ.1, upA σ.2.1 43 (fun _ => 0), σ.2.2)
def adw (ad : Nat → Nat) (q a : Nat) : Nat → Nat := fun k => if k = 42 then q else if k = 43 then a else ad k
set_option maxRecDepth 100000 in
set_option maxHeartbeats 4000000 in
theorem ctX0_wayToGoal {l : Launch} {g : GX} {ad : Nat → Nat} {ex : va_W} {σ τ : Sg} {N F : Nat} (hN : N ≤ 1604) (HA : fX0_wayA_7 F (fun σ l1 => some (l1, σ)) F σ 0 (σ.1 9) = some (nI N, σ)) (HB : fX0_wayB_55 N F (fun σ => some (0, σ)) F (sz_ σ) (nI N) (σ.1 9) = some (0, τ)) :
    Ct l g yX0_wayToGoal tX0_wayToGoal 2 35 2 (1 + N) [.ref (ad 17)] (HH g ad σ ++ ex) (fun rv M' => ∃ q a : Nat, rv = some (.ref q) ∧ M' = HW g (adw ad q a) τ N) := by
  refine Ct.of (L := [.ref (ad 17), un_, un_, un_, un_]) (by decide +kernel) rfl rfl rfl (Nat.le_of_ble_eq_true rfl) rfl (fun x _ hX => ?_)
  refine g_iconst (q := 1) (v := 0) dX0_wayToGoal_0 rfl (by decide) ?_
  refine g_istore_n (q := 2) (L' := [.ref (ad 17), .int 0, un_, un_, un_]) (i := 1) dX0_wayToGoal_1 rfl rfl (Nat.le_of_ble_eq_true rfl) rfl ?_
  refine g_aload_n (q := 3) (i := 0) dX0_wayToGoal_2 rfl rfl rfl ?_
  refine g_get (q := 6) dX0_wayToGoal_3 rfl foX0_38 17 hc17 rfl ?_
  refine g_istore_n (q := 7) (L' := [.ref (ad 17), .int 0, .int (σ.1 9), un_, un_]) (i := 2) dX0_wayToGoal_6 rfl rfl (Nat.le_of_ble_eq_true rfl) rfl ?_
  refine wfX0_wayA_7 (F := F) (Nat.zero_le _) (Nat.zero_le _) (Nat.zero_le _) (Nat.zero_le _) (fun σ1 l1 H1 => ?_) F σ 0 (σ.1 9) HA
  cases H1
  refine g_sub (M' := HH g ad σ) (List.range 42) rfl rfl ?_
  refine g_new (q := 41) dX0_wayToGoal_38 rfl nwX0_77 (Nat.le_of_ble_eq_true rfl) (by show 0 + 1 ≤ 1 + N; omega) (fun q => ?_)
  refine g_dup (q := 42) dX0_wayToGoal_41 rfl rfl ?_
  refine g_iload_n (q := 43) (i := 1) dX0_wayToGoal_42 rfl rfl rfl ?_
  refine g_callI (q := 46) (rest := [.ref q]) dX0_wayToGoal_43 rfl ciX0_79 (ctX5_init hN) rfl rfl ⟨Nat.le_of_ble_eq_true rfl, Nat.le_of_ble_eq_true rfl⟩ ⟨Nat.le_refl _, (by show 0 + 1 + N ≤ 1 + N; omega)⟩ (Nat.le_of_ble_eq_true rfl) (fun r0 M9 hp => ?_)
  obtain ⟨rfl, a, rfl⟩ := hp
  show Go x _ _ g 46 [.ref (ad 17), .int (nI N), un_, un_, un_] [.ref q] (HH g ad σ ++ [(q, .inr (5, [.ref a])), (a, .inl (g.2.1, N, .inl (fun _ => 0)))]) _ _
  refine g_astore_n (q := 47) (L' := [.ref (ad 17), .int (nI N), .ref q, un_, un_]) (i := 2) dX0_wayToGoal_46 rfl rfl (Nat.le_of_ble_eq_true rfl) rfl ?_
  refine g_iload_n (q := 48) (i := 1) dX0_wayToGoal_47 rfl rfl rfl ?_
  refine g_istore_n (q := 49) (L' := [.ref (ad 17), .int (nI N), .ref q, .int (nI N), un_]) (i := 3) dX0_wayToGoal_48 rfl rfl (Nat.le_of_ble_eq_true rfl) rfl ?_
  refine g_aload_n (q := 50) (i := 0) dX0_wayToGoal_49 rfl rfl rfl ?_
  refine g_get (q := 53) dX0_wayToGoal_50 rfl foX0_38 17 hc17 rfl ?_
  refine g_istore (q := 55) (L' := [.ref (ad 17), .int (nI N), .ref q, .int (nI N), .int (σ.1 9)]) dX0_wayToGoal_53 rfl (Nat.le_of_ble_eq_true rfl) rfl ?_
  refine g_weak (L' := [.ref (adw ad q a 17), un_, .ref (adw ad q a 42), .int (nI N), .int (σ.1 9)]) ⟨Or.inr rfl, Or.inl rfl, Or.inr rfl, Or.inr rfl, Or.inr rfl, trivial⟩ ?_
  show Go x _ _ g 55 _ _ (HW g (adw ad q a) (sz_ σ) N) _ _
  refine wfX0_wayB_55 (F := F) (n := N) (Nat.le_of_ble_eq_true rfl) (Nat.le_of_ble_eq_true rfl) (Nat.le_refl _) (by show 0 + 1 + N ≤ 1 + N; omega) (fun σ1 H1 => ?_) F (sz_ σ) (nI N) (σ.1 9) HB
  cases H1
  refine g_aload_n (q := 100) (i := 2) dX0_wayToGoal_99 rfl rfl rfl ?_
  exact g_aret hX dX0_wayToGoal_100 rfl (Nat.le_refl _) (by show 0 + 1 + N ≤ 1 + N; omega) ⟨q, a, rfl, rfl⟩
set_option maxRecDepth 100000 in
set_option maxHeartbeats 4000000 in
/-- fewest: no way is found -/
theorem ctX6_fewestN {l : Launch} {g : GX} {ad : Nat → Nat} {ex : va_W} {r : Int32} {τ σ : Sg} {F : Nat} {l1 : Int32} (H : bX6_few_0 F (fun σ => some (-1, σ)) (fun _ _ => none) (fun σ => some (4, σ)) σ l1 = some (r, τ)) : Ct l g yX6_fewest tX6_fewest 6 151 0 0 [.ref (ad 0), .int l1] (HH g ad σ ++ ex) (Pi_ r (HH g ad τ ++ ex)) := by
  refine Ct.of (L := [.ref (ad 0), .int l1, un_]) (by decide +kernel) rfl rfl rfl (Nat.le_of_ble_eq_true rfl) rfl (fun x _ hX => ?_)
  refine wbX6_few_0 (F := F) (Nat.le_refl _) (Nat.le_refl _) (Nat.le_refl _) (Nat.le_refl _) (fun σ1 H1 => ?_) (fun σ1 l2 H1 => ?_) (fun σ1 H1 => ?_) σ l1 H
  · refine g_iconst (q := 14) (v := (-1)) dX6_fewest_13 rfl (by decide) ?_
    exact g_iret hX dX6_fewest_14 rfl rfl (Nat.le_refl _) (Nat.le_refl _) (piOk H1)
  · exact nomatch H1
  · refine g_iconst (q := 54) (v := 4) dX6_fewest_53 rfl (by decide) ?_
    exact g_iret hX dX6_fewest_54 rfl rfl (Nat.le_refl _) (Nat.le_refl _) (piOk H1)
set_option maxRecDepth 100000 in
set_option maxHeartbeats 4000000 in
/-- fewest: a way is found -/
theorem ctX6_fewestW {l : Launch} {g : GX} {ad : Nat → Nat} {ex : va_W} {k : Int32} {τ σ σ' : Sg} {N F : Nat} {l1 : Int32} (H : bX6_few_0 F (fun _ => none) (fun σ l2 => some (l2, σ)) (fun _ => none) σ l1 = some (k, σ')) (hN : N ≤ 1604) (HA : fX0_wayA_7 F (fun σ l1 => some (l1, σ)) F σ' 0 (σ'.1 9) = some (nI N, σ')) (HB : fX0_wayB_55 N F (fun σ => some (0, σ)) F (sz_ σ') (nI N) (σ'.1 9) = some (0, τ)) :
    Ct l g yX6_fewest tX6_fewest 6 151 2 (1 + N) [.ref (ad 0), .int l1] (HH g ad σ ++ ex) (fun rv M' => rv = some (.int k) ∧ ∃ q a : Nat, M' = HW g (adw ad q a) (sw τ (.ref q)) N) := by
  refine Ct.of (L := [.ref (ad 0), .int l1, un_]) (by decide +kernel) rfl rfl rfl (Nat.le_of_ble_eq_true rfl) rfl (fun x _ hX => ?_)
  refine wbX6_few_0 (F := F) (Nat.le_refl _) (Nat.le_refl _) (Nat.zero_le _) (Nat.zero_le _) (fun σ1 H1 => ?_) (fun σ1 l2 H1 => ?_) (fun σ1 H1 => ?_) σ l1 H
  · exact nomatch H1
  rotate_left
  · exact nomatch H1
  cases H1
  refine g_aload_n (q := 35) (i := 0) dX6_fewest_34 rfl rfl rfl ?_
  refine g_aload_n (q := 36) (i := 0) dX6_fewest_35 rfl rfl rfl ?_
  refine g_get (q := 39) dX6_fewest_36 rfl foX6_35 0 hc0 rfl ?_
  refine g_callV (q := 42) (rest := [.ref (ad 0)]) dX6_fewest_39 rfl cvX6_146 (ctX0_wayToGoal hN HA HB) rfl rfl ⟨Nat.le_of_ble_eq_true rfl, Nat.le_of_ble_eq_true rfl⟩ ⟨Nat.le_refl _, (by show 0 + (1 + N) ≤ 1 + N; omega)⟩ (Nat.le_of_ble_eq_true rfl) 17 hc17 rfl (fun r0 M9 hp => ?_)
  obtain ⟨q, a, rfl, rfl⟩ := hp
  show Go x _ _ g 42 [.ref (ad 0), un_, .int k] [.ref q, .ref (adw ad q a 0)] (HW g (adw ad q a) τ N) _ _
  refine g_put (q := 45) (M' := HW g (adw ad q a) (sw τ (.ref q)) N) dX6_fewest_42 rfl (fpX6_46 _) 0 rfl rfl rfl (Nat.le_of_ble_eq_true rfl) rfl ?_
  refine g_iload_n (q := 46) (i := 2) dX6_fewest_45 rfl rfl rfl ?_
  exact g_iret hX dX6_fewest_46 rfl rfl (Nat.le_refl _) (by show 0 + (1 + N) ≤ 1 + N; omega) ⟨rfl, q, a, rfl⟩
set_option maxRecDepth 100000 in
set_option maxHeartbeats 4000000 in
/-- plan: there is no way -/
theorem ctX6_planN {l : Launch} {g : GX} {ad : Nat → Nat} {ex : va_W} {σ : Sg} {l1 l2 : Int32} (h : σ.2.2 = .null) : Ct l g yX6_plan tX6_plan 1 22 0 0 [.ref (ad 0), .int l1, .int l2] (HH g ad σ ++ ex) (Pi_ (-1) (HH g ad σ ++ ex)) := by
  refine Ct.of (L := [.ref (ad 0), .int l1, .int l2]) (by decide +kernel) rfl rfl rfl (Nat.le_of_ble_eq_true rfl) rfl (fun x _ hX => ?_)
  refine g_aload_n (q := 1) (i := 0) dX6_plan_0 rfl rfl rfl ?_
  refine g_get (q := 4) (v := σ.2.2) dX6_plan_1 rfl foX6_46 0 hc0 rfl ?_
  rw [h]
  refine g_nonnullN (q := 7) dX6_plan_4 rfl ?_
  refine g_iconst (q := 8) (v := (-1)) dX6_plan_7 rfl (by decide) ?_
  exact g_iret hX dX6_plan_8 rfl rfl (Nat.le_refl _) (Nat.le_refl _) (piOk rfl)
def fX6_plan (n F : Nat) (σ : Sg) (l1 l2 : Int32) : Rs := if l1 = -1 then (if l2 = 0 then fX5_length n F σ else fX5_tell n F σ l1 l2) else fX5_tell n F σ l1 l2
set_option maxRecDepth 100000 in
set_option maxHeartbeats 4000000 in
/-- plan: there is a way -/
theorem ctX6_planW {l : Launch} {g : GX} {ad : Nat → Nat} {r : Int32} {σ τ : Sg} {n F : Nat} {l1 l2 : Int32} (h : σ.2.2 = .ref (ad 42)) (H : fX6_plan n F σ l1 l2 = some (r, τ)) : Ct l g yX6_plan tX6_plan 1 22 0 0 [.ref (ad 0), .int l1, .int l2] (HW g ad σ n) (Pi_ r (HW g ad τ n)) := by
  refine Ct.of (L := [.ref (ad 0), .int l1, .int l2]) (by decide +kernel) rfl rfl rfl (Nat.le_of_ble_eq_true rfl) rfl (fun x _ hX => ?_)
  unfold fX6_plan at H
  have tell : ∀ (H : fX5_tell n F σ l1 l2 = some (r, τ)), Go x { frames := 1, cells := 0, slots := 0, locals := 22 } tX6_plan g 26 [.ref (ad 0), .int l1, .int l2] [] (HW g ad σ n) 0 0 := by
    intro H
    refine g_aload_n (q := 27) (i := 0) dX6_plan_26 rfl rfl rfl ?_
    refine g_get (q := 30) (v := σ.2.2) dX6_plan_27 rfl foX6_46 0 hc0 rfl ?_
    rw [h]
    refine g_iload_n (q := 31) (i := 1) dX6_plan_30 rfl rfl rfl ?_
    refine g_iload_n (q := 32) (i := 2) dX6_plan_31 rfl rfl rfl ?_
    refine g_callV (q := 35) (rest := []) dX6_plan_32 rfl cvX6_155 (ctX5_tell H) rfl rfl ⟨Nat.le_of_ble_eq_true rfl, Nat.le_of_ble_eq_true rfl⟩ ⟨Nat.le_refl _, Nat.le_refl _⟩ (Nat.le_of_ble_eq_true rfl) 42 hd42 rfl (fun r0 M9 hp => ?_)
    obtain ⟨rfl, rfl⟩ := hp
    show Go x _ _ g 35 [.ref (ad 0), .int l1, .int l2] [.int r] (HW g ad τ n) 0 0
    exact g_iret hX dX6_plan_35 rfl rfl (Nat.le_refl _) (Nat.le_refl _) ⟨rfl, rfl⟩
  refine g_aload_n (q := 1) (i := 0) dX6_plan_0 rfl rfl rfl ?_
  refine g_get (q := 4) (v := σ.2.2) dX6_plan_1 rfl foX6_46 0 hc0 rfl ?_
  rw [h]
  refine g_nonnull (q := 9) dX6_plan_4 (by decide) ?_
  refine g_iload_n (q := 10) (i := 1) dX6_plan_9 rfl rfl rfl ?_
  refine g_iconst (q := 11) (v := (-1)) dX6_plan_10 rfl (by decide) ?_
  refine g_icmp_ne (q := 14) (r := 26) dX6_plan_11 (by decide) rfl (fun c1 => ?_) (fun c1 => ?_)
  · exact tell ((if_neg c1).symm.trans H)
  · replace H := (if_pos c1).symm.trans H
    refine g_iload_n (q := 15) (i := 2) dX6_plan_14 rfl rfl rfl ?_
    refine g_if_ne (q := 18) (r := 26) dX6_plan_15 (by decide) rfl (fun c2 => ?_) (fun c2 => ?_)
    · exact tell ((if_neg c2).symm.trans H)
    · replace H := (if_pos c2).symm.trans H
      refine g_aload_n (q := 19) (i := 0) dX6_plan_18 rfl rfl rfl ?_
      refine g_get (q := 22) (v := σ.2.2) dX6_plan_19 rfl foX6_46 0 hc0 rfl ?_
      rw [h]
      refine g_callV (q := 25) (rest := []) dX6_plan_22 rfl cvX6_150 (ctX5_length H) rfl rfl ⟨Nat.le_of_ble_eq_true rfl, Nat.le_of_ble_eq_true rfl⟩ ⟨Nat.le_refl _, Nat.le_refl _⟩ (Nat.le_of_ble_eq_true rfl) 42 hd42 rfl (fun r0 M9 hp => ?_)
      obtain ⟨rfl, rfl⟩ := hp
      show Go x _ _ g 25 [.ref (ad 0), .int l1, .int l2] [.int r] (HW g ad τ n) 0 0
      exact g_iret hX dX6_plan_25 rfl rfl (Nat.le_refl _) (Nat.le_refl _) ⟨rfl, rfl⟩
