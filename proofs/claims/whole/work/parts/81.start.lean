theorem isX0 : Jvm.Cond.instantiable RX0 15 ∈ tb_ := (t1_ 141 rfl rfl)
theorem isX1 : Jvm.Cond.instantiable RX1 7 ∈ tb_ := (t1_ 21 rfl rfl)
theorem isX2 : Jvm.Cond.instantiable RX2 3 ∈ tb_ := (t1_ 125 rfl rfl)
theorem isX3 : Jvm.Cond.instantiable RX3 9 ∈ tb_ := (t1_ 59 rfl rfl)
theorem isX4 : Jvm.Cond.instantiable RX4 4 ∈ tb_ := (t1_ 65 rfl rfl)
theorem isX5 : Jvm.Cond.instantiable RX5 1 ∈ tb_ := (t2_ 224 rfl rfl)
theorem isX6 : Jvm.Cond.instantiable RX6 6 ∈ tb_ := (t1_ 13 rfl rfl)
theorem isX7 : Jvm.Cond.instantiable RX7 25 ∈ tb_ := (t3_ 72 rfl rfl)
set_option maxRecDepth 100000 in
set_option maxHeartbeats 8000000 in
theorem whole_of {Inv : Sg → Option Nat → Prop} (hS : StepsOk Inv) (hI : Inv s0_ none) {p : Program} {e : Env} {s : State} {m : MethodId} {below : List Frame} {meth : Method} {c : Code} (l : Launch) {b L : Nat} {xs : Nat → Int32} (hL : L ≤ 2048) (C0 : lw_At p s m meth c b L xs) : W p l e room_1 s m #[Value.ref b] below meth c s.heap [] 0 0 (lw_Z below #[Value.ref b] s) (entryFrame m ([Value.ref b] : List Value).toArray 4) := by
  obtain ⟨hx, hb, hr, hml, hown, hts0, hX, hbl, hlocks, hgv⟩ := id C0
  have hts : ∀ w ∈ tb_, w.before #[Value.ref b] s = true := fun w hw => hts0 w (List.mem_filter.mp hw).1
  obtain ⟨c0, j0, k0⟩ := u_known (C := RX0) (T := TX0) (N := 15) (n := 15) hts inX0 (hts _ isX0)
  obtain ⟨c1, j1, k1⟩ := u_known (C := RX1) (T := TX1) (N := 7) (n := 7) hts inX1 (hts _ isX1)
  obtain ⟨c2, j2, k2⟩ := u_known (C := RX2) (T := TX2) (N := 3) (n := 3) hts inX2 (hts _ isX2)
  obtain ⟨c3, j3, k3⟩ := u_known (C := RX3) (T := TX3) (N := 9) (n := 9) hts inX3 (hts _ isX3)
  obtain ⟨c4, j4, k4⟩ := u_known (C := RX4) (T := TX4) (N := 4) (n := 4) hts inX4 (hts _ isX4)
  obtain ⟨c5, j5, k5⟩ := u_known (C := RX5) (T := TX5) (N := 1) (n := 1) hts inX5 (hts _ isX5)
  obtain ⟨c6, j6, k6⟩ := u_known (C := RX6) (T := TX6) (N := 6) (n := 6) hts inX6 (hts _ isX6)
  obtain ⟨c7, j7, k7⟩ := u_known (C := RX7) (T := TX7) (N := 25) (n := 25) hts inX7 (hts _ isX7)
  obtain ⟨cI, kI, pI, nI1, nI2, nI3⟩ := Cond.arrayClass_spec (hts _ ar_int)
  obtain ⟨cZ, kZ, pZ, nZ1, nZ2, nZ3⟩ := Cond.arrayClass_spec (hts _ ar_boolean)
  have hKc : ∀ (k : Nat) (q : vw_C), vwCl[k]? = some q → u_Kn s q.1 q.2.1 q.2.2 (([c0, c1, c2, c3, c4, c5, c6, c7] : List ClassId).getD k 0) (([j0, j1, j2, j3, j4, j5, j6, j7] : List (Nat → Nat)).getD k (fun _ => 0)) := by
    intro k q hq
    match k, hq with
    | 0, hq => cases hq; exact k0
    | 1, hq => cases hq; exact k1
    | 2, hq => cases hq; exact k2
    | 3, hq => cases hq; exact k3
    | 4, hq => cases hq; exact k4
    | 5, hq => cases hq; exact k5
    | 6, hq => cases hq; exact k6
    | 7, hq => cases hq; exact k7
    | k + 8, hq => simp [vwCl] at hq
  have hK : va_K ((fun k => ([c0, c1, c2, c3, c4, c5, c6, c7] : List ClassId).getD k 0), (fun k => ([j0, j1, j2, j3, j4, j5, j6, j7] : List (Nat → Nat)).getD k (fun _ => 0))) vwCl [(cI, .int), (cZ, .boolean)] s := by
    refine ⟨hKc, fun k q hk => ?_⟩
    match k, hk with
    | 0, hk => cases hk; exact ⟨fun n z => ⟨fun k h => (by cases h), kI, nI2, pI, nI3⟩, nI1⟩
    | 1, hk => cases hk; exact ⟨fun n z => ⟨fun k h => (by cases h), kZ, nZ2, pZ, nZ3⟩, nZ1⟩
    | k + 2, hk => simp at hk
  generalize hg : (((fun k => ([c0, c1, c2, c3, c4, c5, c6, c7] : List ClassId).getD k 0), (fun k => ([j0, j1, j2, j3, j4, j5, j6, j7] : List (Nat → Nat)).getD k (fun _ => 0))) : va_G) = D at hK
  have hl := lv_entry ([.ref b]) (n := 4) (Nat.le_of_ble_eq_true rfl)
  rw [lg_entry_eq]
  generalize (lg_sl ([.ref b]) ++ List.replicate (4 - (lg_sl ([.ref b])).length) Slot.unset).toArray = ls at hl ⊢
  have hlh : LH 4 [.ref b, un_, un_, un_] ls := by
    refine ⟨⟨hl.1, hl.2.1, fun q hq => by cases hq⟩, fun i v hi hne => ?_⟩
    match i, hi with
    | 0, hi => cases hi; exact ⟨rfl, hl.2.2 (0, .ref b) List.mem_cons_self⟩
    | 1, hi => cases hi; exact absurd rfl hne
    | 2, hi => cases hi; exact absurd rfl hne
    | 3, hi => cases hi; exact absurd rfl hne
    | i + 4, hi => simp at hi
  refine (?_ : Go (p, l, e, s, m, #[Value.ref b], below, meth, c, (fun q : Nat => s.heap.size ≤ q), lw_Z below #[Value.ref b] s) room_1 (tL_law meth.name) (D, cI, cZ) 0 [.ref b, un_, un_, un_] [] [] 0 0) s.heap [] ls ⟨hx, hb, hml, hown, hts, hK, fun _ h => h, hlocks, hr, rfl⟩ hlh (fun k q h => by simp at h) ⟨fun i j p q h => by simp at h, fun k q h => by simp at h⟩ va_S.rf
  have hXX : XX (p, l, e, s, m, #[Value.ref b], below, meth, c, (fun q : Nat => s.heap.size ≤ q), lw_Z below #[Value.ref b] s) b L xs := ⟨hX, hbl, Nat.not_le.mpr hbl⟩
  have hZZ : ZX (p, l, e, s, m, #[Value.ref b], below, meth, c, (fun q : Nat => s.heap.size ≤ q), lw_Z below #[Value.ref b] s) b := ⟨rfl, rfl, rfl⟩
  generalize ((p, l, e, s, m, #[Value.ref b], below, meth, c, (fun q : Nat => s.heap.size ≤ q), lw_Z below #[Value.ref b] s) : FX) = x at hXX hZZ ⊢
  generalize ((D, cI, cZ) : GX) = g
  refine g_new (q := 3) dL_law_0 rfl nwL_7 (Nat.le_of_ble_eq_true rfl) (Nat.le_of_ble_eq_true rfl) (fun a0 => ?_)
  refine g_dup (q := 4) dL_law_3 rfl rfl ?_
  refine g_callI (q := 7) (rest := [.ref a0]) dL_law_4 rfl ciL_9 ctX6_init_1 rfl rfl ⟨Nat.le_of_ble_eq_true rfl, Nat.le_of_ble_eq_true rfl⟩ ⟨Nat.le_of_ble_eq_true rfl, Nat.le_of_ble_eq_true rfl⟩ (Nat.le_of_ble_eq_true rfl) (fun r0 M9 hp => ?_)
  obtain ⟨rfl, a1, a2, a3, a4, a5, a6, a7, a8, a9, a10, a11, a12, a13, a14, a15, a16, a17, a18, a19, a20, a21, a22, a23, rfl⟩ := hp
  show Go x _ _ g 7 [.ref b, un_, un_, un_] [.ref a0] _ _ _
  refine g_astore_n (q := 8) (L' := [.ref b, .ref a0, un_, un_]) (i := 1) dL_law_7 rfl rfl (Nat.le_of_ble_eq_true rfl) rfl ?_
  refine g_new (q := 11) dL_law_8 rfl nwL_10 (Nat.le_of_ble_eq_true rfl) (Nat.le_of_ble_eq_true rfl) (fun a24 => ?_)
  refine g_dup (q := 12) dL_law_11 rfl rfl ?_
  refine g_callI (q := 15) (rest := [.ref a24]) dL_law_12 rfl ciL_12 ctX7_init_1 rfl rfl ⟨Nat.le_of_ble_eq_true rfl, Nat.le_of_ble_eq_true rfl⟩ ⟨Nat.le_of_ble_eq_true rfl, Nat.le_of_ble_eq_true rfl⟩ (Nat.le_of_ble_eq_true rfl) (fun r0 M9 hp => ?_)
  obtain ⟨rfl, a25, a26, a27, a28, a29, a30, a31, a32, a33, a34, a35, a36, a37, a38, a39, a40, a41, rfl⟩ := hp
  show Go x _ _ g 15 [.ref b, .ref a0, un_, un_] [.ref a24] _ _ _
  refine g_astore_n (q := 16) (L' := [.ref b, .ref a0, .ref a24, un_]) (i := 2) dL_law_15 rfl rfl (Nat.le_of_ble_eq_true rfl) rfl ?_
  refine g_iconst (q := 17) (v := 0) dL_law_16 rfl (by decide) ?_
  refine g_istore_n (q := 18) (L' := [.ref b, .ref a0, .ref a24, .int 0]) (i := 3) dL_law_17 rfl rfl (Nat.le_of_ble_eq_true rfl) rfl ?_
  refine first_ ?_
  refine g_widen (ce' := 42 + 2 * 0) (sl' := 1331036 + 1605 * 0) (Nat.le_of_ble_eq_true rfl) (Nat.le_of_ble_eq_true rfl) ?_
  refine g_weak (L' := [.ref b, .ref a0, .ref a24, .int (nI (4 * 0))]) ⟨Or.inr rfl, Or.inr rfl, Or.inr rfl, Or.inr (show Value.int (nI (4 * 0)) = Value.int 0 by rw [Nat.mul_zero, nI_0]), trivial⟩ ?_
  have h := law_loop (g := g) (nm := meth.name) hS hL hXX hZZ (L + 1) 0 (by omega) (by omega) s0_ none (fun k => ([a0, a1, a2, a3, a4, a5, a6, a9, a10, a11, a12, a13, a7, a8, a14, a15, a16, a17, a18, a19, a20, a21, a22, a23, a24, a25, a26, a27, a28, a29, a30, a31, a32, a33, a34, a35, a36, a37, a38, a39, a40, a41] : List Nat).getD k 0) _ hI (Or.inl ⟨rfl, rfl, [], (List.append_nil _).symm⟩)
  exact h
