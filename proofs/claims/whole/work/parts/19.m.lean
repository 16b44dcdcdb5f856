def bX7_width_116 (F : Nat) (k105 : Sg → Int32 → Int32 → Rs) (k116 : Sg → Int32 → Int32 → Int32 → Rs) (σ : Sg) (l2 : Int32) (l3 : Int32) (l4 : Int32) : Rs := if ((l2 >>> (l4 &&& 31)) &&& (1 : Int32)) = (1 : Int32) then (li_ (l4 + (1 : Int32)) fun v1 => k116 σ (l2) (l3) (v1)) else ((fX7_worst F σ (l2 ||| ((1 : Int32) <<< (l4 &&& 31)))).bind fun q2 => (fun (r2 : Int32) (σ2 : Sg) => if ib (0 : Int32) 4096 then (if r2 ≤ (σ2.2.1 41 (0 : Int32).toNatClampNeg) then (if ib l3 12 then (ls_ (sa σ2 28 l3.toNatClampNeg l4) fun σ3 => li_ (l2 ||| ((1 : Int32) <<< (l4 &&& 31))) fun v4 => k105 σ3 (v4) (l3 + 1)) else none) else (li_ (l4 + (1 : Int32)) fun v5 => k116 σ2 (l2) (l3) (v5))) else none) q2.1 q2.2)
set_option maxRecDepth 100000 in
set_option maxHeartbeats 4000000 in
theorem wbX7_width_116 {x : FX} {g : GX} {ad : Nat → Nat} {ex M0 : va_W} {r : Int32} {τ : Sg} {F : Nat} (hX : RX x g M0 (Pi_ r (HH g ad τ ++ ex)) 0 0) {k105 : Sg → Int32 → Int32 → Rs} {k116 : Sg → Int32 → Int32 → Int32 → Rs} (h105 : ∀ (σ : Sg) (l2 : Int32) (l3 : Int32), k105 σ l2 l3 = some (r, τ) → Go x { frames := 3, cells := 0, slots := 0, locals := 69 } tX7_width g 105 [.ref (ad 24), un_, .int l2, .int l3, un_, un_] [] (HH g ad σ ++ ex) 0 0) (h116 : ∀ (σ : Sg) (l2 : Int32) (l3 : Int32) (l4 : Int32), k116 σ l2 l3 l4 = some (r, τ) → Go x { frames := 3, cells := 0, slots := 0, locals := 69 } tX7_width g 116 [.ref (ad 24), un_, .int l2, .int l3, .int l4, un_] [] (HH g ad σ ++ ex) 0 0) (σ : Sg) (l2 : Int32) (l3 : Int32) (l4 : Int32) (H : bX7_width_116 F k105 k116 σ l2 l3 l4 = some (r, τ)) : Go x { frames := 3, cells := 0, slots := 0, locals := 69 } tX7_width g 116 [.ref (ad 24), un_, .int l2, .int l3, .int l4, un_] [] (HH g ad σ ++ ex) 0 0 := by
  unfold bX7_width_116 at H
  refine g_iload_n (q := 117) (i := 2) dX7_width_116 rfl rfl rfl ?_
  refine g_iload (q := 119) dX7_width_117 rfl rfl ?_
  refine g_ishr (q := 120) dX7_width_119 rfl ?_
  refine g_iconst (q := 121) (v := 1) dX7_width_120 rfl (by decide) ?_
  refine g_iand (q := 122) dX7_width_121 rfl ?_
  refine g_iconst (q := 123) (v := 1) dX7_width_122 rfl (by decide) ?_
  refine g_icmp_eq (q := 126) (r := 145) dX7_width_123 (by decide) rfl (fun c123 => ?_) (fun c123 => ?_)
  · replace H := (if_pos c123).symm.trans H
    refine g_iload (q := 147) dX7_width_145 rfl rfl ?_
    refine g_iconst (q := 148) (v := 1) dX7_width_147 rfl (by decide) ?_
    refine g_iadd (q := 149) dX7_width_148 rfl ?_
    obtain ⟨v1, n1, H⟩ := of_li H
    refine g_name n1 ?_
    refine g_istore (q := 151) (L' := [.ref (ad 24), un_, .int l2, .int l3, .int v1, un_]) dX7_width_149 rfl (Nat.le_of_ble_eq_true rfl) rfl ?_
    refine g_goto (q := 116) dX7_width_151 (by decide) ?_
    exact g_weak (L' := [.ref (ad 24), un_, .int l2, .int l3, .int v1, un_]) ⟨Or.inr rfl, Or.inl rfl, Or.inr rfl, Or.inr rfl, Or.inr rfl, Or.inl rfl, trivial⟩ (h116 _ _ _ _ H)
  · replace H := (if_neg c123).symm.trans H
    refine g_aload_n (q := 127) (i := 0) dX7_width_126 rfl rfl rfl ?_
    refine g_iload_n (q := 128) (i := 2) dX7_width_127 rfl rfl rfl ?_
    refine g_iconst (q := 129) (v := 1) dX7_width_128 rfl (by decide) ?_
    refine g_iload (q := 131) dX7_width_129 rfl rfl ?_
    refine g_ishl (q := 132) dX7_width_131 rfl ?_
    refine g_ior (q := 133) dX7_width_132 rfl ?_
    obtain ⟨r2, σ2, e2, H⟩ := of_bnd H
    refine g_callV (q := 136) (rest := []) dX7_width_133 rfl cvX7_193 (ctX7_worst e2) rfl rfl ⟨Nat.le_of_ble_eq_true rfl, Nat.le_of_ble_eq_true rfl⟩ ⟨Nat.le_refl _, Nat.le_refl _⟩ (Nat.le_of_ble_eq_true rfl) 24 hc24 rfl (fun r0 M9 hp => ?_)
    obtain ⟨rfl, rfl⟩ := hp
    show Go x _ _ g 136 [.ref (ad 24), un_, .int l2, .int l3, .int l4, un_] [.int r2] (HH g ad σ2 ++ ex) 0 0
    refine g_aload_n (q := 137) (i := 0) dX7_width_136 rfl rfl rfl ?_
    refine g_get (q := 140) dX7_width_137 rfl foX7_65 24 hc24 rfl ?_
    refine g_iconst (q := 141) (v := 0) dX7_width_140 rfl (by decide) ?_
    obtain ⟨b141, H⟩ := of_chk H
    refine g_iald (q := 142) dX7_width_141 rfl 41 hc41 b141 ?_
    refine g_icmp_le (q := 145) (r := 154) dX7_width_142 (by decide) rfl (fun c142 => ?_) (fun c142 => ?_)
    · replace H := (if_pos c142).symm.trans H
      refine g_aload_n (q := 155) (i := 0) dX7_width_154 rfl rfl rfl ?_
      refine g_get (q := 158) dX7_width_155 rfl foX7_20 24 hc24 rfl ?_
      refine g_iload_n (q := 159) (i := 3) dX7_width_158 rfl rfl rfl ?_
      refine g_iload (q := 161) dX7_width_159 rfl rfl ?_
      obtain ⟨b161, H⟩ := of_chk H
      obtain ⟨σ3, n3, H⟩ := of_ls H
      refine g_iast (q := 162) dX7_width_161 rfl 28 hc28 b161 (ha28e n3) ?_
      refine g_iload_n (q := 163) (i := 2) dX7_width_162 rfl rfl rfl ?_
      refine g_iconst (q := 164) (v := 1) dX7_width_163 rfl (by decide) ?_
      refine g_iload (q := 166) dX7_width_164 rfl rfl ?_
      refine g_ishl (q := 167) dX7_width_166 rfl ?_
      refine g_ior (q := 168) dX7_width_167 rfl ?_
      obtain ⟨v4, n4, H⟩ := of_li H
      refine g_name n4 ?_
      refine g_istore_n (q := 169) (L' := [.ref (ad 24), un_, .int v4, .int l3, .int l4, un_]) (i := 2) dX7_width_168 rfl rfl (Nat.le_of_ble_eq_true rfl) rfl ?_
      refine g_iinc (q := 172) (b := l3 + 1) (L' := [.ref (ad 24), un_, .int v4, .int (l3 + 1), .int l4, un_]) dX7_width_169 rfl rfl rfl (Nat.le_of_ble_eq_true rfl) rfl ?_
      refine g_goto (q := 105) dX7_width_172 (by decide) ?_
      exact g_weak (L' := [.ref (ad 24), un_, .int v4, .int (l3 + 1), un_, un_]) ⟨Or.inr rfl, Or.inl rfl, Or.inr rfl, Or.inr rfl, Or.inl rfl, Or.inl rfl, trivial⟩ (h105 _ _ _ H)
    · replace H := (if_neg c142).symm.trans H
      refine g_iload (q := 147) dX7_width_145 rfl rfl ?_
      refine g_iconst (q := 148) (v := 1) dX7_width_147 rfl (by decide) ?_
      refine g_iadd (q := 149) dX7_width_148 rfl ?_
      obtain ⟨v5, n5, H⟩ := of_li H
      refine g_name n5 ?_
      refine g_istore (q := 151) (L' := [.ref (ad 24), un_, .int l2, .int l3, .int v5, un_]) dX7_width_149 rfl (Nat.le_of_ble_eq_true rfl) rfl ?_
      refine g_goto (q := 116) dX7_width_151 (by decide) ?_
      exact g_weak (L' := [.ref (ad 24), un_, .int l2, .int l3, .int v5, un_]) ⟨Or.inr rfl, Or.inl rfl, Or.inr rfl, Or.inr rfl, Or.inr rfl, Or.inl rfl, trivial⟩ (h116 _ _ _ _ H)
def fX7_width_116 (F : Nat) (k105 : Sg → Int32 → Int32 → Rs) : Nat → Sg → Int32 → Int32 → Int32 → Rs
  | 0 => fun _ _ _ _ => none
  | n + 1 => fun σ l2 l3 l4 => bX7_width_116 F k105 (fX7_width_116 F k105 n) σ l2 l3 l4
theorem wfX7_width_116 {x : FX} {g : GX} {ad : Nat → Nat} {ex M0 : va_W} {r : Int32} {τ : Sg} {F : Nat} (hX : RX x g M0 (Pi_ r (HH g ad τ ++ ex)) 0 0) {k105 : Sg → Int32 → Int32 → Rs} (h105 : ∀ (σ : Sg) (l2 : Int32) (l3 : Int32), k105 σ l2 l3 = some (r, τ) → Go x { frames := 3, cells := 0, slots := 0, locals := 69 } tX7_width g 105 [.ref (ad 24), un_, .int l2, .int l3, un_, un_] [] (HH g ad σ ++ ex) 0 0) : ∀ (n : Nat) (σ : Sg) (l2 : Int32) (l3 : Int32) (l4 : Int32), fX7_width_116 F k105 n σ l2 l3 l4 = some (r, τ) → Go x { frames := 3, cells := 0, slots := 0, locals := 69 } tX7_width g 116 [.ref (ad 24), un_, .int l2, .int l3, .int l4, un_] [] (HH g ad σ ++ ex) 0 0
  | 0, _, _, _, _, H => nomatch (show (none : Rs) = some _ from H)
  | n + 1, σ, l2, l3, l4, H => wbX7_width_116 (F := F) hX h105 (fun σ2 z2 z3 z4 H2 => wfX7_width_116 (F := F) hX h105 n σ2 z2 z3 z4 H2) σ l2 l3 l4 H
def bX7_width_105 (F : Nat) (k105 : Sg → Int32 → Int32 → Rs) (σ : Sg) (l2 : Int32) (l3 : Int32) : Rs := if (σ.1 21) ≤ l3 then (if ib (0 : Int32) 4096 then (some (σ.2.1 41 (0 : Int32).toNatClampNeg, σ)) else none) else (fX7_width_116 F k105 F σ (l2) (l3) ((0 : Int32)))
set_option maxRecDepth 100000 in
set_option maxHeartbeats 4000000 in
theorem wbX7_width_105 {x : FX} {g : GX} {ad : Nat → Nat} {ex M0 : va_W} {r : Int32} {τ : Sg} {F : Nat} (hX : RX x g M0 (Pi_ r (HH g ad τ ++ ex)) 0 0) {k105 : Sg → Int32 → Int32 → Rs} (h105 : ∀ (σ : Sg) (l2 : Int32) (l3 : Int32), k105 σ l2 l3 = some (r, τ) → Go x { frames := 3, cells := 0, slots := 0, locals := 69 } tX7_width g 105 [.ref (ad 24), un_, .int l2, .int l3, un_, un_] [] (HH g ad σ ++ ex) 0 0) (σ : Sg) (l2 : Int32) (l3 : Int32) (H : bX7_width_105 F k105 σ l2 l3 = some (r, τ)) : Go x { frames := 3, cells := 0, slots := 0, locals := 69 } tX7_width g 105 [.ref (ad 24), un_, .int l2, .int l3, un_, un_] [] (HH g ad σ ++ ex) 0 0 := by
  unfold bX7_width_105 at H
  refine g_iload_n (q := 106) (i := 3) dX7_width_105 rfl rfl rfl ?_
  refine g_aload_n (q := 107) (i := 0) dX7_width_106 rfl rfl rfl ?_
  refine g_get (q := 110) dX7_width_107 rfl foX7_68 24 hc24 rfl ?_
  refine g_icmp_ge (q := 113) (r := 175) dX7_width_110 (by decide) rfl (fun c110 => ?_) (fun c110 => ?_)
  · replace H := (if_pos c110).symm.trans H
    refine g_aload_n (q := 176) (i := 0) dX7_width_175 rfl rfl rfl ?_
    refine g_get (q := 179) dX7_width_176 rfl foX7_65 24 hc24 rfl ?_
    refine g_iconst (q := 180) (v := 0) dX7_width_179 rfl (by decide) ?_
    obtain ⟨b180, H⟩ := of_chk H
    refine g_iald (q := 181) dX7_width_180 rfl 41 hc41 b180 ?_
    exact g_iret hX dX7_width_181 rfl rfl (Nat.le_refl _) (Nat.le_refl _) (piOk H)
  · replace H := (if_neg c110).symm.trans H
    refine g_iconst (q := 114) (v := 0) dX7_width_113 rfl (by decide) ?_
    refine g_istore (q := 116) (L' := [.ref (ad 24), un_, .int l2, .int l3, .int ((0 : Int32)), un_]) dX7_width_114 rfl (Nat.le_of_ble_eq_true rfl) rfl ?_
    exact g_weak (L' := [.ref (ad 24), un_, .int l2, .int l3, .int ((0 : Int32)), un_]) ⟨Or.inr rfl, Or.inl rfl, Or.inr rfl, Or.inr rfl, Or.inr rfl, Or.inl rfl, trivial⟩ (wfX7_width_116 (F := F) hX h105 F _ _ _ _ H)
def fX7_width_105 (F : Nat)  : Nat → Sg → Int32 → Int32 → Rs
  | 0 => fun _ _ _ => none
  | n + 1 => fun σ l2 l3 => bX7_width_105 F  (fX7_width_105 F  n) σ l2 l3
theorem wfX7_width_105 {x : FX} {g : GX} {ad : Nat → Nat} {ex M0 : va_W} {r : Int32} {τ : Sg} {F : Nat} (hX : RX x g M0 (Pi_ r (HH g ad τ ++ ex)) 0 0)   : ∀ (n : Nat) (σ : Sg) (l2 : Int32) (l3 : Int32), fX7_width_105 F  n σ l2 l3 = some (r, τ) → Go x { frames := 3, cells := 0, slots := 0, locals := 69 } tX7_width g 105 [.ref (ad 24), un_, .int l2, .int l3, un_, un_] [] (HH g ad σ ++ ex) 0 0
  | 0, _, _, _, H => nomatch (show (none : Rs) = some _ from H)
  | n + 1, σ, l2, l3, H => wbX7_width_105 (F := F) hX  (fun σ2 z2 z3 H2 => wfX7_width_105 (F := F) hX  n σ2 z2 z3 H2) σ l2 l3 H
def bX7_width_39 (F : Nat) (k29 : Sg → Int32 → Rs) (k39 : Sg → Int32 → Int32 → Int32 → Rs) (σ : Sg) (l2 : Int32) (l3 : Int32) (l4 : Int32) : Rs := if (σ.1 21) ≤ l4 then (if ib l2 4096 then (ls_ (sa σ 41 l2.toNatClampNeg l3) fun σ1 => k29 σ1 (l2 + Int32.ofInt (-1))) else none) else (if ((l2 >>> (l4 &&& 31)) &&& (1 : Int32)) = (1 : Int32) then (k39 σ (l2) (l3) (l4 + 1)) else ((fX7_worst F σ (l2 ||| ((1 : Int32) <<< (l4 &&& 31)))).bind fun q2 => (fun (r2 : Int32) (σ2 : Sg) => if l3 ≤ r2 then (k39 σ2 (l2) (l3) (l4 + 1)) else (k39 σ2 (l2) (r2) (l4 + 1))) q2.1 q2.2))
set_option maxRecDepth 100000 in
set_option maxHeartbeats 4000000 in
theorem wbX7_width_39 {x : FX} {g : GX} {ad : Nat → Nat} {ex M0 : va_W} {r : Int32} {τ : Sg} {F : Nat} (hX : RX x g M0 (Pi_ r (HH g ad τ ++ ex)) 0 0) {k29 : Sg → Int32 → Rs} {k39 : Sg → Int32 → Int32 → Int32 → Rs} (h29 : ∀ (σ : Sg) (l2 : Int32), k29 σ l2 = some (r, τ) → Go x { frames := 3, cells := 0, slots := 0, locals := 69 } tX7_width g 29 [.ref (ad 24), un_, .int l2, un_, un_, un_] [] (HH g ad σ ++ ex) 0 0) (h39 : ∀ (σ : Sg) (l2 : Int32) (l3 : Int32) (l4 : Int32), k39 σ l2 l3 l4 = some (r, τ) → Go x { frames := 3, cells := 0, slots := 0, locals := 69 } tX7_width g 39 [.ref (ad 24), un_, .int l2, .int l3, .int l4, un_] [] (HH g ad σ ++ ex) 0 0) (σ : Sg) (l2 : Int32) (l3 : Int32) (l4 : Int32) (H : bX7_width_39 F k29 k39 σ l2 l3 l4 = some (r, τ)) : Go x { frames := 3, cells := 0, slots := 0, locals := 69 } tX7_width g 39 [.ref (ad 24), un_, .int l2, .int l3, .int l4, un_] [] (HH g ad σ ++ ex) 0 0 := by
  unfold bX7_width_39 at H
  refine g_iload (q := 41) dX7_width_39 rfl rfl ?_
  refine g_aload_n (q := 42) (i := 0) dX7_width_41 rfl rfl rfl ?_
  refine g_get (q := 45) dX7_width_42 rfl foX7_68 24 hc24 rfl ?_
  refine g_icmp_ge (q := 48) (r := 88) dX7_width_45 (by decide) rfl (fun c45 => ?_) (fun c45 => ?_)
  · replace H := (if_pos c45).symm.trans H
    refine g_aload_n (q := 89) (i := 0) dX7_width_88 rfl rfl rfl ?_
    refine g_get (q := 92) dX7_width_89 rfl foX7_65 24 hc24 rfl ?_
    refine g_iload_n (q := 93) (i := 2) dX7_width_92 rfl rfl rfl ?_
    refine g_iload_n (q := 94) (i := 3) dX7_width_93 rfl rfl rfl ?_
    obtain ⟨b94, H⟩ := of_chk H
    obtain ⟨σ1, n1, H⟩ := of_ls H
    refine g_iast (q := 95) dX7_width_94 rfl 41 hc41 b94 (ha41e n1) ?_
    refine g_iinc (q := 98) (b := l2 + Int32.ofInt (-1)) (L' := [.ref (ad 24), un_, .int (l2 + Int32.ofInt (-1)), .int l3, .int l4, un_]) dX7_width_95 rfl rfl rfl (Nat.le_of_ble_eq_true rfl) rfl ?_
    refine g_goto (q := 29) dX7_width_98 (by decide) ?_
    exact g_weak (L' := [.ref (ad 24), un_, .int (l2 + Int32.ofInt (-1)), un_, un_, un_]) ⟨Or.inr rfl, Or.inl rfl, Or.inr rfl, Or.inl rfl, Or.inl rfl, Or.inl rfl, trivial⟩ (h29 _ _ H)
  · replace H := (if_neg c45).symm.trans H
    refine g_iload_n (q := 49) (i := 2) dX7_width_48 rfl rfl rfl ?_
    refine g_iload (q := 51) dX7_width_49 rfl rfl ?_
    refine g_ishr (q := 52) dX7_width_51 rfl ?_
    refine g_iconst (q := 53) (v := 1) dX7_width_52 rfl (by decide) ?_
    refine g_iand (q := 54) dX7_width_53 rfl ?_
    refine g_iconst (q := 55) (v := 1) dX7_width_54 rfl (by decide) ?_
    refine g_icmp_ne (q := 58) (r := 61) dX7_width_55 (by decide) rfl (fun c55 => ?_) (fun c55 => ?_)
    · replace H := (if_neg c55).symm.trans H
      refine g_aload_n (q := 62) (i := 0) dX7_width_61 rfl rfl rfl ?_
      refine g_iload_n (q := 63) (i := 2) dX7_width_62 rfl rfl rfl ?_
      refine g_iconst (q := 64) (v := 1) dX7_width_63 rfl (by decide) ?_
      refine g_iload (q := 66) dX7_width_64 rfl rfl ?_
      refine g_ishl (q := 67) dX7_width_66 rfl ?_
      refine g_ior (q := 68) dX7_width_67 rfl ?_
      obtain ⟨r2, σ2, e2, H⟩ := of_bnd H
      refine g_callV (q := 71) (rest := []) dX7_width_68 rfl cvX7_193 (ctX7_worst e2) rfl rfl ⟨Nat.le_of_ble_eq_true rfl, Nat.le_of_ble_eq_true rfl⟩ ⟨Nat.le_refl _, Nat.le_refl _⟩ (Nat.le_of_ble_eq_true rfl) 24 hc24 rfl (fun r0 M9 hp => ?_)
      obtain ⟨rfl, rfl⟩ := hp
      show Go x _ _ g 71 [.ref (ad 24), un_, .int l2, .int l3, .int l4, un_] [.int r2] (HH g ad σ2 ++ ex) 0 0
      refine g_istore (q := 73) (L' := [.ref (ad 24), un_, .int l2, .int l3, .int l4, .int r2]) dX7_width_71 rfl (Nat.le_of_ble_eq_true rfl) rfl ?_
      refine g_iload (q := 75) dX7_width_73 rfl rfl ?_
      refine g_iload_n (q := 76) (i := 3) dX7_width_75 rfl rfl rfl ?_
      refine g_icmp_ge (q := 79) (r := 82) dX7_width_76 (by decide) rfl (fun c76 => ?_) (fun c76 => ?_)
      · replace H := (if_pos c76).symm.trans H
        refine g_iinc (q := 85) (b := l4 + 1) (L' := [.ref (ad 24), un_, .int l2, .int l3, .int (l4 + 1), .int r2]) dX7_width_82 rfl rfl rfl (Nat.le_of_ble_eq_true rfl) rfl ?_
        refine g_goto (q := 39) dX7_width_85 (by decide) ?_
        exact g_weak (L' := [.ref (ad 24), un_, .int l2, .int l3, .int (l4 + 1), un_]) ⟨Or.inr rfl, Or.inl rfl, Or.inr rfl, Or.inr rfl, Or.inr rfl, Or.inl rfl, trivial⟩ (h39 _ _ _ _ H)
      · replace H := (if_neg c76).symm.trans H
        refine g_iload (q := 81) dX7_width_79 rfl rfl ?_
        refine g_istore_n (q := 82) (L' := [.ref (ad 24), un_, .int l2, .int r2, .int l4, .int r2]) (i := 3) dX7_width_81 rfl rfl (Nat.le_of_ble_eq_true rfl) rfl ?_
        refine g_iinc (q := 85) (b := l4 + 1) (L' := [.ref (ad 24), un_, .int l2, .int r2, .int (l4 + 1), .int r2]) dX7_width_82 rfl rfl rfl (Nat.le_of_ble_eq_true rfl) rfl ?_
        refine g_goto (q := 39) dX7_width_85 (by decide) ?_
        exact g_weak (L' := [.ref (ad 24), un_, .int l2, .int r2, .int (l4 + 1), un_]) ⟨Or.inr rfl, Or.inl rfl, Or.inr rfl, Or.inr rfl, Or.inr rfl, Or.inl rfl, trivial⟩ (h39 _ _ _ _ H)
    · replace H := (if_pos c55).symm.trans H
      refine g_goto (q := 82) dX7_width_58 (by decide) ?_
      refine g_iinc (q := 85) (b := l4 + 1) (L' := [.ref (ad 24), un_, .int l2, .int l3, .int (l4 + 1), un_]) dX7_width_82 rfl rfl rfl (Nat.le_of_ble_eq_true rfl) rfl ?_
      refine g_goto (q := 39) dX7_width_85 (by decide) ?_
      exact g_weak (L' := [.ref (ad 24), un_, .int l2, .int l3, .int (l4 + 1), un_]) ⟨Or.inr rfl, Or.inl rfl, Or.inr rfl, Or.inr rfl, Or.inr rfl, Or.inl rfl, trivial⟩ (h39 _ _ _ _ H)
def fX7_width_39 (F : Nat) (k29 : Sg → Int32 → Rs) : Nat → Sg → Int32 → Int32 → Int32 → Rs
  | 0 => fun _ _ _ _ => none
  | n + 1 => fun σ l2 l3 l4 => bX7_width_39 F k29 (fX7_width_39 F k29 n) σ l2 l3 l4
theorem wfX7_width_39 {x : FX} {g : GX} {ad : Nat → Nat} {ex M0 : va_W} {r : Int32} {τ : Sg} {F : Nat} (hX : RX x g M0 (Pi_ r (HH g ad τ ++ ex)) 0 0) {k29 : Sg → Int32 → Rs} (h29 : ∀ (σ : Sg) (l2 : Int32), k29 σ l2 = some (r, τ) → Go x { frames := 3, cells := 0, slots := 0, locals := 69 } tX7_width g 29 [.ref (ad 24), un_, .int l2, un_, un_, un_] [] (HH g ad σ ++ ex) 0 0) : ∀ (n : Nat) (σ : Sg) (l2 : Int32) (l3 : Int32) (l4 : Int32), fX7_width_39 F k29 n σ l2 l3 l4 = some (r, τ) → Go x { frames := 3, cells := 0, slots := 0, locals := 69 } tX7_width g 39 [.ref (ad 24), un_, .int l2, .int l3, .int l4, un_] [] (HH g ad σ ++ ex) 0 0
  | 0, _, _, _, _, H => nomatch (show (none : Rs) = some _ from H)
  | n + 1, σ, l2, l3, l4, H => wbX7_width_39 (F := F) hX h29 (fun σ2 z2 z3 z4 H2 => wfX7_width_39 (F := F) hX h29 n σ2 z2 z3 z4 H2) σ l2 l3 l4 H
def bX7_width_29 (F : Nat) (k29 : Sg → Int32 → Rs) (σ : Sg) (l2 : Int32) : Rs := if l2 < (0 : Int32) then (fX7_width_105 F F σ ((0 : Int32)) ((0 : Int32))) else (fX7_width_39 F k29 F σ (l2) ((13 : Int32)) ((0 : Int32)))
set_option maxRecDepth 100000 in
set_option maxHeartbeats 4000000 in
theorem wbX7_width_29 {x : FX} {g : GX} {ad : Nat → Nat} {ex M0 : va_W} {r : Int32} {τ : Sg} {F : Nat} (hX : RX x g M0 (Pi_ r (HH g ad τ ++ ex)) 0 0) {k29 : Sg → Int32 → Rs} (h29 : ∀ (σ : Sg) (l2 : Int32), k29 σ l2 = some (r, τ) → Go x { frames := 3, cells := 0, slots := 0, locals := 69 } tX7_width g 29 [.ref (ad 24), un_, .int l2, un_, un_, un_] [] (HH g ad σ ++ ex) 0 0) (σ : Sg) (l2 : Int32) (H : bX7_width_29 F k29 σ l2 = some (r, τ)) : Go x { frames := 3, cells := 0, slots := 0, locals := 69 } tX7_width g 29 [.ref (ad 24), un_, .int l2, un_, un_, un_] [] (HH g ad σ ++ ex) 0 0 := by
  unfold bX7_width_29 at H
  refine g_iload_n (q := 30) (i := 2) dX7_width_29 rfl rfl rfl ?_
  refine g_if_lt (q := 33) (r := 101) dX7_width_30 (by decide) rfl (fun c30 => ?_) (fun c30 => ?_)
  · replace H := (if_pos c30).symm.trans H
    refine g_iconst (q := 102) (v := 0) dX7_width_101 rfl (by decide) ?_
    refine g_istore_n (q := 103) (L' := [.ref (ad 24), un_, .int ((0 : Int32)), un_, un_, un_]) (i := 2) dX7_width_102 rfl rfl (Nat.le_of_ble_eq_true rfl) rfl ?_
    refine g_iconst (q := 104) (v := 0) dX7_width_103 rfl (by decide) ?_
    refine g_istore_n (q := 105) (L' := [.ref (ad 24), un_, .int ((0 : Int32)), .int ((0 : Int32)), un_, un_]) (i := 3) dX7_width_104 rfl rfl (Nat.le_of_ble_eq_true rfl) rfl ?_
    exact g_weak (L' := [.ref (ad 24), un_, .int ((0 : Int32)), .int ((0 : Int32)), un_, un_]) ⟨Or.inr rfl, Or.inl rfl, Or.inr rfl, Or.inr rfl, Or.inl rfl, Or.inl rfl, trivial⟩ (wfX7_width_105 (F := F) hX  F _ _ _ H)
  · replace H := (if_neg c30).symm.trans H
    refine g_bipush (q := 35) (v := 13) dX7_width_33 rfl (by decide) ?_
    refine g_istore_n (q := 36) (L' := [.ref (ad 24), un_, .int l2, .int ((13 : Int32)), un_, un_]) (i := 3) dX7_width_35 rfl rfl (Nat.le_of_ble_eq_true rfl) rfl ?_
    refine g_iconst (q := 37) (v := 0) dX7_width_36 rfl (by decide) ?_
    refine g_istore (q := 39) (L' := [.ref (ad 24), un_, .int l2, .int ((13 : Int32)), .int ((0 : Int32)), un_]) dX7_width_37 rfl (Nat.le_of_ble_eq_true rfl) rfl ?_
    exact g_weak (L' := [.ref (ad 24), un_, .int l2, .int ((13 : Int32)), .int ((0 : Int32)), un_]) ⟨Or.inr rfl, Or.inl rfl, Or.inr rfl, Or.inr rfl, Or.inr rfl, Or.inl rfl, trivial⟩ (wfX7_width_39 (F := F) hX h29 F _ _ _ _ H)
def fX7_width_29 (F : Nat)  : Nat → Sg → Int32 → Rs
  | 0 => fun _ _ => none
  | n + 1 => fun σ l2 => bX7_width_29 F  (fX7_width_29 F  n) σ l2
theorem wfX7_width_29 {x : FX} {g : GX} {ad : Nat → Nat} {ex M0 : va_W} {r : Int32} {τ : Sg} {F : Nat} (hX : RX x g M0 (Pi_ r (HH g ad τ ++ ex)) 0 0)   : ∀ (n : Nat) (σ : Sg) (l2 : Int32), fX7_width_29 F  n σ l2 = some (r, τ) → Go x { frames := 3, cells := 0, slots := 0, locals := 69 } tX7_width g 29 [.ref (ad 24), un_, .int l2, un_, un_, un_] [] (HH g ad σ ++ ex) 0 0
  | 0, _, _, H => nomatch (show (none : Rs) = some _ from H)
  | n + 1, σ, l2, H => wbX7_width_29 (F := F) hX  (fun σ2 z2 H2 => wfX7_width_29 (F := F) hX  n σ2 z2 H2) σ l2 H
def fX7_width (F : Nat) (σ : Sg)  : Rs := if (σ.1 21) = (0 : Int32) then (some ((-1 : Int32), σ)) else (li_ (((1 : Int32) <<< ((σ.1 21) &&& 31)) - (1 : Int32)) fun v1 => if ib v1 4096 then (ls_ (sa σ 41 v1.toNatClampNeg (0 : Int32)) fun σ2 => li_ (v1 - (1 : Int32)) fun v3 => fX7_width_29 F F σ2 (v3)) else none)
set_option maxRecDepth 100000 in
set_option maxHeartbeats 4000000 in
theorem ctX7_width {l : Launch} {g : GX} {ad : Nat → Nat} {ex : va_W} {r : Int32} {τ σ : Sg} {F : Nat}  (H : fX7_width F σ  = some (r, τ)) : Ct l g yX7_width tX7_width 3 69 0 0 [.ref (ad 24)] (HH g ad σ ++ ex) (Pi_ r (HH g ad τ ++ ex)) := by
  refine Ct.of (L := [.ref (ad 24), un_, un_, un_, un_, un_]) (by decide +kernel) rfl rfl rfl (Nat.le_of_ble_eq_true rfl) rfl (fun x _ hX => ?_)
  unfold fX7_width at H
  refine g_aload_n (q := 1) (i := 0) dX7_width_0 rfl rfl rfl ?_
  refine g_get (q := 4) dX7_width_1 rfl foX7_68 24 hc24 rfl ?_
  refine g_if_ne (q := 7) (r := 9) dX7_width_4 (by decide) rfl (fun c4 => ?_) (fun c4 => ?_)
  · replace H := (if_neg c4).symm.trans H
    refine g_iconst (q := 10) (v := 1) dX7_width_9 rfl (by decide) ?_
    refine g_aload_n (q := 11) (i := 0) dX7_width_10 rfl rfl rfl ?_
    refine g_get (q := 14) dX7_width_11 rfl foX7_68 24 hc24 rfl ?_
    refine g_ishl (q := 15) dX7_width_14 rfl ?_
    refine g_iconst (q := 16) (v := 1) dX7_width_15 rfl (by decide) ?_
    refine g_isub (q := 17) dX7_width_16 rfl ?_
    obtain ⟨v1, n1, H⟩ := of_li H
    refine g_name n1 ?_
    refine g_istore_n (q := 18) (L' := [.ref (ad 24), .int v1, un_, un_, un_, un_]) (i := 1) dX7_width_17 rfl rfl (Nat.le_of_ble_eq_true rfl) rfl ?_
    refine g_aload_n (q := 19) (i := 0) dX7_width_18 rfl rfl rfl ?_
    refine g_get (q := 22) dX7_width_19 rfl foX7_65 24 hc24 rfl ?_
    refine g_iload_n (q := 23) (i := 1) dX7_width_22 rfl rfl rfl ?_
    refine g_iconst (q := 24) (v := 0) dX7_width_23 rfl (by decide) ?_
    obtain ⟨b24, H⟩ := of_chk H
    obtain ⟨σ2, n2, H⟩ := of_ls H
    refine g_iast (q := 25) dX7_width_24 rfl 41 hc41 b24 (ha41e n2) ?_
    refine g_iload_n (q := 26) (i := 1) dX7_width_25 rfl rfl rfl ?_
    refine g_iconst (q := 27) (v := 1) dX7_width_26 rfl (by decide) ?_
    refine g_isub (q := 28) dX7_width_27 rfl ?_
    obtain ⟨v3, n3, H⟩ := of_li H
    refine g_name n3 ?_
    refine g_istore_n (q := 29) (L' := [.ref (ad 24), .int v1, .int v3, un_, un_, un_]) (i := 2) dX7_width_28 rfl rfl (Nat.le_of_ble_eq_true rfl) rfl ?_
    exact g_weak (L' := [.ref (ad 24), un_, .int v3, un_, un_, un_]) ⟨Or.inr rfl, Or.inl rfl, Or.inr rfl, Or.inl rfl, Or.inl rfl, Or.inl rfl, trivial⟩ (wfX7_width_29 (F := F) hX  F _ _ H)
  · replace H := (if_pos c4).symm.trans H
    refine g_iconst (q := 8) (v := -1) dX7_width_7 rfl (by decide) ?_
    exact g_iret hX dX7_width_8 rfl rfl (Nat.le_refl _) (Nat.le_refl _) (piOk H)
