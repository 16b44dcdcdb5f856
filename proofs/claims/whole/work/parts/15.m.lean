def bX7_spreads_214 (F : Nat) (k2 : Sg → Int32 → Rs) (k62 : Sg → Int32 → Int32 → Int32 → Rs) (σ : Sg) (l2 : Int32) (l3 : Int32) (l4 : Int32) : Rs := ls_ (sv σ 24 ((σ.1 24) ||| ((1 : Int32) <<< (l4 &&& 31)))) fun σ1 => k62 σ1 (l2) (l3) (l4 + 1)
set_option maxRecDepth 100000 in
set_option maxHeartbeats 4000000 in
theorem wbX7_spreads_214 {x : FX} {g : GX} {ad : Nat → Nat} {ex M0 : va_W} {r : Int32} {τ : Sg} {F : Nat} (hX : RX x g M0 (Pv_ (HH g ad τ ++ ex)) 0 0) {k2 : Sg → Int32 → Rs} {k62 : Sg → Int32 → Int32 → Int32 → Rs} (h2 : ∀ (σ : Sg) (l1 : Int32), k2 σ l1 = some (r, τ) → Go x { frames := 0, cells := 0, slots := 0, locals := 0 } tX7_spreads g 2 [.ref (ad 24), .int l1, un_, un_, un_, un_] [] (HH g ad σ ++ ex) 0 0) (h62 : ∀ (σ : Sg) (l2 : Int32) (l3 : Int32) (l4 : Int32), k62 σ l2 l3 l4 = some (r, τ) → Go x { frames := 0, cells := 0, slots := 0, locals := 0 } tX7_spreads g 62 [.ref (ad 24), un_, .int l2, .int l3, .int l4, un_] [] (HH g ad σ ++ ex) 0 0) (σ : Sg) (l2 : Int32) (l3 : Int32) (l4 : Int32) (H : bX7_spreads_214 F k2 k62 σ l2 l3 l4 = some (r, τ)) : Go x { frames := 0, cells := 0, slots := 0, locals := 0 } tX7_spreads g 214 [.ref (ad 24), un_, .int l2, .int l3, .int l4, un_] [] (HH g ad σ ++ ex) 0 0 := by
  unfold bX7_spreads_214 at H
  refine g_aload_n (q := 215) (i := 0) dX7_spreads_214 rfl rfl rfl ?_
  refine g_aload_n (q := 216) (i := 0) dX7_spreads_215 rfl rfl rfl ?_
  refine g_get (q := 219) dX7_spreads_216 rfl foX7_94 24 hc24 rfl ?_
  refine g_iconst (q := 220) (v := 1) dX7_spreads_219 rfl (by decide) ?_
  refine g_iload (q := 222) dX7_spreads_220 rfl rfl ?_
  refine g_ishl (q := 223) dX7_spreads_222 rfl ?_
  refine g_ior (q := 224) dX7_spreads_223 rfl ?_
  obtain ⟨σ1, n1, H⟩ := of_ls H
  refine g_put (q := 227) dX7_spreads_224 rfl (fpX7_94 _) 24 hc24 rfl rfl (Nat.le_of_ble_eq_true rfl) (hs24e n1) ?_
  refine g_iinc (q := 230) (b := l4 + 1) (L' := [.ref (ad 24), un_, .int l2, .int l3, .int (l4 + 1), un_]) dX7_spreads_227 rfl rfl rfl (Nat.le_of_ble_eq_true rfl) rfl ?_
  refine g_goto (q := 62) dX7_spreads_230 (by decide) ?_
  exact g_weak (L' := [.ref (ad 24), un_, .int l2, .int l3, .int (l4 + 1), un_]) ⟨Or.inr rfl, Or.inl rfl, Or.inr rfl, Or.inr rfl, Or.inr rfl, Or.inl rfl, trivial⟩ (h62 _ _ _ _ H)
def bX7_spreads_178 (F : Nat) (k2 : Sg → Int32 → Rs) (k62 : Sg → Int32 → Int32 → Int32 → Rs) (σ : Sg) (l2 : Int32) (l3 : Int32) (l4 : Int32) : Rs := if ib l4 18 then (if (((σ.1 23) >>> ((σ.2.1 25 l4.toNatClampNeg) &&& 31)) &&& (1 : Int32)) = (1 : Int32) then (bX7_spreads_214 F k2 k62 σ (l2) (l3) (l4)) else (if ib l4 18 then (if (((σ.1 23) >>> ((σ.2.1 26 l4.toNatClampNeg) &&& 31)) &&& (1 : Int32)) = (1 : Int32) then (bX7_spreads_214 F k2 k62 σ (l2) (l3) (l4)) else (k62 σ (l2) (l3) (l4 + 1))) else none)) else none
set_option maxRecDepth 100000 in
set_option maxHeartbeats 4000000 in
theorem wbX7_spreads_178 {x : FX} {g : GX} {ad : Nat → Nat} {ex M0 : va_W} {r : Int32} {τ : Sg} {F : Nat} (hX : RX x g M0 (Pv_ (HH g ad τ ++ ex)) 0 0) {k2 : Sg → Int32 → Rs} {k62 : Sg → Int32 → Int32 → Int32 → Rs} (h2 : ∀ (σ : Sg) (l1 : Int32), k2 σ l1 = some (r, τ) → Go x { frames := 0, cells := 0, slots := 0, locals := 0 } tX7_spreads g 2 [.ref (ad 24), .int l1, un_, un_, un_, un_] [] (HH g ad σ ++ ex) 0 0) (h62 : ∀ (σ : Sg) (l2 : Int32) (l3 : Int32) (l4 : Int32), k62 σ l2 l3 l4 = some (r, τ) → Go x { frames := 0, cells := 0, slots := 0, locals := 0 } tX7_spreads g 62 [.ref (ad 24), un_, .int l2, .int l3, .int l4, un_] [] (HH g ad σ ++ ex) 0 0) (σ : Sg) (l2 : Int32) (l3 : Int32) (l4 : Int32) (H : bX7_spreads_178 F k2 k62 σ l2 l3 l4 = some (r, τ)) : Go x { frames := 0, cells := 0, slots := 0, locals := 0 } tX7_spreads g 178 [.ref (ad 24), un_, .int l2, .int l3, .int l4, un_] [] (HH g ad σ ++ ex) 0 0 := by
  unfold bX7_spreads_178 at H
  refine g_aload_n (q := 179) (i := 0) dX7_spreads_178 rfl rfl rfl ?_
  refine g_get (q := 182) dX7_spreads_179 rfl foX7_91 24 hc24 rfl ?_
  refine g_aload_n (q := 183) (i := 0) dX7_spreads_182 rfl rfl rfl ?_
  refine g_get (q := 186) dX7_spreads_183 rfl foX7_7 24 hc24 rfl ?_
  refine g_iload (q := 188) dX7_spreads_186 rfl rfl ?_
  obtain ⟨b188, H⟩ := of_chk H
  refine g_iald (q := 189) dX7_spreads_188 rfl 25 hc25 b188 ?_
  refine g_ishr (q := 190) dX7_spreads_189 rfl ?_
  refine g_iconst (q := 191) (v := 1) dX7_spreads_190 rfl (by decide) ?_
  refine g_iand (q := 192) dX7_spreads_191 rfl ?_
  refine g_iconst (q := 193) (v := 1) dX7_spreads_192 rfl (by decide) ?_
  refine g_icmp_eq (q := 196) (r := 214) dX7_spreads_193 (by decide) rfl (fun c193 => ?_) (fun c193 => ?_)
  · replace H := (if_pos c193).symm.trans H
    exact g_weak (L' := [.ref (ad 24), un_, .int l2, .int l3, .int l4, un_]) ⟨Or.inr rfl, Or.inl rfl, Or.inr rfl, Or.inr rfl, Or.inr rfl, Or.inl rfl, trivial⟩ (wbX7_spreads_214 (F := F) hX h2 h62 _ _ _ _ H)
  · replace H := (if_neg c193).symm.trans H
    refine g_aload_n (q := 197) (i := 0) dX7_spreads_196 rfl rfl rfl ?_
    refine g_get (q := 200) dX7_spreads_197 rfl foX7_91 24 hc24 rfl ?_
    refine g_aload_n (q := 201) (i := 0) dX7_spreads_200 rfl rfl rfl ?_
    refine g_get (q := 204) dX7_spreads_201 rfl foX7_13 24 hc24 rfl ?_
    refine g_iload (q := 206) dX7_spreads_204 rfl rfl ?_
    obtain ⟨b206, H⟩ := of_chk H
    refine g_iald (q := 207) dX7_spreads_206 rfl 26 hc26 b206 ?_
    refine g_ishr (q := 208) dX7_spreads_207 rfl ?_
    refine g_iconst (q := 209) (v := 1) dX7_spreads_208 rfl (by decide) ?_
    refine g_iand (q := 210) dX7_spreads_209 rfl ?_
    refine g_iconst (q := 211) (v := 1) dX7_spreads_210 rfl (by decide) ?_
    refine g_icmp_ne (q := 214) (r := 227) dX7_spreads_211 (by decide) rfl (fun c211 => ?_) (fun c211 => ?_)
    · replace H := (if_neg c211).symm.trans H
      refine g_iinc (q := 230) (b := l4 + 1) (L' := [.ref (ad 24), un_, .int l2, .int l3, .int (l4 + 1), un_]) dX7_spreads_227 rfl rfl rfl (Nat.le_of_ble_eq_true rfl) rfl ?_
      refine g_goto (q := 62) dX7_spreads_230 (by decide) ?_
      exact g_weak (L' := [.ref (ad 24), un_, .int l2, .int l3, .int (l4 + 1), un_]) ⟨Or.inr rfl, Or.inl rfl, Or.inr rfl, Or.inr rfl, Or.inr rfl, Or.inl rfl, trivial⟩ (h62 _ _ _ _ H)
    · replace H := (if_pos c211).symm.trans H
      exact g_weak (L' := [.ref (ad 24), un_, .int l2, .int l3, .int l4, un_]) ⟨Or.inr rfl, Or.inl rfl, Or.inr rfl, Or.inr rfl, Or.inr rfl, Or.inl rfl, trivial⟩ (wbX7_spreads_214 (F := F) hX h2 h62 _ _ _ _ H)
def bX7_spreads_140 (F : Nat) (k2 : Sg → Int32 → Rs) (k62 : Sg → Int32 → Int32 → Int32 → Rs) (σ : Sg) (l2 : Int32) (l3 : Int32) (l4 : Int32) (l5 : Int32) : Rs := if l5 = (0 : Int32) then (bX7_spreads_178 F k2 k62 σ (l2) (l3) (l4)) else (if ib l4 18 then (if ib (σ.2.1 26 l4.toNatClampNeg) 12 then (if (σ.2.1 29 (σ.2.1 26 l4.toNatClampNeg).toNatClampNeg) = (0 : Int32) then (if ib l4 18 then (ls_ (sv σ 23 ((σ.1 23) ||| ((1 : Int32) <<< ((σ.2.1 26 l4.toNatClampNeg) &&& 31)))) fun σ1 => bX7_spreads_178 F k2 k62 σ1 (l2) (l3) (l4)) else none) else (bX7_spreads_178 F k2 k62 σ (l2) (l3) (l4))) else none) else none)
set_option maxRecDepth 100000 in
set_option maxHeartbeats 4000000 in
theorem wbX7_spreads_140 {x : FX} {g : GX} {ad : Nat → Nat} {ex M0 : va_W} {r : Int32} {τ : Sg} {F : Nat} (hX : RX x g M0 (Pv_ (HH g ad τ ++ ex)) 0 0) {k2 : Sg → Int32 → Rs} {k62 : Sg → Int32 → Int32 → Int32 → Rs} (h2 : ∀ (σ : Sg) (l1 : Int32), k2 σ l1 = some (r, τ) → Go x { frames := 0, cells := 0, slots := 0, locals := 0 } tX7_spreads g 2 [.ref (ad 24), .int l1, un_, un_, un_, un_] [] (HH g ad σ ++ ex) 0 0) (h62 : ∀ (σ : Sg) (l2 : Int32) (l3 : Int32) (l4 : Int32), k62 σ l2 l3 l4 = some (r, τ) → Go x { frames := 0, cells := 0, slots := 0, locals := 0 } tX7_spreads g 62 [.ref (ad 24), un_, .int l2, .int l3, .int l4, un_] [] (HH g ad σ ++ ex) 0 0) (σ : Sg) (l2 : Int32) (l3 : Int32) (l4 : Int32) (l5 : Int32) (H : bX7_spreads_140 F k2 k62 σ l2 l3 l4 l5 = some (r, τ)) : Go x { frames := 0, cells := 0, slots := 0, locals := 0 } tX7_spreads g 140 [.ref (ad 24), un_, .int l2, .int l3, .int l4, .int l5] [] (HH g ad σ ++ ex) 0 0 := by
  unfold bX7_spreads_140 at H
  refine g_iload (q := 142) dX7_spreads_140 rfl rfl ?_
  refine g_if_eq (q := 145) (r := 178) dX7_spreads_142 (by decide) rfl (fun c142 => ?_) (fun c142 => ?_)
  · replace H := (if_pos c142).symm.trans H
    exact g_weak (L' := [.ref (ad 24), un_, .int l2, .int l3, .int l4, un_]) ⟨Or.inr rfl, Or.inl rfl, Or.inr rfl, Or.inr rfl, Or.inr rfl, Or.inl rfl, trivial⟩ (wbX7_spreads_178 (F := F) hX h2 h62 _ _ _ _ H)
  · replace H := (if_neg c142).symm.trans H
    refine g_aload_n (q := 146) (i := 0) dX7_spreads_145 rfl rfl rfl ?_
    refine g_get (q := 149) dX7_spreads_146 rfl foX7_23 24 hc24 rfl ?_
    refine g_aload_n (q := 150) (i := 0) dX7_spreads_149 rfl rfl rfl ?_
    refine g_get (q := 153) dX7_spreads_150 rfl foX7_13 24 hc24 rfl ?_
    refine g_iload (q := 155) dX7_spreads_153 rfl rfl ?_
    obtain ⟨b155, H⟩ := of_chk H
    refine g_iald (q := 156) dX7_spreads_155 rfl 26 hc26 b155 ?_
    obtain ⟨b156, H⟩ := of_chk H
    refine g_iald (q := 157) dX7_spreads_156 rfl 29 hc29 b156 ?_
    refine g_if_ne (q := 160) (r := 178) dX7_spreads_157 (by decide) rfl (fun c157 => ?_) (fun c157 => ?_)
    · replace H := (if_neg c157).symm.trans H
      exact g_weak (L' := [.ref (ad 24), un_, .int l2, .int l3, .int l4, un_]) ⟨Or.inr rfl, Or.inl rfl, Or.inr rfl, Or.inr rfl, Or.inr rfl, Or.inl rfl, trivial⟩ (wbX7_spreads_178 (F := F) hX h2 h62 _ _ _ _ H)
    · replace H := (if_pos c157).symm.trans H
      refine g_aload_n (q := 161) (i := 0) dX7_spreads_160 rfl rfl rfl ?_
      refine g_aload_n (q := 162) (i := 0) dX7_spreads_161 rfl rfl rfl ?_
      refine g_get (q := 165) dX7_spreads_162 rfl foX7_91 24 hc24 rfl ?_
      refine g_iconst (q := 166) (v := 1) dX7_spreads_165 rfl (by decide) ?_
      refine g_aload_n (q := 167) (i := 0) dX7_spreads_166 rfl rfl rfl ?_
      refine g_get (q := 170) dX7_spreads_167 rfl foX7_13 24 hc24 rfl ?_
      refine g_iload (q := 172) dX7_spreads_170 rfl rfl ?_
      obtain ⟨b172, H⟩ := of_chk H
      refine g_iald (q := 173) dX7_spreads_172 rfl 26 hc26 b172 ?_
      refine g_ishl (q := 174) dX7_spreads_173 rfl ?_
      refine g_ior (q := 175) dX7_spreads_174 rfl ?_
      obtain ⟨σ1, n1, H⟩ := of_ls H
      refine g_put (q := 178) dX7_spreads_175 rfl (fpX7_91 _) 24 hc24 rfl rfl (Nat.le_of_ble_eq_true rfl) (hs23e n1) ?_
      exact g_weak (L' := [.ref (ad 24), un_, .int l2, .int l3, .int l4, un_]) ⟨Or.inr rfl, Or.inl rfl, Or.inr rfl, Or.inr rfl, Or.inr rfl, Or.inl rfl, trivial⟩ (wbX7_spreads_178 (F := F) hX h2 h62 _ _ _ _ H)
def bX7_spreads_62 (F : Nat) (k2 : Sg → Int32 → Rs) (k62 : Sg → Int32 → Int32 → Int32 → Rs) (σ : Sg) (l2 : Int32) (l3 : Int32) (l4 : Int32) : Rs := if (18 : Int32) ≤ l4 then (if l2 = (σ.1 24) then (if l3 = (σ.1 23) then (k2 σ ((0 : Int32))) else (k2 σ ((1 : Int32)))) else (k2 σ ((1 : Int32)))) else (if ib l4 18 then (if (σ.2.1 27 l4.toNatClampNeg) = (0 : Int32) then (k62 σ (l2) (l3) (l4 + 1)) else (if (((σ.1 24) >>> (l4 &&& 31)) &&& (1 : Int32)) = (1 : Int32) then (if (1 : Int32) = (0 : Int32) then (bX7_spreads_140 F k2 k62 σ (l2) (l3) (l4) ((1 : Int32))) else (if ib l4 18 then (if ib (σ.2.1 25 l4.toNatClampNeg) 12 then (if (σ.2.1 29 (σ.2.1 25 l4.toNatClampNeg).toNatClampNeg) = (0 : Int32) then (if ib l4 18 then (ls_ (sv σ 23 ((σ.1 23) ||| ((1 : Int32) <<< ((σ.2.1 25 l4.toNatClampNeg) &&& 31)))) fun σ2 => bX7_spreads_140 F k2 k62 σ2 (l2) (l3) (l4) ((1 : Int32))) else none) else (bX7_spreads_140 F k2 k62 σ (l2) (l3) (l4) ((1 : Int32)))) else none) else none)) else (if (0 : Int32) = (0 : Int32) then (bX7_spreads_140 F k2 k62 σ (l2) (l3) (l4) ((0 : Int32))) else (if ib l4 18 then (if ib (σ.2.1 25 l4.toNatClampNeg) 12 then (if (σ.2.1 29 (σ.2.1 25 l4.toNatClampNeg).toNatClampNeg) = (0 : Int32) then (if ib l4 18 then (ls_ (sv σ 23 ((σ.1 23) ||| ((1 : Int32) <<< ((σ.2.1 25 l4.toNatClampNeg) &&& 31)))) fun σ1 => bX7_spreads_140 F k2 k62 σ1 (l2) (l3) (l4) ((0 : Int32))) else none) else (bX7_spreads_140 F k2 k62 σ (l2) (l3) (l4) ((0 : Int32)))) else none) else none)))) else none)
set_option maxRecDepth 100000 in
set_option maxHeartbeats 4000000 in
theorem wbX7_spreads_62 {x : FX} {g : GX} {ad : Nat → Nat} {ex M0 : va_W} {r : Int32} {τ : Sg} {F : Nat} (hX : RX x g M0 (Pv_ (HH g ad τ ++ ex)) 0 0) {k2 : Sg → Int32 → Rs} {k62 : Sg → Int32 → Int32 → Int32 → Rs} (h2 : ∀ (σ : Sg) (l1 : Int32), k2 σ l1 = some (r, τ) → Go x { frames := 0, cells := 0, slots := 0, locals := 0 } tX7_spreads g 2 [.ref (ad 24), .int l1, un_, un_, un_, un_] [] (HH g ad σ ++ ex) 0 0) (h62 : ∀ (σ : Sg) (l2 : Int32) (l3 : Int32) (l4 : Int32), k62 σ l2 l3 l4 = some (r, τ) → Go x { frames := 0, cells := 0, slots := 0, locals := 0 } tX7_spreads g 62 [.ref (ad 24), un_, .int l2, .int l3, .int l4, un_] [] (HH g ad σ ++ ex) 0 0) (σ : Sg) (l2 : Int32) (l3 : Int32) (l4 : Int32) (H : bX7_spreads_62 F k2 k62 σ l2 l3 l4 = some (r, τ)) : Go x { frames := 0, cells := 0, slots := 0, locals := 0 } tX7_spreads g 62 [.ref (ad 24), un_, .int l2, .int l3, .int l4, un_] [] (HH g ad σ ++ ex) 0 0 := by
  unfold bX7_spreads_62 at H
  refine g_iload (q := 64) dX7_spreads_62 rfl rfl ?_
  refine g_bipush (q := 66) (v := 18) dX7_spreads_64 rfl (by decide) ?_
  refine g_icmp_ge (q := 69) (r := 233) dX7_spreads_66 (by decide) rfl (fun c66 => ?_) (fun c66 => ?_)
  · replace H := (if_pos c66).symm.trans H
    refine g_iload_n (q := 234) (i := 2) dX7_spreads_233 rfl rfl rfl ?_
    refine g_aload_n (q := 235) (i := 0) dX7_spreads_234 rfl rfl rfl ?_
    refine g_get (q := 238) dX7_spreads_235 rfl foX7_94 24 hc24 rfl ?_
    refine g_icmp_ne (q := 241) (r := 249) dX7_spreads_238 (by decide) rfl (fun c238 => ?_) (fun c238 => ?_)
    · replace H := (if_neg c238).symm.trans H
      refine g_iconst (q := 250) (v := 1) dX7_spreads_249 rfl (by decide) ?_
      refine g_goto (q := 254) dX7_spreads_250 (by decide) ?_
      refine g_istore_n (q := 255) (L' := [.ref (ad 24), .int ((1 : Int32)), .int l2, .int l3, .int l4, un_]) (i := 1) dX7_spreads_254 rfl rfl (Nat.le_of_ble_eq_true rfl) rfl ?_
      refine g_goto (q := 2) dX7_spreads_255 (by decide) ?_
      exact g_weak (L' := [.ref (ad 24), .int ((1 : Int32)), un_, un_, un_, un_]) ⟨Or.inr rfl, Or.inr rfl, Or.inl rfl, Or.inl rfl, Or.inl rfl, Or.inl rfl, trivial⟩ (h2 _ _ H)
    · replace H := (if_pos c238).symm.trans H
      refine g_iload_n (q := 242) (i := 3) dX7_spreads_241 rfl rfl rfl ?_
      refine g_aload_n (q := 243) (i := 0) dX7_spreads_242 rfl rfl rfl ?_
      refine g_get (q := 246) dX7_spreads_243 rfl foX7_91 24 hc24 rfl ?_
      refine g_icmp_eq (q := 249) (r := 253) dX7_spreads_246 (by decide) rfl (fun c246 => ?_) (fun c246 => ?_)
      · replace H := (if_pos c246).symm.trans H
        refine g_iconst (q := 254) (v := 0) dX7_spreads_253 rfl (by decide) ?_
        refine g_istore_n (q := 255) (L' := [.ref (ad 24), .int ((0 : Int32)), .int l2, .int l3, .int l4, un_]) (i := 1) dX7_spreads_254 rfl rfl (Nat.le_of_ble_eq_true rfl) rfl ?_
        refine g_goto (q := 2) dX7_spreads_255 (by decide) ?_
        exact g_weak (L' := [.ref (ad 24), .int ((0 : Int32)), un_, un_, un_, un_]) ⟨Or.inr rfl, Or.inr rfl, Or.inl rfl, Or.inl rfl, Or.inl rfl, Or.inl rfl, trivial⟩ (h2 _ _ H)
      · replace H := (if_neg c246).symm.trans H
        refine g_iconst (q := 250) (v := 1) dX7_spreads_249 rfl (by decide) ?_
        refine g_goto (q := 254) dX7_spreads_250 (by decide) ?_
        refine g_istore_n (q := 255) (L' := [.ref (ad 24), .int ((1 : Int32)), .int l2, .int l3, .int l4, un_]) (i := 1) dX7_spreads_254 rfl rfl (Nat.le_of_ble_eq_true rfl) rfl ?_
        refine g_goto (q := 2) dX7_spreads_255 (by decide) ?_
        exact g_weak (L' := [.ref (ad 24), .int ((1 : Int32)), un_, un_, un_, un_]) ⟨Or.inr rfl, Or.inr rfl, Or.inl rfl, Or.inl rfl, Or.inl rfl, Or.inl rfl, trivial⟩ (h2 _ _ H)
  · replace H := (if_neg c66).symm.trans H
    refine g_aload_n (q := 70) (i := 0) dX7_spreads_69 rfl rfl rfl ?_
    refine g_get (q := 73) dX7_spreads_70 rfl foX7_16 24 hc24 rfl ?_
    refine g_iload (q := 75) dX7_spreads_73 rfl rfl ?_
    obtain ⟨b75, H⟩ := of_chk H
    refine g_zald (q := 76) dX7_spreads_75 rfl 27 hc27 b75 ?_
    refine g_if_ne (q := 79) (r := 82) dX7_spreads_76 (by decide) rfl (fun c76 => ?_) (fun c76 => ?_)
    · replace H := (if_neg c76).symm.trans H
      refine g_aload_n (q := 83) (i := 0) dX7_spreads_82 rfl rfl rfl ?_
      refine g_get (q := 86) dX7_spreads_83 rfl foX7_94 24 hc24 rfl ?_
      refine g_iload (q := 88) dX7_spreads_86 rfl rfl ?_
      refine g_ishr (q := 89) dX7_spreads_88 rfl ?_
      refine g_iconst (q := 90) (v := 1) dX7_spreads_89 rfl (by decide) ?_
      refine g_iand (q := 91) dX7_spreads_90 rfl ?_
      refine g_iconst (q := 92) (v := 1) dX7_spreads_91 rfl (by decide) ?_
      refine g_icmp_ne (q := 95) (r := 99) dX7_spreads_92 (by decide) rfl (fun c92 => ?_) (fun c92 => ?_)
      · replace H := (if_neg c92).symm.trans H
        refine g_iconst (q := 100) (v := 0) dX7_spreads_99 rfl (by decide) ?_
        refine g_istore (q := 102) (L' := [.ref (ad 24), un_, .int l2, .int l3, .int l4, .int ((0 : Int32))]) dX7_spreads_100 rfl (Nat.le_of_ble_eq_true rfl) rfl ?_
        refine g_iload (q := 104) dX7_spreads_102 rfl rfl ?_
        refine g_if_eq (q := 107) (r := 140) dX7_spreads_104 (by decide) rfl (fun c104 => ?_) (fun c104 => ?_)
        · replace H := (if_pos c104).symm.trans H
          exact g_weak (L' := [.ref (ad 24), un_, .int l2, .int l3, .int l4, .int ((0 : Int32))]) ⟨Or.inr rfl, Or.inl rfl, Or.inr rfl, Or.inr rfl, Or.inr rfl, Or.inr rfl, trivial⟩ (wbX7_spreads_140 (F := F) hX h2 h62 _ _ _ _ _ H)
        · replace H := (if_neg c104).symm.trans H
          refine g_aload_n (q := 108) (i := 0) dX7_spreads_107 rfl rfl rfl ?_
          refine g_get (q := 111) dX7_spreads_108 rfl foX7_23 24 hc24 rfl ?_
          refine g_aload_n (q := 112) (i := 0) dX7_spreads_111 rfl rfl rfl ?_
          refine g_get (q := 115) dX7_spreads_112 rfl foX7_7 24 hc24 rfl ?_
          refine g_iload (q := 117) dX7_spreads_115 rfl rfl ?_
          obtain ⟨b117, H⟩ := of_chk H
          refine g_iald (q := 118) dX7_spreads_117 rfl 25 hc25 b117 ?_
          obtain ⟨b118, H⟩ := of_chk H
          refine g_iald (q := 119) dX7_spreads_118 rfl 29 hc29 b118 ?_
          refine g_if_ne (q := 122) (r := 140) dX7_spreads_119 (by decide) rfl (fun c119 => ?_) (fun c119 => ?_)
          · replace H := (if_neg c119).symm.trans H
            exact g_weak (L' := [.ref (ad 24), un_, .int l2, .int l3, .int l4, .int ((0 : Int32))]) ⟨Or.inr rfl, Or.inl rfl, Or.inr rfl, Or.inr rfl, Or.inr rfl, Or.inr rfl, trivial⟩ (wbX7_spreads_140 (F := F) hX h2 h62 _ _ _ _ _ H)
          · replace H := (if_pos c119).symm.trans H
            refine g_aload_n (q := 123) (i := 0) dX7_spreads_122 rfl rfl rfl ?_
            refine g_aload_n (q := 124) (i := 0) dX7_spreads_123 rfl rfl rfl ?_
            refine g_get (q := 127) dX7_spreads_124 rfl foX7_91 24 hc24 rfl ?_
            refine g_iconst (q := 128) (v := 1) dX7_spreads_127 rfl (by decide) ?_
            refine g_aload_n (q := 129) (i := 0) dX7_spreads_128 rfl rfl rfl ?_
            refine g_get (q := 132) dX7_spreads_129 rfl foX7_7 24 hc24 rfl ?_
            refine g_iload (q := 134) dX7_spreads_132 rfl rfl ?_
            obtain ⟨b134, H⟩ := of_chk H
            refine g_iald (q := 135) dX7_spreads_134 rfl 25 hc25 b134 ?_
            refine g_ishl (q := 136) dX7_spreads_135 rfl ?_
            refine g_ior (q := 137) dX7_spreads_136 rfl ?_
            obtain ⟨σ1, n1, H⟩ := of_ls H
            refine g_put (q := 140) dX7_spreads_137 rfl (fpX7_91 _) 24 hc24 rfl rfl (Nat.le_of_ble_eq_true rfl) (hs23e n1) ?_
            exact g_weak (L' := [.ref (ad 24), un_, .int l2, .int l3, .int l4, .int ((0 : Int32))]) ⟨Or.inr rfl, Or.inl rfl, Or.inr rfl, Or.inr rfl, Or.inr rfl, Or.inr rfl, trivial⟩ (wbX7_spreads_140 (F := F) hX h2 h62 _ _ _ _ _ H)
      · replace H := (if_pos c92).symm.trans H
        refine g_iconst (q := 96) (v := 1) dX7_spreads_95 rfl (by decide) ?_
        refine g_goto (q := 100) dX7_spreads_96 (by decide) ?_
        refine g_istore (q := 102) (L' := [.ref (ad 24), un_, .int l2, .int l3, .int l4, .int ((1 : Int32))]) dX7_spreads_100 rfl (Nat.le_of_ble_eq_true rfl) rfl ?_
        refine g_iload (q := 104) dX7_spreads_102 rfl rfl ?_
        refine g_if_eq (q := 107) (r := 140) dX7_spreads_104 (by decide) rfl (fun c104 => ?_) (fun c104 => ?_)
        · replace H := (if_pos c104).symm.trans H
          exact g_weak (L' := [.ref (ad 24), un_, .int l2, .int l3, .int l4, .int ((1 : Int32))]) ⟨Or.inr rfl, Or.inl rfl, Or.inr rfl, Or.inr rfl, Or.inr rfl, Or.inr rfl, trivial⟩ (wbX7_spreads_140 (F := F) hX h2 h62 _ _ _ _ _ H)
        · replace H := (if_neg c104).symm.trans H
          refine g_aload_n (q := 108) (i := 0) dX7_spreads_107 rfl rfl rfl ?_
          refine g_get (q := 111) dX7_spreads_108 rfl foX7_23 24 hc24 rfl ?_
          refine g_aload_n (q := 112) (i := 0) dX7_spreads_111 rfl rfl rfl ?_
          refine g_get (q := 115) dX7_spreads_112 rfl foX7_7 24 hc24 rfl ?_
          refine g_iload (q := 117) dX7_spreads_115 rfl rfl ?_
          obtain ⟨b117, H⟩ := of_chk H
          refine g_iald (q := 118) dX7_spreads_117 rfl 25 hc25 b117 ?_
          obtain ⟨b118, H⟩ := of_chk H
          refine g_iald (q := 119) dX7_spreads_118 rfl 29 hc29 b118 ?_
          refine g_if_ne (q := 122) (r := 140) dX7_spreads_119 (by decide) rfl (fun c119 => ?_) (fun c119 => ?_)
          · replace H := (if_neg c119).symm.trans H
            exact g_weak (L' := [.ref (ad 24), un_, .int l2, .int l3, .int l4, .int ((1 : Int32))]) ⟨Or.inr rfl, Or.inl rfl, Or.inr rfl, Or.inr rfl, Or.inr rfl, Or.inr rfl, trivial⟩ (wbX7_spreads_140 (F := F) hX h2 h62 _ _ _ _ _ H)
          · replace H := (if_pos c119).symm.trans H
            refine g_aload_n (q := 123) (i := 0) dX7_spreads_122 rfl rfl rfl ?_
            refine g_aload_n (q := 124) (i := 0) dX7_spreads_123 rfl rfl rfl ?_
            refine g_get (q := 127) dX7_spreads_124 rfl foX7_91 24 hc24 rfl ?_
            refine g_iconst (q := 128) (v := 1) dX7_spreads_127 rfl (by decide) ?_
            refine g_aload_n (q := 129) (i := 0) dX7_spreads_128 rfl rfl rfl ?_
            refine g_get (q := 132) dX7_spreads_129 rfl foX7_7 24 hc24 rfl ?_
            refine g_iload (q := 134) dX7_spreads_132 rfl rfl ?_
            obtain ⟨b134, H⟩ := of_chk H
            refine g_iald (q := 135) dX7_spreads_134 rfl 25 hc25 b134 ?_
            refine g_ishl (q := 136) dX7_spreads_135 rfl ?_
            refine g_ior (q := 137) dX7_spreads_136 rfl ?_
            obtain ⟨σ2, n2, H⟩ := of_ls H
            refine g_put (q := 140) dX7_spreads_137 rfl (fpX7_91 _) 24 hc24 rfl rfl (Nat.le_of_ble_eq_true rfl) (hs23e n2) ?_
            exact g_weak (L' := [.ref (ad 24), un_, .int l2, .int l3, .int l4, .int ((1 : Int32))]) ⟨Or.inr rfl, Or.inl rfl, Or.inr rfl, Or.inr rfl, Or.inr rfl, Or.inr rfl, trivial⟩ (wbX7_spreads_140 (F := F) hX h2 h62 _ _ _ _ _ H)
    · replace H := (if_pos c76).symm.trans H
      refine g_goto (q := 227) dX7_spreads_79 (by decide) ?_
      refine g_iinc (q := 230) (b := l4 + 1) (L' := [.ref (ad 24), un_, .int l2, .int l3, .int (l4 + 1), un_]) dX7_spreads_227 rfl rfl rfl (Nat.le_of_ble_eq_true rfl) rfl ?_
      refine g_goto (q := 62) dX7_spreads_230 (by decide) ?_
      exact g_weak (L' := [.ref (ad 24), un_, .int l2, .int l3, .int (l4 + 1), un_]) ⟨Or.inr rfl, Or.inl rfl, Or.inr rfl, Or.inr rfl, Or.inr rfl, Or.inl rfl, trivial⟩ (h62 _ _ _ _ H)
def fX7_spreads_62 (F : Nat) (k2 : Sg → Int32 → Rs) : Nat → Sg → Int32 → Int32 → Int32 → Rs
  | 0 => fun _ _ _ _ => none
  | n + 1 => fun σ l2 l3 l4 => bX7_spreads_62 F k2 (fX7_spreads_62 F k2 n) σ l2 l3 l4
theorem wfX7_spreads_62 {x : FX} {g : GX} {ad : Nat → Nat} {ex M0 : va_W} {r : Int32} {τ : Sg} {F : Nat} (hX : RX x g M0 (Pv_ (HH g ad τ ++ ex)) 0 0) {k2 : Sg → Int32 → Rs} (h2 : ∀ (σ : Sg) (l1 : Int32), k2 σ l1 = some (r, τ) → Go x { frames := 0, cells := 0, slots := 0, locals := 0 } tX7_spreads g 2 [.ref (ad 24), .int l1, un_, un_, un_, un_] [] (HH g ad σ ++ ex) 0 0) : ∀ (n : Nat) (σ : Sg) (l2 : Int32) (l3 : Int32) (l4 : Int32), fX7_spreads_62 F k2 n σ l2 l3 l4 = some (r, τ) → Go x { frames := 0, cells := 0, slots := 0, locals := 0 } tX7_spreads g 62 [.ref (ad 24), un_, .int l2, .int l3, .int l4, un_] [] (HH g ad σ ++ ex) 0 0
  | 0, _, _, _, _, H => nomatch (show (none : Rs) = some _ from H)
  | n + 1, σ, l2, l3, l4, H => wbX7_spreads_62 (F := F) hX h2 (fun σ2 z2 z3 z4 H2 => wfX7_spreads_62 (F := F) hX h2 n σ2 z2 z3 z4 H2) σ l2 l3 l4 H
def bX7_spreads_19 (F : Nat) (k2 : Sg → Int32 → Rs) (k19 : Sg → Int32 → Int32 → Int32 → Rs) (σ : Sg) (l2 : Int32) (l3 : Int32) (l4 : Int32) : Rs := if (σ.1 21) ≤ l4 then (fX7_spreads_62 F k2 F σ (l2) (l3) ((0 : Int32))) else (if ib l4 12 then (if (σ.2.1 29 l4.toNatClampNeg) ≤ (0 : Int32) then (k19 σ (l2) (l3) (l4 + 1)) else (ls_ (sv σ 23 ((σ.1 23) &&& (((1 : Int32) <<< (l4 &&& 31)) ^^^ (-1 : Int32)))) fun σ1 => k19 σ1 (l2) (l3) (l4 + 1))) else none)
set_option maxRecDepth 100000 in
set_option maxHeartbeats 4000000 in
theorem wbX7_spreads_19 {x : FX} {g : GX} {ad : Nat → Nat} {ex M0 : va_W} {r : Int32} {τ : Sg} {F : Nat} (hX : RX x g M0 (Pv_ (HH g ad τ ++ ex)) 0 0) {k2 : Sg → Int32 → Rs} {k19 : Sg → Int32 → Int32 → Int32 → Rs} (h2 : ∀ (σ : Sg) (l1 : Int32), k2 σ l1 = some (r, τ) → Go x { frames := 0, cells := 0, slots := 0, locals := 0 } tX7_spreads g 2 [.ref (ad 24), .int l1, un_, un_, un_, un_] [] (HH g ad σ ++ ex) 0 0) (h19 : ∀ (σ : Sg) (l2 : Int32) (l3 : Int32) (l4 : Int32), k19 σ l2 l3 l4 = some (r, τ) → Go x { frames := 0, cells := 0, slots := 0, locals := 0 } tX7_spreads g 19 [.ref (ad 24), un_, .int l2, .int l3, .int l4, un_] [] (HH g ad σ ++ ex) 0 0) (σ : Sg) (l2 : Int32) (l3 : Int32) (l4 : Int32) (H : bX7_spreads_19 F k2 k19 σ l2 l3 l4 = some (r, τ)) : Go x { frames := 0, cells := 0, slots := 0, locals := 0 } tX7_spreads g 19 [.ref (ad 24), un_, .int l2, .int l3, .int l4, un_] [] (HH g ad σ ++ ex) 0 0 := by
  unfold bX7_spreads_19 at H
  refine g_iload (q := 21) dX7_spreads_19 rfl rfl ?_
  refine g_aload_n (q := 22) (i := 0) dX7_spreads_21 rfl rfl rfl ?_
  refine g_get (q := 25) dX7_spreads_22 rfl foX7_68 24 hc24 rfl ?_
  refine g_icmp_ge (q := 28) (r := 59) dX7_spreads_25 (by decide) rfl (fun c25 => ?_) (fun c25 => ?_)
  · replace H := (if_pos c25).symm.trans H
    refine g_iconst (q := 60) (v := 0) dX7_spreads_59 rfl (by decide) ?_
    refine g_istore (q := 62) (L' := [.ref (ad 24), un_, .int l2, .int l3, .int ((0 : Int32)), un_]) dX7_spreads_60 rfl (Nat.le_of_ble_eq_true rfl) rfl ?_
    exact g_weak (L' := [.ref (ad 24), un_, .int l2, .int l3, .int ((0 : Int32)), un_]) ⟨Or.inr rfl, Or.inl rfl, Or.inr rfl, Or.inr rfl, Or.inr rfl, Or.inl rfl, trivial⟩ (wfX7_spreads_62 (F := F) hX h2 F _ _ _ _ H)
  · replace H := (if_neg c25).symm.trans H
    refine g_aload_n (q := 29) (i := 0) dX7_spreads_28 rfl rfl rfl ?_
    refine g_get (q := 32) dX7_spreads_29 rfl foX7_23 24 hc24 rfl ?_
    refine g_iload (q := 34) dX7_spreads_32 rfl rfl ?_
    obtain ⟨b34, H⟩ := of_chk H
    refine g_iald (q := 35) dX7_spreads_34 rfl 29 hc29 b34 ?_
    refine g_if_le (q := 38) (r := 53) dX7_spreads_35 (by decide) rfl (fun c35 => ?_) (fun c35 => ?_)
    · replace H := (if_pos c35).symm.trans H
      refine g_iinc (q := 56) (b := l4 + 1) (L' := [.ref (ad 24), un_, .int l2, .int l3, .int (l4 + 1), un_]) dX7_spreads_53 rfl rfl rfl (Nat.le_of_ble_eq_true rfl) rfl ?_
      refine g_goto (q := 19) dX7_spreads_56 (by decide) ?_
      exact g_weak (L' := [.ref (ad 24), un_, .int l2, .int l3, .int (l4 + 1), un_]) ⟨Or.inr rfl, Or.inl rfl, Or.inr rfl, Or.inr rfl, Or.inr rfl, Or.inl rfl, trivial⟩ (h19 _ _ _ _ H)
    · replace H := (if_neg c35).symm.trans H
      refine g_aload_n (q := 39) (i := 0) dX7_spreads_38 rfl rfl rfl ?_
      refine g_aload_n (q := 40) (i := 0) dX7_spreads_39 rfl rfl rfl ?_
      refine g_get (q := 43) dX7_spreads_40 rfl foX7_91 24 hc24 rfl ?_
      refine g_iconst (q := 44) (v := 1) dX7_spreads_43 rfl (by decide) ?_
      refine g_iload (q := 46) dX7_spreads_44 rfl rfl ?_
      refine g_ishl (q := 47) dX7_spreads_46 rfl ?_
      refine g_iconst (q := 48) (v := -1) dX7_spreads_47 rfl (by decide) ?_
      refine g_ixor (q := 49) dX7_spreads_48 rfl ?_
      refine g_iand (q := 50) dX7_spreads_49 rfl ?_
      obtain ⟨σ1, n1, H⟩ := of_ls H
      refine g_put (q := 53) dX7_spreads_50 rfl (fpX7_91 _) 24 hc24 rfl rfl (Nat.le_of_ble_eq_true rfl) (hs23e n1) ?_
      refine g_iinc (q := 56) (b := l4 + 1) (L' := [.ref (ad 24), un_, .int l2, .int l3, .int (l4 + 1), un_]) dX7_spreads_53 rfl rfl rfl (Nat.le_of_ble_eq_true rfl) rfl ?_
      refine g_goto (q := 19) dX7_spreads_56 (by decide) ?_
      exact g_weak (L' := [.ref (ad 24), un_, .int l2, .int l3, .int (l4 + 1), un_]) ⟨Or.inr rfl, Or.inl rfl, Or.inr rfl, Or.inr rfl, Or.inr rfl, Or.inl rfl, trivial⟩ (h19 _ _ _ _ H)
def fX7_spreads_19 (F : Nat) (k2 : Sg → Int32 → Rs) : Nat → Sg → Int32 → Int32 → Int32 → Rs
  | 0 => fun _ _ _ _ => none
  | n + 1 => fun σ l2 l3 l4 => bX7_spreads_19 F k2 (fX7_spreads_19 F k2 n) σ l2 l3 l4
theorem wfX7_spreads_19 {x : FX} {g : GX} {ad : Nat → Nat} {ex M0 : va_W} {r : Int32} {τ : Sg} {F : Nat} (hX : RX x g M0 (Pv_ (HH g ad τ ++ ex)) 0 0) {k2 : Sg → Int32 → Rs} (h2 : ∀ (σ : Sg) (l1 : Int32), k2 σ l1 = some (r, τ) → Go x { frames := 0, cells := 0, slots := 0, locals := 0 } tX7_spreads g 2 [.ref (ad 24), .int l1, un_, un_, un_, un_] [] (HH g ad σ ++ ex) 0 0) : ∀ (n : Nat) (σ : Sg) (l2 : Int32) (l3 : Int32) (l4 : Int32), fX7_spreads_19 F k2 n σ l2 l3 l4 = some (r, τ) → Go x { frames := 0, cells := 0, slots := 0, locals := 0 } tX7_spreads g 19 [.ref (ad 24), un_, .int l2, .int l3, .int l4, un_] [] (HH g ad σ ++ ex) 0 0
  | 0, _, _, _, _, H => nomatch (show (none : Rs) = some _ from H)
  | n + 1, σ, l2, l3, l4, H => wbX7_spreads_19 (F := F) hX h2 (fun σ2 z2 z3 z4 H2 => wfX7_spreads_19 (F := F) hX h2 n σ2 z2 z3 z4 H2) σ l2 l3 l4 H
def bX7_spreads_2 (F : Nat) (k2 : Sg → Int32 → Rs) (σ : Sg) (l1 : Int32) : Rs := if l1 = (0 : Int32) then (some (0, σ)) else (fX7_spreads_19 F k2 F σ (σ.1 24) (σ.1 23) ((0 : Int32)))
set_option maxRecDepth 100000 in
set_option maxHeartbeats 4000000 in
theorem wbX7_spreads_2 {x : FX} {g : GX} {ad : Nat → Nat} {ex M0 : va_W} {r : Int32} {τ : Sg} {F : Nat} (hX : RX x g M0 (Pv_ (HH g ad τ ++ ex)) 0 0) {k2 : Sg → Int32 → Rs} (h2 : ∀ (σ : Sg) (l1 : Int32), k2 σ l1 = some (r, τ) → Go x { frames := 0, cells := 0, slots := 0, locals := 0 } tX7_spreads g 2 [.ref (ad 24), .int l1, un_, un_, un_, un_] [] (HH g ad σ ++ ex) 0 0) (σ : Sg) (l1 : Int32) (H : bX7_spreads_2 F k2 σ l1 = some (r, τ)) : Go x { frames := 0, cells := 0, slots := 0, locals := 0 } tX7_spreads g 2 [.ref (ad 24), .int l1, un_, un_, un_, un_] [] (HH g ad σ ++ ex) 0 0 := by
  unfold bX7_spreads_2 at H
  refine g_iload_n (q := 3) (i := 1) dX7_spreads_2 rfl rfl rfl ?_
  refine g_if_eq (q := 6) (r := 258) dX7_spreads_3 (by decide) rfl (fun c3 => ?_) (fun c3 => ?_)
  · replace H := (if_pos c3).symm.trans H
    exact g_vret hX dX7_spreads_258 rfl (Nat.le_refl _) (Nat.le_refl _) (pvOk H)
  · replace H := (if_neg c3).symm.trans H
    refine g_aload_n (q := 7) (i := 0) dX7_spreads_6 rfl rfl rfl ?_
    refine g_get (q := 10) dX7_spreads_7 rfl foX7_94 24 hc24 rfl ?_
    refine g_istore_n (q := 11) (L' := [.ref (ad 24), .int l1, .int (σ.1 24), un_, un_, un_]) (i := 2) dX7_spreads_10 rfl rfl (Nat.le_of_ble_eq_true rfl) rfl ?_
    refine g_aload_n (q := 12) (i := 0) dX7_spreads_11 rfl rfl rfl ?_
    refine g_get (q := 15) dX7_spreads_12 rfl foX7_91 24 hc24 rfl ?_
    refine g_istore_n (q := 16) (L' := [.ref (ad 24), .int l1, .int (σ.1 24), .int (σ.1 23), un_, un_]) (i := 3) dX7_spreads_15 rfl rfl (Nat.le_of_ble_eq_true rfl) rfl ?_
    refine g_iconst (q := 17) (v := 0) dX7_spreads_16 rfl (by decide) ?_
    refine g_istore (q := 19) (L' := [.ref (ad 24), .int l1, .int (σ.1 24), .int (σ.1 23), .int ((0 : Int32)), un_]) dX7_spreads_17 rfl (Nat.le_of_ble_eq_true rfl) rfl ?_
    exact g_weak (L' := [.ref (ad 24), un_, .int (σ.1 24), .int (σ.1 23), .int ((0 : Int32)), un_]) ⟨Or.inr rfl, Or.inl rfl, Or.inr rfl, Or.inr rfl, Or.inr rfl, Or.inl rfl, trivial⟩ (wfX7_spreads_19 (F := F) hX h2 F _ _ _ _ H)
def fX7_spreads_2 (F : Nat)  : Nat → Sg → Int32 → Rs
  | 0 => fun _ _ => none
  | n + 1 => fun σ l1 => bX7_spreads_2 F  (fX7_spreads_2 F  n) σ l1
theorem wfX7_spreads_2 {x : FX} {g : GX} {ad : Nat → Nat} {ex M0 : va_W} {r : Int32} {τ : Sg} {F : Nat} (hX : RX x g M0 (Pv_ (HH g ad τ ++ ex)) 0 0)   : ∀ (n : Nat) (σ : Sg) (l1 : Int32), fX7_spreads_2 F  n σ l1 = some (r, τ) → Go x { frames := 0, cells := 0, slots := 0, locals := 0 } tX7_spreads g 2 [.ref (ad 24), .int l1, un_, un_, un_, un_] [] (HH g ad σ ++ ex) 0 0
  | 0, _, _, H => nomatch (show (none : Rs) = some _ from H)
  | n + 1, σ, l1, H => wbX7_spreads_2 (F := F) hX  (fun σ2 z1 H2 => wfX7_spreads_2 (F := F) hX  n σ2 z1 H2) σ l1 H
def fX7_spreads (F : Nat) (σ : Sg)  : Rs := fX7_spreads_2 F F σ ((1 : Int32))
set_option maxRecDepth 100000 in
set_option maxHeartbeats 4000000 in
theorem ctX7_spreads {l : Launch} {g : GX} {ad : Nat → Nat} {ex : va_W} {r : Int32} {τ σ : Sg} {F : Nat}  (H : fX7_spreads F σ  = some (r, τ)) : Ct l g yX7_spreads tX7_spreads 0 0 0 0 [.ref (ad 24)] (HH g ad σ ++ ex) (Pv_ (HH g ad τ ++ ex)) := by
  refine Ct.of (L := [.ref (ad 24), un_, un_, un_, un_, un_]) (by decide +kernel) rfl rfl rfl (Nat.le_of_ble_eq_true rfl) rfl (fun x _ hX => ?_)
  unfold fX7_spreads at H
  refine g_iconst (q := 1) (v := 1) dX7_spreads_0 rfl (by decide) ?_
  refine g_istore_n (q := 2) (L' := [.ref (ad 24), .int ((1 : Int32)), un_, un_, un_, un_]) (i := 1) dX7_spreads_1 rfl rfl (Nat.le_of_ble_eq_true rfl) rfl ?_
  exact g_weak (L' := [.ref (ad 24), .int ((1 : Int32)), un_, un_, un_, un_]) ⟨Or.inr rfl, Or.inr rfl, Or.inl rfl, Or.inl rfl, Or.inl rfl, Or.inl rfl, trivial⟩ (wfX7_spreads_2 (F := F) hX  F _ _ H)
def bX7_settles_75 (F : Nat) (k75 : Sg → Int32 → Rs) (σ : Sg) (l2 : Int32) : Rs := if (σ.1 21) ≤ l2 then ((fX7_spreads F σ).bind fun q1 => (fun (r1 : Int32) (σ1 : Sg) => some (0, σ1)) q1.1 q1.2) else (if ib l2 12 then (if (σ.2.1 29 l2.toNatClampNeg) ≤ (0 : Int32) then (k75 σ (l2 + 1)) else (ls_ (sv σ 23 ((σ.1 23) &&& (((1 : Int32) <<< (l2 &&& 31)) ^^^ (-1 : Int32)))) fun σ2 => k75 σ2 (l2 + 1))) else none)
set_option maxRecDepth 100000 in
set_option maxHeartbeats 4000000 in
theorem wbX7_settles_75 {x : FX} {g : GX} {ad : Nat → Nat} {ex M0 : va_W} {r : Int32} {τ : Sg} {F : Nat} (hX : RX x g M0 (Pv_ (HH g ad τ ++ ex)) 0 0) {k75 : Sg → Int32 → Rs} (h75 : ∀ (σ : Sg) (l2 : Int32), k75 σ l2 = some (r, τ) → Go x { frames := 1, cells := 0, slots := 0, locals := 25 } tX7_settles g 75 [.ref (ad 24), un_, .int l2] [] (HH g ad σ ++ ex) 0 0) (σ : Sg) (l2 : Int32) (H : bX7_settles_75 F k75 σ l2 = some (r, τ)) : Go x { frames := 1, cells := 0, slots := 0, locals := 25 } tX7_settles g 75 [.ref (ad 24), un_, .int l2] [] (HH g ad σ ++ ex) 0 0 := by
  unfold bX7_settles_75 at H
  refine g_iload_n (q := 76) (i := 2) dX7_settles_75 rfl rfl rfl ?_
  refine g_aload_n (q := 77) (i := 0) dX7_settles_76 rfl rfl rfl ?_
  refine g_get (q := 80) dX7_settles_77 rfl foX7_68 24 hc24 rfl ?_
  refine g_icmp_ge (q := 83) (r := 112) dX7_settles_80 (by decide) rfl (fun c80 => ?_) (fun c80 => ?_)
  · replace H := (if_pos c80).symm.trans H
    refine g_aload_n (q := 113) (i := 0) dX7_settles_112 rfl rfl rfl ?_
    obtain ⟨r1, σ1, e1, H⟩ := of_bnd H
    refine g_callV (q := 116) (rest := []) dX7_settles_113 rfl cvX7_97 (ctX7_spreads e1) rfl rfl ⟨Nat.le_of_ble_eq_true rfl, Nat.le_of_ble_eq_true rfl⟩ ⟨Nat.le_refl _, Nat.le_refl _⟩ (Nat.le_of_ble_eq_true rfl) 24 hc24 rfl (fun r0 M9 hp => ?_)
    obtain ⟨rfl, rfl⟩ := hp
    show Go x _ _ g 116 [.ref (ad 24), un_, .int l2] [] (HH g ad σ1 ++ ex) 0 0
    exact g_vret hX dX7_settles_116 rfl (Nat.le_refl _) (Nat.le_refl _) (pvOk H)
  · replace H := (if_neg c80).symm.trans H
    refine g_aload_n (q := 84) (i := 0) dX7_settles_83 rfl rfl rfl ?_
    refine g_get (q := 87) dX7_settles_84 rfl foX7_23 24 hc24 rfl ?_
    refine g_iload_n (q := 88) (i := 2) dX7_settles_87 rfl rfl rfl ?_
    obtain ⟨b88, H⟩ := of_chk H
    refine g_iald (q := 89) dX7_settles_88 rfl 29 hc29 b88 ?_
    refine g_if_le (q := 92) (r := 106) dX7_settles_89 (by decide) rfl (fun c89 => ?_) (fun c89 => ?_)
    · replace H := (if_pos c89).symm.trans H
      refine g_iinc (q := 109) (b := l2 + 1) (L' := [.ref (ad 24), un_, .int (l2 + 1)]) dX7_settles_106 rfl rfl rfl (Nat.le_of_ble_eq_true rfl) rfl ?_
      refine g_goto (q := 75) dX7_settles_109 (by decide) ?_
      exact g_weak (L' := [.ref (ad 24), un_, .int (l2 + 1)]) ⟨Or.inr rfl, Or.inl rfl, Or.inr rfl, trivial⟩ (h75 _ _ H)
    · replace H := (if_neg c89).symm.trans H
      refine g_aload_n (q := 93) (i := 0) dX7_settles_92 rfl rfl rfl ?_
      refine g_aload_n (q := 94) (i := 0) dX7_settles_93 rfl rfl rfl ?_
      refine g_get (q := 97) dX7_settles_94 rfl foX7_91 24 hc24 rfl ?_
      refine g_iconst (q := 98) (v := 1) dX7_settles_97 rfl (by decide) ?_
      refine g_iload_n (q := 99) (i := 2) dX7_settles_98 rfl rfl rfl ?_
      refine g_ishl (q := 100) dX7_settles_99 rfl ?_
      refine g_iconst (q := 101) (v := -1) dX7_settles_100 rfl (by decide) ?_
      refine g_ixor (q := 102) dX7_settles_101 rfl ?_
      refine g_iand (q := 103) dX7_settles_102 rfl ?_
      obtain ⟨σ2, n2, H⟩ := of_ls H
      refine g_put (q := 106) dX7_settles_103 rfl (fpX7_91 _) 24 hc24 rfl rfl (Nat.le_of_ble_eq_true rfl) (hs23e n2) ?_
      refine g_iinc (q := 109) (b := l2 + 1) (L' := [.ref (ad 24), un_, .int (l2 + 1)]) dX7_settles_106 rfl rfl rfl (Nat.le_of_ble_eq_true rfl) rfl ?_
      refine g_goto (q := 75) dX7_settles_109 (by decide) ?_
      exact g_weak (L' := [.ref (ad 24), un_, .int (l2 + 1)]) ⟨Or.inr rfl, Or.inl rfl, Or.inr rfl, trivial⟩ (h75 _ _ H)
def fX7_settles_75 (F : Nat)  : Nat → Sg → Int32 → Rs
  | 0 => fun _ _ => none
  | n + 1 => fun σ l2 => bX7_settles_75 F  (fX7_settles_75 F  n) σ l2
theorem wfX7_settles_75 {x : FX} {g : GX} {ad : Nat → Nat} {ex M0 : va_W} {r : Int32} {τ : Sg} {F : Nat} (hX : RX x g M0 (Pv_ (HH g ad τ ++ ex)) 0 0)   : ∀ (n : Nat) (σ : Sg) (l2 : Int32), fX7_settles_75 F  n σ l2 = some (r, τ) → Go x { frames := 1, cells := 0, slots := 0, locals := 25 } tX7_settles g 75 [.ref (ad 24), un_, .int l2] [] (HH g ad σ ++ ex) 0 0
  | 0, _, _, H => nomatch (show (none : Rs) = some _ from H)
  | n + 1, σ, l2, H => wbX7_settles_75 (F := F) hX  (fun σ2 z2 H2 => wfX7_settles_75 (F := F) hX  n σ2 z2 H2) σ l2 H
def bX7_settles_53 (F : Nat) (k2 : Sg → Int32 → Int32 → Rs) (σ : Sg) (l1 : Int32) (l2 : Int32) : Rs := ls_ (sv σ 24 ((σ.1 24) &&& (((1 : Int32) <<< (l2 &&& 31)) ^^^ (-1 : Int32)))) fun σ1 => k2 σ1 (l1) (l2 + 1)
set_option maxRecDepth 100000 in
set_option maxHeartbeats 4000000 in
theorem wbX7_settles_53 {x : FX} {g : GX} {ad : Nat → Nat} {ex M0 : va_W} {r : Int32} {τ : Sg} {F : Nat} (hX : RX x g M0 (Pv_ (HH g ad τ ++ ex)) 0 0) {k2 : Sg → Int32 → Int32 → Rs} (h2 : ∀ (σ : Sg) (l1 : Int32) (l2 : Int32), k2 σ l1 l2 = some (r, τ) → Go x { frames := 1, cells := 0, slots := 0, locals := 25 } tX7_settles g 2 [.ref (ad 24), .int l1, .int l2] [] (HH g ad σ ++ ex) 0 0) (σ : Sg) (l1 : Int32) (l2 : Int32) (H : bX7_settles_53 F k2 σ l1 l2 = some (r, τ)) : Go x { frames := 1, cells := 0, slots := 0, locals := 25 } tX7_settles g 53 [.ref (ad 24), .int l1, .int l2] [] (HH g ad σ ++ ex) 0 0 := by
  unfold bX7_settles_53 at H
  refine g_aload_n (q := 54) (i := 0) dX7_settles_53 rfl rfl rfl ?_
  refine g_aload_n (q := 55) (i := 0) dX7_settles_54 rfl rfl rfl ?_
  refine g_get (q := 58) dX7_settles_55 rfl foX7_94 24 hc24 rfl ?_
  refine g_iconst (q := 59) (v := 1) dX7_settles_58 rfl (by decide) ?_
  refine g_iload_n (q := 60) (i := 2) dX7_settles_59 rfl rfl rfl ?_
  refine g_ishl (q := 61) dX7_settles_60 rfl ?_
  refine g_iconst (q := 62) (v := -1) dX7_settles_61 rfl (by decide) ?_
  refine g_ixor (q := 63) dX7_settles_62 rfl ?_
  refine g_iand (q := 64) dX7_settles_63 rfl ?_
  obtain ⟨σ1, n1, H⟩ := of_ls H
  refine g_put (q := 67) dX7_settles_64 rfl (fpX7_94 _) 24 hc24 rfl rfl (Nat.le_of_ble_eq_true rfl) (hs24e n1) ?_
  refine g_iinc (q := 70) (b := l2 + 1) (L' := [.ref (ad 24), .int l1, .int (l2 + 1)]) dX7_settles_67 rfl rfl rfl (Nat.le_of_ble_eq_true rfl) rfl ?_
  refine g_goto (q := 2) dX7_settles_70 (by decide) ?_
  exact g_weak (L' := [.ref (ad 24), .int l1, .int (l2 + 1)]) ⟨Or.inr rfl, Or.inr rfl, Or.inr rfl, trivial⟩ (h2 _ _ _ H)
def bX7_settles_2 (F : Nat) (k2 : Sg → Int32 → Int32 → Rs) (σ : Sg) (l1 : Int32) (l2 : Int32) : Rs := if (18 : Int32) ≤ l2 then (fX7_settles_75 F F σ ((0 : Int32))) else (if ib l2 18 then (if (σ.2.1 27 l2.toNatClampNeg) = (0 : Int32) then (k2 σ (l1) (l2 + 1)) else (if l2 = l1 then (bX7_settles_53 F k2 σ (l1) (l2)) else (if ib l2 18 then (if ib (σ.2.1 25 l2.toNatClampNeg) 12 then (if (σ.2.1 29 (σ.2.1 25 l2.toNatClampNeg).toNatClampNeg) ≤ (0 : Int32) then (k2 σ (l1) (l2 + 1)) else (if ib l2 18 then (if ib (σ.2.1 26 l2.toNatClampNeg) 12 then (if (σ.2.1 29 (σ.2.1 26 l2.toNatClampNeg).toNatClampNeg) ≤ (0 : Int32) then (k2 σ (l1) (l2 + 1)) else (bX7_settles_53 F k2 σ (l1) (l2))) else none) else none)) else none) else none))) else none)
set_option maxRecDepth 100000 in
set_option maxHeartbeats 4000000 in
theorem wbX7_settles_2 {x : FX} {g : GX} {ad : Nat → Nat} {ex M0 : va_W} {r : Int32} {τ : Sg} {F : Nat} (hX : RX x g M0 (Pv_ (HH g ad τ ++ ex)) 0 0) {k2 : Sg → Int32 → Int32 → Rs} (h2 : ∀ (σ : Sg) (l1 : Int32) (l2 : Int32), k2 σ l1 l2 = some (r, τ) → Go x { frames := 1, cells := 0, slots := 0, locals := 25 } tX7_settles g 2 [.ref (ad 24), .int l1, .int l2] [] (HH g ad σ ++ ex) 0 0) (σ : Sg) (l1 : Int32) (l2 : Int32) (H : bX7_settles_2 F k2 σ l1 l2 = some (r, τ)) : Go x { frames := 1, cells := 0, slots := 0, locals := 25 } tX7_settles g 2 [.ref (ad 24), .int l1, .int l2] [] (HH g ad σ ++ ex) 0 0 := by
  unfold bX7_settles_2 at H
  refine g_iload_n (q := 3) (i := 2) dX7_settles_2 rfl rfl rfl ?_
  refine g_bipush (q := 5) (v := 18) dX7_settles_3 rfl (by decide) ?_
  refine g_icmp_ge (q := 8) (r := 73) dX7_settles_5 (by decide) rfl (fun c5 => ?_) (fun c5 => ?_)
  · replace H := (if_pos c5).symm.trans H
    refine g_iconst (q := 74) (v := 0) dX7_settles_73 rfl (by decide) ?_
    refine g_istore_n (q := 75) (L' := [.ref (ad 24), .int l1, .int ((0 : Int32))]) (i := 2) dX7_settles_74 rfl rfl (Nat.le_of_ble_eq_true rfl) rfl ?_
    exact g_weak (L' := [.ref (ad 24), un_, .int ((0 : Int32))]) ⟨Or.inr rfl, Or.inl rfl, Or.inr rfl, trivial⟩ (wfX7_settles_75 (F := F) hX  F _ _ H)
  · replace H := (if_neg c5).symm.trans H
    refine g_aload_n (q := 9) (i := 0) dX7_settles_8 rfl rfl rfl ?_
    refine g_get (q := 12) dX7_settles_9 rfl foX7_16 24 hc24 rfl ?_
    refine g_iload_n (q := 13) (i := 2) dX7_settles_12 rfl rfl rfl ?_
    obtain ⟨b13, H⟩ := of_chk H
    refine g_zald (q := 14) dX7_settles_13 rfl 27 hc27 b13 ?_
    refine g_if_ne (q := 17) (r := 20) dX7_settles_14 (by decide) rfl (fun c14 => ?_) (fun c14 => ?_)
    · replace H := (if_neg c14).symm.trans H
      refine g_iload_n (q := 21) (i := 2) dX7_settles_20 rfl rfl rfl ?_
      refine g_iload_n (q := 22) (i := 1) dX7_settles_21 rfl rfl rfl ?_
      refine g_icmp_eq (q := 25) (r := 53) dX7_settles_22 (by decide) rfl (fun c22 => ?_) (fun c22 => ?_)
      · replace H := (if_pos c22).symm.trans H
        exact g_weak (L' := [.ref (ad 24), .int l1, .int l2]) ⟨Or.inr rfl, Or.inr rfl, Or.inr rfl, trivial⟩ (wbX7_settles_53 (F := F) hX h2 _ _ _ H)
      · replace H := (if_neg c22).symm.trans H
        refine g_aload_n (q := 26) (i := 0) dX7_settles_25 rfl rfl rfl ?_
        refine g_get (q := 29) dX7_settles_26 rfl foX7_23 24 hc24 rfl ?_
        refine g_aload_n (q := 30) (i := 0) dX7_settles_29 rfl rfl rfl ?_
        refine g_get (q := 33) dX7_settles_30 rfl foX7_7 24 hc24 rfl ?_
        refine g_iload_n (q := 34) (i := 2) dX7_settles_33 rfl rfl rfl ?_
        obtain ⟨b34, H⟩ := of_chk H
        refine g_iald (q := 35) dX7_settles_34 rfl 25 hc25 b34 ?_
        obtain ⟨b35, H⟩ := of_chk H
        refine g_iald (q := 36) dX7_settles_35 rfl 29 hc29 b35 ?_
        refine g_if_le (q := 39) (r := 67) dX7_settles_36 (by decide) rfl (fun c36 => ?_) (fun c36 => ?_)
        · replace H := (if_pos c36).symm.trans H
          refine g_iinc (q := 70) (b := l2 + 1) (L' := [.ref (ad 24), .int l1, .int (l2 + 1)]) dX7_settles_67 rfl rfl rfl (Nat.le_of_ble_eq_true rfl) rfl ?_
          refine g_goto (q := 2) dX7_settles_70 (by decide) ?_
          exact g_weak (L' := [.ref (ad 24), .int l1, .int (l2 + 1)]) ⟨Or.inr rfl, Or.inr rfl, Or.inr rfl, trivial⟩ (h2 _ _ _ H)
        · replace H := (if_neg c36).symm.trans H
          refine g_aload_n (q := 40) (i := 0) dX7_settles_39 rfl rfl rfl ?_
          refine g_get (q := 43) dX7_settles_40 rfl foX7_23 24 hc24 rfl ?_
          refine g_aload_n (q := 44) (i := 0) dX7_settles_43 rfl rfl rfl ?_
          refine g_get (q := 47) dX7_settles_44 rfl foX7_13 24 hc24 rfl ?_
          refine g_iload_n (q := 48) (i := 2) dX7_settles_47 rfl rfl rfl ?_
          obtain ⟨b48, H⟩ := of_chk H
          refine g_iald (q := 49) dX7_settles_48 rfl 26 hc26 b48 ?_
          obtain ⟨b49, H⟩ := of_chk H
          refine g_iald (q := 50) dX7_settles_49 rfl 29 hc29 b49 ?_
          refine g_if_le (q := 53) (r := 67) dX7_settles_50 (by decide) rfl (fun c50 => ?_) (fun c50 => ?_)
          · replace H := (if_pos c50).symm.trans H
            refine g_iinc (q := 70) (b := l2 + 1) (L' := [.ref (ad 24), .int l1, .int (l2 + 1)]) dX7_settles_67 rfl rfl rfl (Nat.le_of_ble_eq_true rfl) rfl ?_
            refine g_goto (q := 2) dX7_settles_70 (by decide) ?_
            exact g_weak (L' := [.ref (ad 24), .int l1, .int (l2 + 1)]) ⟨Or.inr rfl, Or.inr rfl, Or.inr rfl, trivial⟩ (h2 _ _ _ H)
          · replace H := (if_neg c50).symm.trans H
            exact g_weak (L' := [.ref (ad 24), .int l1, .int l2]) ⟨Or.inr rfl, Or.inr rfl, Or.inr rfl, trivial⟩ (wbX7_settles_53 (F := F) hX h2 _ _ _ H)
    · replace H := (if_pos c14).symm.trans H
      refine g_goto (q := 67) dX7_settles_17 (by decide) ?_
      refine g_iinc (q := 70) (b := l2 + 1) (L' := [.ref (ad 24), .int l1, .int (l2 + 1)]) dX7_settles_67 rfl rfl rfl (Nat.le_of_ble_eq_true rfl) rfl ?_
      refine g_goto (q := 2) dX7_settles_70 (by decide) ?_
      exact g_weak (L' := [.ref (ad 24), .int l1, .int (l2 + 1)]) ⟨Or.inr rfl, Or.inr rfl, Or.inr rfl, trivial⟩ (h2 _ _ _ H)
def fX7_settles_2 (F : Nat)  : Nat → Sg → Int32 → Int32 → Rs
  | 0 => fun _ _ _ => none
  | n + 1 => fun σ l1 l2 => bX7_settles_2 F  (fX7_settles_2 F  n) σ l1 l2
theorem wfX7_settles_2 {x : FX} {g : GX} {ad : Nat → Nat} {ex M0 : va_W} {r : Int32} {τ : Sg} {F : Nat} (hX : RX x g M0 (Pv_ (HH g ad τ ++ ex)) 0 0)   : ∀ (n : Nat) (σ : Sg) (l1 : Int32) (l2 : Int32), fX7_settles_2 F  n σ l1 l2 = some (r, τ) → Go x { frames := 1, cells := 0, slots := 0, locals := 25 } tX7_settles g 2 [.ref (ad 24), .int l1, .int l2] [] (HH g ad σ ++ ex) 0 0
  | 0, _, _, _, H => nomatch (show (none : Rs) = some _ from H)
  | n + 1, σ, l1, l2, H => wbX7_settles_2 (F := F) hX  (fun σ2 z1 z2 H2 => wfX7_settles_2 (F := F) hX  n σ2 z1 z2 H2) σ l1 l2 H
def fX7_settles (F : Nat) (σ : Sg) (l1 : Int32) : Rs := fX7_settles_2 F F σ (l1) ((0 : Int32))
set_option maxRecDepth 100000 in
set_option maxHeartbeats 4000000 in
theorem ctX7_settles {l : Launch} {g : GX} {ad : Nat → Nat} {ex : va_W} {r : Int32} {τ σ : Sg} {F : Nat} {l1 : Int32} (H : fX7_settles F σ l1 = some (r, τ)) : Ct l g yX7_settles tX7_settles 1 25 0 0 [.ref (ad 24), .int l1] (HH g ad σ ++ ex) (Pv_ (HH g ad τ ++ ex)) := by
  refine Ct.of (L := [.ref (ad 24), .int l1, un_]) (by decide +kernel) rfl rfl rfl (Nat.le_of_ble_eq_true rfl) rfl (fun x _ hX => ?_)
  unfold fX7_settles at H
  refine g_iconst (q := 1) (v := 0) dX7_settles_0 rfl (by decide) ?_
  refine g_istore_n (q := 2) (L' := [.ref (ad 24), .int l1, .int ((0 : Int32))]) (i := 2) dX7_settles_1 rfl rfl (Nat.le_of_ble_eq_true rfl) rfl ?_
  exact g_weak (L' := [.ref (ad 24), .int l1, .int ((0 : Int32))]) ⟨Or.inr rfl, Or.inr rfl, Or.inr rfl, trivial⟩ (wfX7_settles_2 (F := F) hX  F _ _ _ H)
def fX7_other (F : Nat) (σ : Sg) (l1 : Int32) (l2 : Int32) : Rs := if ib l1 18 then (if (σ.2.1 25 l1.toNatClampNeg) = l2 then (if ib l1 18 then (some (σ.2.1 26 l1.toNatClampNeg, σ)) else none) else (if ib l1 18 then (some (σ.2.1 25 l1.toNatClampNeg, σ)) else none)) else none
set_option maxRecDepth 100000 in
set_option maxHeartbeats 4000000 in
theorem ctX7_other {l : Launch} {g : GX} {ad : Nat → Nat} {ex : va_W} {r : Int32} {τ σ : Sg} {F : Nat} {l1 : Int32} {l2 : Int32} (H : fX7_other F σ l1 l2 = some (r, τ)) : Ct l g yX7_other tX7_other 0 0 0 0 [.ref (ad 24), .int l1, .int l2] (HH g ad σ ++ ex) (Pi_ r (HH g ad τ ++ ex)) := by
  refine Ct.of (L := [.ref (ad 24), .int l1, .int l2]) (by decide +kernel) rfl rfl rfl (Nat.le_of_ble_eq_true rfl) rfl (fun x _ hX => ?_)
  unfold fX7_other at H
  refine g_aload_n (q := 1) (i := 0) dX7_other_0 rfl rfl rfl ?_
  refine g_get (q := 4) dX7_other_1 rfl foX7_7 24 hc24 rfl ?_
  refine g_iload_n (q := 5) (i := 1) dX7_other_4 rfl rfl rfl ?_
  obtain ⟨b5, H⟩ := of_chk H
  refine g_iald (q := 6) dX7_other_5 rfl 25 hc25 b5 ?_
  refine g_iload_n (q := 7) (i := 2) dX7_other_6 rfl rfl rfl ?_
  refine g_icmp_ne (q := 10) (r := 19) dX7_other_7 (by decide) rfl (fun c7 => ?_) (fun c7 => ?_)
  · replace H := (if_neg c7).symm.trans H
    refine g_aload_n (q := 20) (i := 0) dX7_other_19 rfl rfl rfl ?_
    refine g_get (q := 23) dX7_other_20 rfl foX7_7 24 hc24 rfl ?_
    refine g_iload_n (q := 24) (i := 1) dX7_other_23 rfl rfl rfl ?_
    obtain ⟨b24, H⟩ := of_chk H
    refine g_iald (q := 25) dX7_other_24 rfl 25 hc25 b24 ?_
    exact g_iret hX dX7_other_25 rfl rfl (Nat.le_refl _) (Nat.le_refl _) (piOk H)
  · replace H := (if_pos c7).symm.trans H
    refine g_aload_n (q := 11) (i := 0) dX7_other_10 rfl rfl rfl ?_
    refine g_get (q := 14) dX7_other_11 rfl foX7_13 24 hc24 rfl ?_
    refine g_iload_n (q := 15) (i := 1) dX7_other_14 rfl rfl rfl ?_
    obtain ⟨b15, H⟩ := of_chk H
    refine g_iald (q := 16) dX7_other_15 rfl 26 hc26 b15 ?_
    refine g_goto (q := 25) dX7_other_16 (by decide) ?_
    exact g_iret hX dX7_other_25 rfl rfl (Nat.le_refl _) (Nat.le_refl _) (piOk H)
def bX7_does_80 (F : Nat)  (σ : Sg) (l1 : Int32) (l3 : Int32) : Rs := if l1 = (2 : Int32) then ((fX7_settles F σ l3).bind fun q2 => (fun (r2 : Int32) (σ2 : Sg) => some (0, σ2)) q2.1 q2.2) else ((fX7_settles F σ ((-1 : Int32))).bind fun q1 => (fun (r1 : Int32) (σ1 : Sg) => some (0, σ1)) q1.1 q1.2)
set_option maxRecDepth 100000 in
set_option maxHeartbeats 4000000 in
theorem wbX7_does_80 {x : FX} {g : GX} {ad : Nat → Nat} {ex M0 : va_W} {r : Int32} {τ : Sg} {F : Nat} (hX : RX x g M0 (Pv_ (HH g ad τ ++ ex)) 0 0)   (σ : Sg) (l1 : Int32) (l3 : Int32) (H : bX7_does_80 F  σ l1 l3 = some (r, τ)) : Go x { frames := 2, cells := 0, slots := 0, locals := 47 } tX7_does g 80 [.ref (ad 24), .int l1, un_, .int l3] [] (HH g ad σ ++ ex) 0 0 := by
  unfold bX7_does_80 at H
  refine g_aload_n (q := 81) (i := 0) dX7_does_80 rfl rfl rfl ?_
  refine g_iload_n (q := 82) (i := 1) dX7_does_81 rfl rfl rfl ?_
  refine g_iconst (q := 83) (v := 2) dX7_does_82 rfl (by decide) ?_
  refine g_icmp_ne (q := 86) (r := 90) dX7_does_83 (by decide) rfl (fun c83 => ?_) (fun c83 => ?_)
  · replace H := (if_neg c83).symm.trans H
    refine g_iconst (q := 91) (v := -1) dX7_does_90 rfl (by decide) ?_
    obtain ⟨r1, σ1, e1, H⟩ := of_bnd H
    refine g_callV (q := 94) (rest := []) dX7_does_91 rfl cvX7_103 (ctX7_settles e1) rfl rfl ⟨Nat.le_of_ble_eq_true rfl, Nat.le_of_ble_eq_true rfl⟩ ⟨Nat.le_refl _, Nat.le_refl _⟩ (Nat.le_of_ble_eq_true rfl) 24 hc24 rfl (fun r0 M9 hp => ?_)
    obtain ⟨rfl, rfl⟩ := hp
    show Go x _ _ g 94 [.ref (ad 24), .int l1, un_, .int l3] [] (HH g ad σ1 ++ ex) 0 0
    exact g_vret hX dX7_does_94 rfl (Nat.le_refl _) (Nat.le_refl _) (pvOk H)
  · replace H := (if_pos c83).symm.trans H
    refine g_iload_n (q := 87) (i := 3) dX7_does_86 rfl rfl rfl ?_
    refine g_goto (q := 91) dX7_does_87 (by decide) ?_
    obtain ⟨r2, σ2, e2, H⟩ := of_bnd H
    refine g_callV (q := 94) (rest := []) dX7_does_91 rfl cvX7_103 (ctX7_settles e2) rfl rfl ⟨Nat.le_of_ble_eq_true rfl, Nat.le_of_ble_eq_true rfl⟩ ⟨Nat.le_refl _, Nat.le_refl _⟩ (Nat.le_of_ble_eq_true rfl) 24 hc24 rfl (fun r0 M9 hp => ?_)
    obtain ⟨rfl, rfl⟩ := hp
    show Go x _ _ g 94 [.ref (ad 24), .int l1, un_, .int l3] [] (HH g ad σ2 ++ ex) 0 0
    exact g_vret hX dX7_does_94 rfl (Nat.le_refl _) (Nat.le_refl _) (pvOk H)
def bX7_does_37 (F : Nat)  (σ : Sg) (l1 : Int32) (l2 : Int32) (l3 : Int32) : Rs := if l1 = (2 : Int32) then (if ib l2 12 then (if ib l2 12 then (ls_ (sa σ 29 l2.toNatClampNeg ((σ.2.1 29 l2.toNatClampNeg) - (1 : Int32))) fun σ1 => (fX7_other F σ1 l3 l2).bind fun q2 => (fun (r2 : Int32) (σ2 : Sg) => (fX7_other F σ2 l3 l2).bind fun q3 => (fun (r3 : Int32) (σ3 : Sg) => if ib r3 12 then (if ib r2 12 then (ls_ (sa σ3 29 r2.toNatClampNeg ((σ3.2.1 29 r3.toNatClampNeg) + (1 : Int32))) fun σ4 => bX7_does_80 F σ4 (l1) (l3)) else none) else none) q3.1 q3.2) q2.1 q2.2) else none) else none) else (bX7_does_80 F σ (l1) (l3))
set_option maxRecDepth 100000 in
set_option maxHeartbeats 4000000 in
theorem wbX7_does_37 {x : FX} {g : GX} {ad : Nat → Nat} {ex M0 : va_W} {r : Int32} {τ : Sg} {F : Nat} (hX : RX x g M0 (Pv_ (HH g ad τ ++ ex)) 0 0)   (σ : Sg) (l1 : Int32) (l2 : Int32) (l3 : Int32) (H : bX7_does_37 F  σ l1 l2 l3 = some (r, τ)) : Go x { frames := 2, cells := 0, slots := 0, locals := 47 } tX7_does g 37 [.ref (ad 24), .int l1, .int l2, .int l3] [] (HH g ad σ ++ ex) 0 0 := by
  unfold bX7_does_37 at H
  refine g_iload_n (q := 38) (i := 1) dX7_does_37 rfl rfl rfl ?_
  refine g_iconst (q := 39) (v := 2) dX7_does_38 rfl (by decide) ?_
  refine g_icmp_ne (q := 42) (r := 80) dX7_does_39 (by decide) rfl (fun c39 => ?_) (fun c39 => ?_)
  · replace H := (if_neg c39).symm.trans H
    exact g_weak (L' := [.ref (ad 24), .int l1, un_, .int l3]) ⟨Or.inr rfl, Or.inr rfl, Or.inl rfl, Or.inr rfl, trivial⟩ (wbX7_does_80 (F := F) hX  _ _ _ H)
  · replace H := (if_pos c39).symm.trans H
    refine g_aload_n (q := 43) (i := 0) dX7_does_42 rfl rfl rfl ?_
    refine g_get (q := 46) dX7_does_43 rfl foX7_23 24 hc24 rfl ?_
    refine g_iload_n (q := 47) (i := 2) dX7_does_46 rfl rfl rfl ?_
    refine g_aload_n (q := 48) (i := 0) dX7_does_47 rfl rfl rfl ?_
    refine g_get (q := 51) dX7_does_48 rfl foX7_23 24 hc24 rfl ?_
    refine g_iload_n (q := 52) (i := 2) dX7_does_51 rfl rfl rfl ?_
    obtain ⟨b52, H⟩ := of_chk H
    refine g_iald (q := 53) dX7_does_52 rfl 29 hc29 b52 ?_
    refine g_iconst (q := 54) (v := 1) dX7_does_53 rfl (by decide) ?_
    refine g_isub (q := 55) dX7_does_54 rfl ?_
    obtain ⟨b55, H⟩ := of_chk H
    obtain ⟨σ1, n1, H⟩ := of_ls H
    refine g_iast (q := 56) dX7_does_55 rfl 29 hc29 b55 (ha29e n1) ?_
    refine g_aload_n (q := 57) (i := 0) dX7_does_56 rfl rfl rfl ?_
    refine g_get (q := 60) dX7_does_57 rfl foX7_23 24 hc24 rfl ?_
    refine g_aload_n (q := 61) (i := 0) dX7_does_60 rfl rfl rfl ?_
    refine g_iload_n (q := 62) (i := 3) dX7_does_61 rfl rfl rfl ?_
    refine g_iload_n (q := 63) (i := 2) dX7_does_62 rfl rfl rfl ?_
    obtain ⟨r2, σ2, e2, H⟩ := of_bnd H
    refine g_callV (q := 66) (rest := [.ref (ad 29)]) dX7_does_63 rfl cvX7_100 (ctX7_other e2) rfl rfl ⟨Nat.le_of_ble_eq_true rfl, Nat.le_of_ble_eq_true rfl⟩ ⟨Nat.le_refl _, Nat.le_refl _⟩ (Nat.le_of_ble_eq_true rfl) 24 hc24 rfl (fun r0 M9 hp => ?_)
    obtain ⟨rfl, rfl⟩ := hp
    show Go x _ _ g 66 [.ref (ad 24), .int l1, .int l2, .int l3] [.int r2, .ref (ad 29)] (HH g ad σ2 ++ ex) 0 0
    refine g_aload_n (q := 67) (i := 0) dX7_does_66 rfl rfl rfl ?_
    refine g_get (q := 70) dX7_does_67 rfl foX7_23 24 hc24 rfl ?_
    refine g_aload_n (q := 71) (i := 0) dX7_does_70 rfl rfl rfl ?_
    refine g_iload_n (q := 72) (i := 3) dX7_does_71 rfl rfl rfl ?_
    refine g_iload_n (q := 73) (i := 2) dX7_does_72 rfl rfl rfl ?_
    obtain ⟨r3, σ3, e3, H⟩ := of_bnd H
    refine g_callV (q := 76) (rest := [.ref (ad 29), .int r2, .ref (ad 29)]) dX7_does_73 rfl cvX7_100 (ctX7_other e3) rfl rfl ⟨Nat.le_of_ble_eq_true rfl, Nat.le_of_ble_eq_true rfl⟩ ⟨Nat.le_refl _, Nat.le_refl _⟩ (Nat.le_of_ble_eq_true rfl) 24 hc24 rfl (fun r0 M9 hp => ?_)
    obtain ⟨rfl, rfl⟩ := hp
    show Go x _ _ g 76 [.ref (ad 24), .int l1, .int l2, .int l3] [.int r3, .ref (ad 29), .int r2, .ref (ad 29)] (HH g ad σ3 ++ ex) 0 0
    obtain ⟨b76, H⟩ := of_chk H
    refine g_iald (q := 77) dX7_does_76 rfl 29 hc29 b76 ?_
    refine g_iconst (q := 78) (v := 1) dX7_does_77 rfl (by decide) ?_
    refine g_iadd (q := 79) dX7_does_78 rfl ?_
    obtain ⟨b79, H⟩ := of_chk H
    obtain ⟨σ4, n4, H⟩ := of_ls H
    refine g_iast (q := 80) dX7_does_79 rfl 29 hc29 b79 (ha29e n4) ?_
    exact g_weak (L' := [.ref (ad 24), .int l1, un_, .int l3]) ⟨Or.inr rfl, Or.inr rfl, Or.inl rfl, Or.inr rfl, trivial⟩ (wbX7_does_80 (F := F) hX  _ _ _ H)
def bX7_does_18 (F : Nat)  (σ : Sg) (l1 : Int32) (l2 : Int32) (l3 : Int32) : Rs := if l1 = (1 : Int32) then (if ib l2 12 then (if ib l2 12 then (ls_ (sa σ 29 l2.toNatClampNeg ((σ.2.1 29 l2.toNatClampNeg) - (1 : Int32))) fun σ1 => bX7_does_37 F σ1 (l1) (l2) (l3)) else none) else none) else (bX7_does_37 F σ (l1) (l2) (l3))
set_option maxRecDepth 100000 in
set_option maxHeartbeats 4000000 in
theorem wbX7_does_18 {x : FX} {g : GX} {ad : Nat → Nat} {ex M0 : va_W} {r : Int32} {τ : Sg} {F : Nat} (hX : RX x g M0 (Pv_ (HH g ad τ ++ ex)) 0 0)   (σ : Sg) (l1 : Int32) (l2 : Int32) (l3 : Int32) (H : bX7_does_18 F  σ l1 l2 l3 = some (r, τ)) : Go x { frames := 2, cells := 0, slots := 0, locals := 47 } tX7_does g 18 [.ref (ad 24), .int l1, .int l2, .int l3] [] (HH g ad σ ++ ex) 0 0 := by
  unfold bX7_does_18 at H
  refine g_iload_n (q := 19) (i := 1) dX7_does_18 rfl rfl rfl ?_
  refine g_iconst (q := 20) (v := 1) dX7_does_19 rfl (by decide) ?_
  refine g_icmp_ne (q := 23) (r := 37) dX7_does_20 (by decide) rfl (fun c20 => ?_) (fun c20 => ?_)
  · replace H := (if_neg c20).symm.trans H
    exact g_weak (L' := [.ref (ad 24), .int l1, .int l2, .int l3]) ⟨Or.inr rfl, Or.inr rfl, Or.inr rfl, Or.inr rfl, trivial⟩ (wbX7_does_37 (F := F) hX  _ _ _ _ H)
  · replace H := (if_pos c20).symm.trans H
    refine g_aload_n (q := 24) (i := 0) dX7_does_23 rfl rfl rfl ?_
    refine g_get (q := 27) dX7_does_24 rfl foX7_23 24 hc24 rfl ?_
    refine g_iload_n (q := 28) (i := 2) dX7_does_27 rfl rfl rfl ?_
    refine g_aload_n (q := 29) (i := 0) dX7_does_28 rfl rfl rfl ?_
    refine g_get (q := 32) dX7_does_29 rfl foX7_23 24 hc24 rfl ?_
    refine g_iload_n (q := 33) (i := 2) dX7_does_32 rfl rfl rfl ?_
    obtain ⟨b33, H⟩ := of_chk H
    refine g_iald (q := 34) dX7_does_33 rfl 29 hc29 b33 ?_
    refine g_iconst (q := 35) (v := 1) dX7_does_34 rfl (by decide) ?_
    refine g_isub (q := 36) dX7_does_35 rfl ?_
    obtain ⟨b36, H⟩ := of_chk H
    obtain ⟨σ1, n1, H⟩ := of_ls H
    refine g_iast (q := 37) dX7_does_36 rfl 29 hc29 b36 (ha29e n1) ?_
    exact g_weak (L' := [.ref (ad 24), .int l1, .int l2, .int l3]) ⟨Or.inr rfl, Or.inr rfl, Or.inr rfl, Or.inr rfl, trivial⟩ (wbX7_does_37 (F := F) hX  _ _ _ _ H)
def fX7_does (F : Nat) (σ : Sg) (l1 : Int32) (l2 : Int32) (l3 : Int32) : Rs := if l1 = (0 : Int32) then (if ib l2 12 then (if ib l2 12 then (ls_ (sa σ 29 l2.toNatClampNeg ((σ.2.1 29 l2.toNatClampNeg) + (1 : Int32))) fun σ1 => bX7_does_18 F σ1 (l1) (l2) (l3)) else none) else none) else (bX7_does_18 F σ (l1) (l2) (l3))
set_option maxRecDepth 100000 in
set_option maxHeartbeats 4000000 in
theorem ctX7_does {l : Launch} {g : GX} {ad : Nat → Nat} {ex : va_W} {r : Int32} {τ σ : Sg} {F : Nat} {l1 : Int32} {l2 : Int32} {l3 : Int32} (H : fX7_does F σ l1 l2 l3 = some (r, τ)) : Ct l g yX7_does tX7_does 2 47 0 0 [.ref (ad 24), .int l1, .int l2, .int l3] (HH g ad σ ++ ex) (Pv_ (HH g ad τ ++ ex)) := by
  refine Ct.of (L := [.ref (ad 24), .int l1, .int l2, .int l3]) (by decide +kernel) rfl rfl rfl (Nat.le_of_ble_eq_true rfl) rfl (fun x _ hX => ?_)
  unfold fX7_does at H
  refine g_iload_n (q := 1) (i := 1) dX7_does_0 rfl rfl rfl ?_
  refine g_if_ne (q := 4) (r := 18) dX7_does_1 (by decide) rfl (fun c1 => ?_) (fun c1 => ?_)
  · replace H := (if_neg c1).symm.trans H
    exact g_weak (L' := [.ref (ad 24), .int l1, .int l2, .int l3]) ⟨Or.inr rfl, Or.inr rfl, Or.inr rfl, Or.inr rfl, trivial⟩ (wbX7_does_18 (F := F) hX  _ _ _ _ H)
  · replace H := (if_pos c1).symm.trans H
    refine g_aload_n (q := 5) (i := 0) dX7_does_4 rfl rfl rfl ?_
    refine g_get (q := 8) dX7_does_5 rfl foX7_23 24 hc24 rfl ?_
    refine g_iload_n (q := 9) (i := 2) dX7_does_8 rfl rfl rfl ?_
    refine g_aload_n (q := 10) (i := 0) dX7_does_9 rfl rfl rfl ?_
    refine g_get (q := 13) dX7_does_10 rfl foX7_23 24 hc24 rfl ?_
    refine g_iload_n (q := 14) (i := 2) dX7_does_13 rfl rfl rfl ?_
    obtain ⟨b14, H⟩ := of_chk H
    refine g_iald (q := 15) dX7_does_14 rfl 29 hc29 b14 ?_
    refine g_iconst (q := 16) (v := 1) dX7_does_15 rfl (by decide) ?_
    refine g_iadd (q := 17) dX7_does_16 rfl ?_
    obtain ⟨b17, H⟩ := of_chk H
    obtain ⟨σ1, n1, H⟩ := of_ls H
    refine g_iast (q := 18) dX7_does_17 rfl 29 hc29 b17 (ha29e n1) ?_
    exact g_weak (L' := [.ref (ad 24), .int l1, .int l2, .int l3]) ⟨Or.inr rfl, Or.inr rfl, Or.inr rfl, Or.inr rfl, trivial⟩ (wbX7_does_18 (F := F) hX  _ _ _ _ H)
def bX7_comes_2 (F : Nat) (k2 : Sg → Int32 → Int32 → Rs) (σ : Sg) (l1 : Int32) (l2 : Int32) : Rs := if (12 : Int32) ≤ l2 then (if ib l1 201 then (ls_ (sv σ 23 (σ.2.1 34 l1.toNatClampNeg)) fun σ1 => if ib l1 201 then (ls_ (sv σ1 24 (σ1.2.1 35 l1.toNatClampNeg)) fun σ2 => some (0, σ2)) else none) else none) else (if ib (((12 : Int32) * l1) + l2) 2412 then (if ib l2 12 then (ls_ (sa σ 29 l2.toNatClampNeg (σ.2.1 33 (((12 : Int32) * l1) + l2).toNatClampNeg)) fun σ3 => k2 σ3 (l1) (l2 + 1)) else none) else none)
set_option maxRecDepth 100000 in
set_option maxHeartbeats 4000000 in
theorem wbX7_comes_2 {x : FX} {g : GX} {ad : Nat → Nat} {ex M0 : va_W} {r : Int32} {τ : Sg} {F : Nat} (hX : RX x g M0 (Pv_ (HH g ad τ ++ ex)) 0 0) {k2 : Sg → Int32 → Int32 → Rs} (h2 : ∀ (σ : Sg) (l1 : Int32) (l2 : Int32), k2 σ l1 l2 = some (r, τ) → Go x { frames := 0, cells := 0, slots := 0, locals := 0 } tX7_comes g 2 [.ref (ad 24), .int l1, .int l2] [] (HH g ad σ ++ ex) 0 0) (σ : Sg) (l1 : Int32) (l2 : Int32) (H : bX7_comes_2 F k2 σ l1 l2 = some (r, τ)) : Go x { frames := 0, cells := 0, slots := 0, locals := 0 } tX7_comes g 2 [.ref (ad 24), .int l1, .int l2] [] (HH g ad σ ++ ex) 0 0 := by
  unfold bX7_comes_2 at H
  refine g_iload_n (q := 3) (i := 2) dX7_comes_2 rfl rfl rfl ?_
  refine g_bipush (q := 5) (v := 12) dX7_comes_3 rfl (by decide) ?_
  refine g_icmp_ge (q := 8) (r := 31) dX7_comes_5 (by decide) rfl (fun c5 => ?_) (fun c5 => ?_)
  · replace H := (if_pos c5).symm.trans H
    refine g_aload_n (q := 32) (i := 0) dX7_comes_31 rfl rfl rfl ?_
    refine g_aload_n (q := 33) (i := 0) dX7_comes_32 rfl rfl rfl ?_
    refine g_get (q := 36) dX7_comes_33 rfl foX7_38 24 hc24 rfl ?_
    refine g_iload_n (q := 37) (i := 1) dX7_comes_36 rfl rfl rfl ?_
    obtain ⟨b37, H⟩ := of_chk H
    refine g_iald (q := 38) dX7_comes_37 rfl 34 hc34 b37 ?_
    obtain ⟨σ1, n1, H⟩ := of_ls H
    refine g_put (q := 41) dX7_comes_38 rfl (fpX7_91 _) 24 hc24 rfl rfl (Nat.le_of_ble_eq_true rfl) (hs23e n1) ?_
    refine g_aload_n (q := 42) (i := 0) dX7_comes_41 rfl rfl rfl ?_
    refine g_aload_n (q := 43) (i := 0) dX7_comes_42 rfl rfl rfl ?_
    refine g_get (q := 46) dX7_comes_43 rfl foX7_41 24 hc24 rfl ?_
    refine g_iload_n (q := 47) (i := 1) dX7_comes_46 rfl rfl rfl ?_
    obtain ⟨b47, H⟩ := of_chk H
    refine g_iald (q := 48) dX7_comes_47 rfl 35 hc35 b47 ?_
    obtain ⟨σ2, n2, H⟩ := of_ls H
    refine g_put (q := 51) dX7_comes_48 rfl (fpX7_94 _) 24 hc24 rfl rfl (Nat.le_of_ble_eq_true rfl) (hs24e n2) ?_
    exact g_vret hX dX7_comes_51 rfl (Nat.le_refl _) (Nat.le_refl _) (pvOk H)
  · replace H := (if_neg c5).symm.trans H
    refine g_aload_n (q := 9) (i := 0) dX7_comes_8 rfl rfl rfl ?_
    refine g_get (q := 12) dX7_comes_9 rfl foX7_23 24 hc24 rfl ?_
    refine g_iload_n (q := 13) (i := 2) dX7_comes_12 rfl rfl rfl ?_
    refine g_aload_n (q := 14) (i := 0) dX7_comes_13 rfl rfl rfl ?_
    refine g_get (q := 17) dX7_comes_14 rfl foX7_35 24 hc24 rfl ?_
    refine g_bipush (q := 19) (v := 12) dX7_comes_17 rfl (by decide) ?_
    refine g_iload_n (q := 20) (i := 1) dX7_comes_19 rfl rfl rfl ?_
    refine g_imul (q := 21) dX7_comes_20 rfl ?_
    refine g_iload_n (q := 22) (i := 2) dX7_comes_21 rfl rfl rfl ?_
    refine g_iadd (q := 23) dX7_comes_22 rfl ?_
    obtain ⟨b23, H⟩ := of_chk H
    refine g_iald (q := 24) dX7_comes_23 rfl 33 hc33 b23 ?_
    obtain ⟨b24, H⟩ := of_chk H
    obtain ⟨σ3, n3, H⟩ := of_ls H
    refine g_iast (q := 25) dX7_comes_24 rfl 29 hc29 b24 (ha29e n3) ?_
    refine g_iinc (q := 28) (b := l2 + 1) (L' := [.ref (ad 24), .int l1, .int (l2 + 1)]) dX7_comes_25 rfl rfl rfl (Nat.le_of_ble_eq_true rfl) rfl ?_
    refine g_goto (q := 2) dX7_comes_28 (by decide) ?_
    exact g_weak (L' := [.ref (ad 24), .int l1, .int (l2 + 1)]) ⟨Or.inr rfl, Or.inr rfl, Or.inr rfl, trivial⟩ (h2 _ _ _ H)
def fX7_comes_2 (F : Nat)  : Nat → Sg → Int32 → Int32 → Rs
  | 0 => fun _ _ _ => none
  | n + 1 => fun σ l1 l2 => bX7_comes_2 F  (fX7_comes_2 F  n) σ l1 l2
theorem wfX7_comes_2 {x : FX} {g : GX} {ad : Nat → Nat} {ex M0 : va_W} {r : Int32} {τ : Sg} {F : Nat} (hX : RX x g M0 (Pv_ (HH g ad τ ++ ex)) 0 0)   : ∀ (n : Nat) (σ : Sg) (l1 : Int32) (l2 : Int32), fX7_comes_2 F  n σ l1 l2 = some (r, τ) → Go x { frames := 0, cells := 0, slots := 0, locals := 0 } tX7_comes g 2 [.ref (ad 24), .int l1, .int l2] [] (HH g ad σ ++ ex) 0 0
  | 0, _, _, _, H => nomatch (show (none : Rs) = some _ from H)
  | n + 1, σ, l1, l2, H => wbX7_comes_2 (F := F) hX  (fun σ2 z1 z2 H2 => wfX7_comes_2 (F := F) hX  n σ2 z1 z2 H2) σ l1 l2 H
def fX7_comes (F : Nat) (σ : Sg) (l1 : Int32) : Rs := fX7_comes_2 F F σ (l1) ((0 : Int32))
set_option maxRecDepth 100000 in
set_option maxHeartbeats 4000000 in
theorem ctX7_comes {l : Launch} {g : GX} {ad : Nat → Nat} {ex : va_W} {r : Int32} {τ σ : Sg} {F : Nat} {l1 : Int32} (H : fX7_comes F σ l1 = some (r, τ)) : Ct l g yX7_comes tX7_comes 0 0 0 0 [.ref (ad 24), .int l1] (HH g ad σ ++ ex) (Pv_ (HH g ad τ ++ ex)) := by
  refine Ct.of (L := [.ref (ad 24), .int l1, un_]) (by decide +kernel) rfl rfl rfl (Nat.le_of_ble_eq_true rfl) rfl (fun x _ hX => ?_)
  unfold fX7_comes at H
  refine g_iconst (q := 1) (v := 0) dX7_comes_0 rfl (by decide) ?_
  refine g_istore_n (q := 2) (L' := [.ref (ad 24), .int l1, .int ((0 : Int32))]) (i := 2) dX7_comes_1 rfl rfl (Nat.le_of_ble_eq_true rfl) rfl ?_
  exact g_weak (L' := [.ref (ad 24), .int l1, .int ((0 : Int32))]) ⟨Or.inr rfl, Or.inr rfl, Or.inr rfl, trivial⟩ (wfX7_comes_2 (F := F) hX  F _ _ _ H)
def bX7_below_4 (F : Nat) (k4 : Sg → Int32 → Int32 → Rs) (σ : Sg) (l1 : Int32) (l2 : Int32) : Rs := if (σ.1 21) ≤ l2 then (some (l1, σ)) else (if ib l2 12 then (li_ (l1 + (σ.2.1 29 l2.toNatClampNeg)) fun v1 => k4 σ (v1) (l2 + 1)) else none)
set_option maxRecDepth 100000 in
set_option maxHeartbeats 4000000 in
theorem wbX7_below_4 {x : FX} {g : GX} {ad : Nat → Nat} {ex M0 : va_W} {r : Int32} {τ : Sg} {F : Nat} (hX : RX x g M0 (Pi_ r (HH g ad τ ++ ex)) 0 0) {k4 : Sg → Int32 → Int32 → Rs} (h4 : ∀ (σ : Sg) (l1 : Int32) (l2 : Int32), k4 σ l1 l2 = some (r, τ) → Go x { frames := 0, cells := 0, slots := 0, locals := 0 } tX7_below g 4 [.ref (ad 24), .int l1, .int l2] [] (HH g ad σ ++ ex) 0 0) (σ : Sg) (l1 : Int32) (l2 : Int32) (H : bX7_below_4 F k4 σ l1 l2 = some (r, τ)) : Go x { frames := 0, cells := 0, slots := 0, locals := 0 } tX7_below g 4 [.ref (ad 24), .int l1, .int l2] [] (HH g ad σ ++ ex) 0 0 := by
  unfold bX7_below_4 at H
  refine g_iload_n (q := 5) (i := 2) dX7_below_4 rfl rfl rfl ?_
  refine g_aload_n (q := 6) (i := 0) dX7_below_5 rfl rfl rfl ?_
  refine g_get (q := 9) dX7_below_6 rfl foX7_68 24 hc24 rfl ?_
  refine g_icmp_ge (q := 12) (r := 27) dX7_below_9 (by decide) rfl (fun c9 => ?_) (fun c9 => ?_)
  · replace H := (if_pos c9).symm.trans H
    refine g_iload_n (q := 28) (i := 1) dX7_below_27 rfl rfl rfl ?_
    exact g_iret hX dX7_below_28 rfl rfl (Nat.le_refl _) (Nat.le_refl _) (piOk H)
  · replace H := (if_neg c9).symm.trans H
    refine g_iload_n (q := 13) (i := 1) dX7_below_12 rfl rfl rfl ?_
    refine g_aload_n (q := 14) (i := 0) dX7_below_13 rfl rfl rfl ?_
    refine g_get (q := 17) dX7_below_14 rfl foX7_23 24 hc24 rfl ?_
    refine g_iload_n (q := 18) (i := 2) dX7_below_17 rfl rfl rfl ?_
    obtain ⟨b18, H⟩ := of_chk H
    refine g_iald (q := 19) dX7_below_18 rfl 29 hc29 b18 ?_
    refine g_iadd (q := 20) dX7_below_19 rfl ?_
    obtain ⟨v1, n1, H⟩ := of_li H
    refine g_name n1 ?_
    refine g_istore_n (q := 21) (L' := [.ref (ad 24), .int v1, .int l2]) (i := 1) dX7_below_20 rfl rfl (Nat.le_of_ble_eq_true rfl) rfl ?_
    refine g_iinc (q := 24) (b := l2 + 1) (L' := [.ref (ad 24), .int v1, .int (l2 + 1)]) dX7_below_21 rfl rfl rfl (Nat.le_of_ble_eq_true rfl) rfl ?_
    refine g_goto (q := 4) dX7_below_24 (by decide) ?_
    exact g_weak (L' := [.ref (ad 24), .int v1, .int (l2 + 1)]) ⟨Or.inr rfl, Or.inr rfl, Or.inr rfl, trivial⟩ (h4 _ _ _ H)
def fX7_below_4 (F : Nat)  : Nat → Sg → Int32 → Int32 → Rs
  | 0 => fun _ _ _ => none
  | n + 1 => fun σ l1 l2 => bX7_below_4 F  (fX7_below_4 F  n) σ l1 l2
theorem wfX7_below_4 {x : FX} {g : GX} {ad : Nat → Nat} {ex M0 : va_W} {r : Int32} {τ : Sg} {F : Nat} (hX : RX x g M0 (Pi_ r (HH g ad τ ++ ex)) 0 0)   : ∀ (n : Nat) (σ : Sg) (l1 : Int32) (l2 : Int32), fX7_below_4 F  n σ l1 l2 = some (r, τ) → Go x { frames := 0, cells := 0, slots := 0, locals := 0 } tX7_below g 4 [.ref (ad 24), .int l1, .int l2] [] (HH g ad σ ++ ex) 0 0
  | 0, _, _, _, H => nomatch (show (none : Rs) = some _ from H)
  | n + 1, σ, l1, l2, H => wbX7_below_4 (F := F) hX  (fun σ2 z1 z2 H2 => wfX7_below_4 (F := F) hX  n σ2 z1 z2 H2) σ l1 l2 H
def fX7_below (F : Nat) (σ : Sg)  : Rs := fX7_below_4 F F σ ((0 : Int32)) ((0 : Int32))
set_option maxRecDepth 100000 in
set_option maxHeartbeats 4000000 in
theorem ctX7_below {l : Launch} {g : GX} {ad : Nat → Nat} {ex : va_W} {r : Int32} {τ σ : Sg} {F : Nat}  (H : fX7_below F σ  = some (r, τ)) : Ct l g yX7_below tX7_below 0 0 0 0 [.ref (ad 24)] (HH g ad σ ++ ex) (Pi_ r (HH g ad τ ++ ex)) := by
  refine Ct.of (L := [.ref (ad 24), un_, un_]) (by decide +kernel) rfl rfl rfl (Nat.le_of_ble_eq_true rfl) rfl (fun x _ hX => ?_)
  unfold fX7_below at H
  refine g_iconst (q := 1) (v := 0) dX7_below_0 rfl (by decide) ?_
  refine g_istore_n (q := 2) (L' := [.ref (ad 24), .int ((0 : Int32)), un_]) (i := 1) dX7_below_1 rfl rfl (Nat.le_of_ble_eq_true rfl) rfl ?_
  refine g_iconst (q := 3) (v := 0) dX7_below_2 rfl (by decide) ?_
  refine g_istore_n (q := 4) (L' := [.ref (ad 24), .int ((0 : Int32)), .int ((0 : Int32))]) (i := 2) dX7_below_3 rfl rfl (Nat.le_of_ble_eq_true rfl) rfl ?_
  exact g_weak (L' := [.ref (ad 24), .int ((0 : Int32)), .int ((0 : Int32))]) ⟨Or.inr rfl, Or.inr rfl, Or.inr rfl, trivial⟩ (wfX7_below_4 (F := F) hX  F _ _ _ H)
def fX7_isAt (F : Nat) (σ : Sg) (l1 : Int32) (l2 : Int32) : Rs := if ib l1 18 then (if (σ.2.1 27 l1.toNatClampNeg) = (0 : Int32) then (some ((0 : Int32), σ)) else (if ib l1 18 then (if (σ.2.1 25 l1.toNatClampNeg) = l2 then (some ((1 : Int32), σ)) else (if ib l1 18 then (if (σ.2.1 26 l1.toNatClampNeg) = l2 then (some ((1 : Int32), σ)) else (some ((0 : Int32), σ))) else none)) else none)) else none
set_option maxRecDepth 100000 in
set_option maxHeartbeats 4000000 in
theorem ctX7_isAt {l : Launch} {g : GX} {ad : Nat → Nat} {ex : va_W} {r : Int32} {τ σ : Sg} {F : Nat} {l1 : Int32} {l2 : Int32} (H : fX7_isAt F σ l1 l2 = some (r, τ)) : Ct l g yX7_isAt tX7_isAt 0 0 0 0 [.ref (ad 24), .int l1, .int l2] (HH g ad σ ++ ex) (Pi_ r (HH g ad τ ++ ex)) := by
  refine Ct.of (L := [.ref (ad 24), .int l1, .int l2]) (by decide +kernel) rfl rfl rfl (Nat.le_of_ble_eq_true rfl) rfl (fun x _ hX => ?_)
  unfold fX7_isAt at H
  refine g_aload_n (q := 1) (i := 0) dX7_isAt_0 rfl rfl rfl ?_
  refine g_get (q := 4) dX7_isAt_1 rfl foX7_16 24 hc24 rfl ?_
  refine g_iload_n (q := 5) (i := 1) dX7_isAt_4 rfl rfl rfl ?_
  obtain ⟨b5, H⟩ := of_chk H
  refine g_zald (q := 6) dX7_isAt_5 rfl 27 hc27 b5 ?_
  refine g_if_eq (q := 9) (r := 33) dX7_isAt_6 (by decide) rfl (fun c6 => ?_) (fun c6 => ?_)
  · replace H := (if_pos c6).symm.trans H
    refine g_iconst (q := 34) (v := 0) dX7_isAt_33 rfl (by decide) ?_
    exact g_iret hX dX7_isAt_34 rfl rfl (Nat.le_refl _) (Nat.le_refl _) (piOk H)
  · replace H := (if_neg c6).symm.trans H
    refine g_aload_n (q := 10) (i := 0) dX7_isAt_9 rfl rfl rfl ?_
    refine g_get (q := 13) dX7_isAt_10 rfl foX7_7 24 hc24 rfl ?_
    refine g_iload_n (q := 14) (i := 1) dX7_isAt_13 rfl rfl rfl ?_
    obtain ⟨b14, H⟩ := of_chk H
    refine g_iald (q := 15) dX7_isAt_14 rfl 25 hc25 b14 ?_
    refine g_iload_n (q := 16) (i := 2) dX7_isAt_15 rfl rfl rfl ?_
    refine g_icmp_eq (q := 19) (r := 29) dX7_isAt_16 (by decide) rfl (fun c16 => ?_) (fun c16 => ?_)
    · replace H := (if_pos c16).symm.trans H
      refine g_iconst (q := 30) (v := 1) dX7_isAt_29 rfl (by decide) ?_
      refine g_goto (q := 34) dX7_isAt_30 (by decide) ?_
      exact g_iret hX dX7_isAt_34 rfl rfl (Nat.le_refl _) (Nat.le_refl _) (piOk H)
    · replace H := (if_neg c16).symm.trans H
      refine g_aload_n (q := 20) (i := 0) dX7_isAt_19 rfl rfl rfl ?_
      refine g_get (q := 23) dX7_isAt_20 rfl foX7_13 24 hc24 rfl ?_
      refine g_iload_n (q := 24) (i := 1) dX7_isAt_23 rfl rfl rfl ?_
      obtain ⟨b24, H⟩ := of_chk H
      refine g_iald (q := 25) dX7_isAt_24 rfl 26 hc26 b24 ?_
      refine g_iload_n (q := 26) (i := 2) dX7_isAt_25 rfl rfl rfl ?_
      refine g_icmp_ne (q := 29) (r := 33) dX7_isAt_26 (by decide) rfl (fun c26 => ?_) (fun c26 => ?_)
      · replace H := (if_neg c26).symm.trans H
        refine g_iconst (q := 34) (v := 0) dX7_isAt_33 rfl (by decide) ?_
        exact g_iret hX dX7_isAt_34 rfl rfl (Nat.le_refl _) (Nat.le_refl _) (piOk H)
      · replace H := (if_pos c26).symm.trans H
        refine g_iconst (q := 30) (v := 1) dX7_isAt_29 rfl (by decide) ?_
        refine g_goto (q := 34) dX7_isAt_30 (by decide) ?_
        exact g_iret hX dX7_isAt_34 rfl rfl (Nat.le_refl _) (Nat.le_refl _) (piOk H)
def bX7_order_161 (F : Nat)  (σ : Sg) (l1 : Int32) (l2 : Int32) (l3 : Int32) : Rs := if l1 = (3 : Int32) then (if ib (σ.1 25) 201 then (ls_ (sa σ 30 (σ.1 25).toNatClampNeg (2 : Int32)) fun σ9 => if ib (σ9.1 25) 201 then (ls_ (sa σ9 31 (σ9.1 25).toNatClampNeg l2) fun σ10 => if l1 < (2 : Int32) then (if ib (σ10.1 25) 201 then (ls_ (sa σ10 32 (σ10.1 25).toNatClampNeg (-1 : Int32)) fun σ11 => ls_ (sv σ11 25 ((σ11.1 25) + (1 : Int32))) fun σ12 => (fX7_keeps F σ12).bind fun q13 => (fun (r13 : Int32) (σ13 : Sg) => some ((1 : Int32), σ13)) q13.1 q13.2) else none) else (if ib (σ10.1 25) 201 then (ls_ (sa σ10 32 (σ10.1 25).toNatClampNeg l3) fun σ14 => ls_ (sv σ14 25 ((σ14.1 25) + (1 : Int32))) fun σ15 => (fX7_keeps F σ15).bind fun q16 => (fun (r16 : Int32) (σ16 : Sg) => some ((1 : Int32), σ16)) q16.1 q16.2) else none)) else none) else none) else (if ib (σ.1 25) 201 then (ls_ (sa σ 30 (σ.1 25).toNatClampNeg l1) fun σ1 => if ib (σ1.1 25) 201 then (ls_ (sa σ1 31 (σ1.1 25).toNatClampNeg l2) fun σ2 => if l1 < (2 : Int32) then (if ib (σ2.1 25) 201 then (ls_ (sa σ2 32 (σ2.1 25).toNatClampNeg (-1 : Int32)) fun σ3 => ls_ (sv σ3 25 ((σ3.1 25) + (1 : Int32))) fun σ4 => (fX7_keeps F σ4).bind fun q5 => (fun (r5 : Int32) (σ5 : Sg) => some ((1 : Int32), σ5)) q5.1 q5.2) else none) else (if ib (σ2.1 25) 201 then (ls_ (sa σ2 32 (σ2.1 25).toNatClampNeg l3) fun σ6 => ls_ (sv σ6 25 ((σ6.1 25) + (1 : Int32))) fun σ7 => (fX7_keeps F σ7).bind fun q8 => (fun (r8 : Int32) (σ8 : Sg) => some ((1 : Int32), σ8)) q8.1 q8.2) else none)) else none) else none)
set_option maxRecDepth 100000 in
set_option maxHeartbeats 4000000 in
theorem wbX7_order_161 {x : FX} {g : GX} {ad : Nat → Nat} {ex M0 : va_W} {r : Int32} {τ : Sg} {F : Nat} (hX : RX x g M0 (Pi_ r (HH g ad τ ++ ex)) 0 0)   (σ : Sg) (l1 : Int32) (l2 : Int32) (l3 : Int32) (H : bX7_order_161 F  σ l1 l2 l3 = some (r, τ)) : Go x { frames := 3, cells := 0, slots := 0, locals := 70 } tX7_order g 161 [.ref (ad 24), .int l1, .int l2, .int l3, un_] [] (HH g ad σ ++ ex) 0 0 := by
  unfold bX7_order_161 at H
  refine g_aload_n (q := 162) (i := 0) dX7_order_161 rfl rfl rfl ?_
  refine g_get (q := 165) dX7_order_162 rfl foX7_26 24 hc24 rfl ?_
  refine g_aload_n (q := 166) (i := 0) dX7_order_165 rfl rfl rfl ?_
  refine g_get (q := 169) dX7_order_166 rfl foX7_107 24 hc24 rfl ?_
  refine g_iload_n (q := 170) (i := 1) dX7_order_169 rfl rfl rfl ?_
  refine g_iconst (q := 171) (v := 3) dX7_order_170 rfl (by decide) ?_
  refine g_icmp_ne (q := 174) (r := 178) dX7_order_171 (by decide) rfl (fun c171 => ?_) (fun c171 => ?_)
  · replace H := (if_neg c171).symm.trans H
    refine g_iload_n (q := 179) (i := 1) dX7_order_178 rfl rfl rfl ?_
    obtain ⟨b179, H⟩ := of_chk H
    obtain ⟨σ1, n1, H⟩ := of_ls H
    refine g_iast (q := 180) dX7_order_179 rfl 30 hc30 b179 (ha30e n1) ?_
    refine g_aload_n (q := 181) (i := 0) dX7_order_180 rfl rfl rfl ?_
    refine g_get (q := 184) dX7_order_181 rfl foX7_29 24 hc24 rfl ?_
    refine g_aload_n (q := 185) (i := 0) dX7_order_184 rfl rfl rfl ?_
    refine g_get (q := 188) dX7_order_185 rfl foX7_107 24 hc24 rfl ?_
    refine g_iload_n (q := 189) (i := 2) dX7_order_188 rfl rfl rfl ?_
    obtain ⟨b189, H⟩ := of_chk H
    obtain ⟨σ2, n2, H⟩ := of_ls H
    refine g_iast (q := 190) dX7_order_189 rfl 31 hc31 b189 (ha31e n2) ?_
    refine g_aload_n (q := 191) (i := 0) dX7_order_190 rfl rfl rfl ?_
    refine g_get (q := 194) dX7_order_191 rfl foX7_32 24 hc24 rfl ?_
    refine g_aload_n (q := 195) (i := 0) dX7_order_194 rfl rfl rfl ?_
    refine g_get (q := 198) dX7_order_195 rfl foX7_107 24 hc24 rfl ?_
    refine g_iload_n (q := 199) (i := 1) dX7_order_198 rfl rfl rfl ?_
    refine g_iconst (q := 200) (v := 2) dX7_order_199 rfl (by decide) ?_
    refine g_icmp_lt (q := 203) (r := 207) dX7_order_200 (by decide) rfl (fun c200 => ?_) (fun c200 => ?_)
    · replace H := (if_pos c200).symm.trans H
      refine g_iconst (q := 208) (v := -1) dX7_order_207 rfl (by decide) ?_
      obtain ⟨b208, H⟩ := of_chk H
      obtain ⟨σ3, n3, H⟩ := of_ls H
      refine g_iast (q := 209) dX7_order_208 rfl 32 hc32 b208 (ha32e n3) ?_
      refine g_aload_n (q := 210) (i := 0) dX7_order_209 rfl rfl rfl ?_
      refine g_aload_n (q := 211) (i := 0) dX7_order_210 rfl rfl rfl ?_
      refine g_get (q := 214) dX7_order_211 rfl foX7_107 24 hc24 rfl ?_
      refine g_iconst (q := 215) (v := 1) dX7_order_214 rfl (by decide) ?_
      refine g_iadd (q := 216) dX7_order_215 rfl ?_
      obtain ⟨σ4, n4, H⟩ := of_ls H
      refine g_put (q := 219) dX7_order_216 rfl (fpX7_107 _) 24 hc24 rfl rfl (Nat.le_of_ble_eq_true rfl) (hs25e n4) ?_
      refine g_aload_n (q := 220) (i := 0) dX7_order_219 rfl rfl rfl ?_
      obtain ⟨r5, σ5, e5, H⟩ := of_bnd H
      refine g_callV (q := 223) (rest := []) dX7_order_220 rfl cvX7_113 (ctX7_keeps e5) rfl rfl ⟨Nat.le_of_ble_eq_true rfl, Nat.le_of_ble_eq_true rfl⟩ ⟨Nat.le_refl _, Nat.le_refl _⟩ (Nat.le_of_ble_eq_true rfl) 24 hc24 rfl (fun r0 M9 hp => ?_)
      obtain ⟨rfl, rfl⟩ := hp
      show Go x _ _ g 223 [.ref (ad 24), .int l1, .int l2, .int l3, un_] [] (HH g ad σ5 ++ ex) 0 0
      refine g_iconst (q := 224) (v := 1) dX7_order_223 rfl (by decide) ?_
      exact g_iret hX dX7_order_224 rfl rfl (Nat.le_refl _) (Nat.le_refl _) (piOk H)
    · replace H := (if_neg c200).symm.trans H
      refine g_iload_n (q := 204) (i := 3) dX7_order_203 rfl rfl rfl ?_
      refine g_goto (q := 208) dX7_order_204 (by decide) ?_
      obtain ⟨b208, H⟩ := of_chk H
      obtain ⟨σ6, n6, H⟩ := of_ls H
      refine g_iast (q := 209) dX7_order_208 rfl 32 hc32 b208 (ha32e n6) ?_
      refine g_aload_n (q := 210) (i := 0) dX7_order_209 rfl rfl rfl ?_
      refine g_aload_n (q := 211) (i := 0) dX7_order_210 rfl rfl rfl ?_
      refine g_get (q := 214) dX7_order_211 rfl foX7_107 24 hc24 rfl ?_
      refine g_iconst (q := 215) (v := 1) dX7_order_214 rfl (by decide) ?_
      refine g_iadd (q := 216) dX7_order_215 rfl ?_
      obtain ⟨σ7, n7, H⟩ := of_ls H
      refine g_put (q := 219) dX7_order_216 rfl (fpX7_107 _) 24 hc24 rfl rfl (Nat.le_of_ble_eq_true rfl) (hs25e n7) ?_
      refine g_aload_n (q := 220) (i := 0) dX7_order_219 rfl rfl rfl ?_
      obtain ⟨r8, σ8, e8, H⟩ := of_bnd H
      refine g_callV (q := 223) (rest := []) dX7_order_220 rfl cvX7_113 (ctX7_keeps e8) rfl rfl ⟨Nat.le_of_ble_eq_true rfl, Nat.le_of_ble_eq_true rfl⟩ ⟨Nat.le_refl _, Nat.le_refl _⟩ (Nat.le_of_ble_eq_true rfl) 24 hc24 rfl (fun r0 M9 hp => ?_)
      obtain ⟨rfl, rfl⟩ := hp
      show Go x _ _ g 223 [.ref (ad 24), .int l1, .int l2, .int l3, un_] [] (HH g ad σ8 ++ ex) 0 0
      refine g_iconst (q := 224) (v := 1) dX7_order_223 rfl (by decide) ?_
      exact g_iret hX dX7_order_224 rfl rfl (Nat.le_refl _) (Nat.le_refl _) (piOk H)
  · replace H := (if_pos c171).symm.trans H
    refine g_iconst (q := 175) (v := 2) dX7_order_174 rfl (by decide) ?_
    refine g_goto (q := 179) dX7_order_175 (by decide) ?_
    obtain ⟨b179, H⟩ := of_chk H
    obtain ⟨σ9, n9, H⟩ := of_ls H
    refine g_iast (q := 180) dX7_order_179 rfl 30 hc30 b179 (ha30e n9) ?_
    refine g_aload_n (q := 181) (i := 0) dX7_order_180 rfl rfl rfl ?_
    refine g_get (q := 184) dX7_order_181 rfl foX7_29 24 hc24 rfl ?_
    refine g_aload_n (q := 185) (i := 0) dX7_order_184 rfl rfl rfl ?_
    refine g_get (q := 188) dX7_order_185 rfl foX7_107 24 hc24 rfl ?_
    refine g_iload_n (q := 189) (i := 2) dX7_order_188 rfl rfl rfl ?_
    obtain ⟨b189, H⟩ := of_chk H
    obtain ⟨σ10, n10, H⟩ := of_ls H
    refine g_iast (q := 190) dX7_order_189 rfl 31 hc31 b189 (ha31e n10) ?_
    refine g_aload_n (q := 191) (i := 0) dX7_order_190 rfl rfl rfl ?_
    refine g_get (q := 194) dX7_order_191 rfl foX7_32 24 hc24 rfl ?_
    refine g_aload_n (q := 195) (i := 0) dX7_order_194 rfl rfl rfl ?_
    refine g_get (q := 198) dX7_order_195 rfl foX7_107 24 hc24 rfl ?_
    refine g_iload_n (q := 199) (i := 1) dX7_order_198 rfl rfl rfl ?_
    refine g_iconst (q := 200) (v := 2) dX7_order_199 rfl (by decide) ?_
    refine g_icmp_lt (q := 203) (r := 207) dX7_order_200 (by decide) rfl (fun c200 => ?_) (fun c200 => ?_)
    · replace H := (if_pos c200).symm.trans H
      refine g_iconst (q := 208) (v := -1) dX7_order_207 rfl (by decide) ?_
      obtain ⟨b208, H⟩ := of_chk H
      obtain ⟨σ11, n11, H⟩ := of_ls H
      refine g_iast (q := 209) dX7_order_208 rfl 32 hc32 b208 (ha32e n11) ?_
      refine g_aload_n (q := 210) (i := 0) dX7_order_209 rfl rfl rfl ?_
      refine g_aload_n (q := 211) (i := 0) dX7_order_210 rfl rfl rfl ?_
      refine g_get (q := 214) dX7_order_211 rfl foX7_107 24 hc24 rfl ?_
      refine g_iconst (q := 215) (v := 1) dX7_order_214 rfl (by decide) ?_
      refine g_iadd (q := 216) dX7_order_215 rfl ?_
      obtain ⟨σ12, n12, H⟩ := of_ls H
      refine g_put (q := 219) dX7_order_216 rfl (fpX7_107 _) 24 hc24 rfl rfl (Nat.le_of_ble_eq_true rfl) (hs25e n12) ?_
      refine g_aload_n (q := 220) (i := 0) dX7_order_219 rfl rfl rfl ?_
      obtain ⟨r13, σ13, e13, H⟩ := of_bnd H
      refine g_callV (q := 223) (rest := []) dX7_order_220 rfl cvX7_113 (ctX7_keeps e13) rfl rfl ⟨Nat.le_of_ble_eq_true rfl, Nat.le_of_ble_eq_true rfl⟩ ⟨Nat.le_refl _, Nat.le_refl _⟩ (Nat.le_of_ble_eq_true rfl) 24 hc24 rfl (fun r0 M9 hp => ?_)
      obtain ⟨rfl, rfl⟩ := hp
      show Go x _ _ g 223 [.ref (ad 24), .int l1, .int l2, .int l3, un_] [] (HH g ad σ13 ++ ex) 0 0
      refine g_iconst (q := 224) (v := 1) dX7_order_223 rfl (by decide) ?_
      exact g_iret hX dX7_order_224 rfl rfl (Nat.le_refl _) (Nat.le_refl _) (piOk H)
    · replace H := (if_neg c200).symm.trans H
      refine g_iload_n (q := 204) (i := 3) dX7_order_203 rfl rfl rfl ?_
      refine g_goto (q := 208) dX7_order_204 (by decide) ?_
      obtain ⟨b208, H⟩ := of_chk H
      obtain ⟨σ14, n14, H⟩ := of_ls H
      refine g_iast (q := 209) dX7_order_208 rfl 32 hc32 b208 (ha32e n14) ?_
      refine g_aload_n (q := 210) (i := 0) dX7_order_209 rfl rfl rfl ?_
      refine g_aload_n (q := 211) (i := 0) dX7_order_210 rfl rfl rfl ?_
      refine g_get (q := 214) dX7_order_211 rfl foX7_107 24 hc24 rfl ?_
      refine g_iconst (q := 215) (v := 1) dX7_order_214 rfl (by decide) ?_
      refine g_iadd (q := 216) dX7_order_215 rfl ?_
      obtain ⟨σ15, n15, H⟩ := of_ls H
      refine g_put (q := 219) dX7_order_216 rfl (fpX7_107 _) 24 hc24 rfl rfl (Nat.le_of_ble_eq_true rfl) (hs25e n15) ?_
      refine g_aload_n (q := 220) (i := 0) dX7_order_219 rfl rfl rfl ?_
      obtain ⟨r16, σ16, e16, H⟩ := of_bnd H
      refine g_callV (q := 223) (rest := []) dX7_order_220 rfl cvX7_113 (ctX7_keeps e16) rfl rfl ⟨Nat.le_of_ble_eq_true rfl, Nat.le_of_ble_eq_true rfl⟩ ⟨Nat.le_refl _, Nat.le_refl _⟩ (Nat.le_of_ble_eq_true rfl) 24 hc24 rfl (fun r0 M9 hp => ?_)
      obtain ⟨rfl, rfl⟩ := hp
      show Go x _ _ g 223 [.ref (ad 24), .int l1, .int l2, .int l3, un_] [] (HH g ad σ16 ++ ex) 0 0
      refine g_iconst (q := 224) (v := 1) dX7_order_223 rfl (by decide) ?_
      exact g_iret hX dX7_order_224 rfl rfl (Nat.le_refl _) (Nat.le_refl _) (piOk H)
def bX7_order_142 (F : Nat)  (σ : Sg) (l1 : Int32) (l2 : Int32) (l3 : Int32) : Rs := if l1 = (3 : Int32) then (if (1 : Int32) = (0 : Int32) then (bX7_order_161 F σ (l1) (l2) (l3)) else (some ((0 : Int32), σ))) else (bX7_order_161 F σ (l1) (l2) (l3))
set_option maxRecDepth 100000 in
set_option maxHeartbeats 4000000 in
theorem wbX7_order_142 {x : FX} {g : GX} {ad : Nat → Nat} {ex M0 : va_W} {r : Int32} {τ : Sg} {F : Nat} (hX : RX x g M0 (Pi_ r (HH g ad τ ++ ex)) 0 0)   (σ : Sg) (l1 : Int32) (l2 : Int32) (l3 : Int32) (H : bX7_order_142 F  σ l1 l2 l3 = some (r, τ)) : Go x { frames := 3, cells := 0, slots := 0, locals := 70 } tX7_order g 142 [.ref (ad 24), .int l1, .int l2, .int l3, un_] [] (HH g ad σ ++ ex) 0 0 := by
  unfold bX7_order_142 at H
  refine g_iconst (q := 143) (v := 1) dX7_order_142 rfl (by decide) ?_
  refine g_goto (q := 147) dX7_order_143 (by decide) ?_
  refine g_istore (q := 149) (L' := [.ref (ad 24), .int l1, .int l2, .int l3, .int ((1 : Int32))]) dX7_order_147 rfl (Nat.le_of_ble_eq_true rfl) rfl ?_
  refine g_iload_n (q := 150) (i := 1) dX7_order_149 rfl rfl rfl ?_
  refine g_iconst (q := 151) (v := 3) dX7_order_150 rfl (by decide) ?_
  refine g_icmp_ne (q := 154) (r := 161) dX7_order_151 (by decide) rfl (fun c151 => ?_) (fun c151 => ?_)
  · replace H := (if_neg c151).symm.trans H
    exact g_weak (L' := [.ref (ad 24), .int l1, .int l2, .int l3, un_]) ⟨Or.inr rfl, Or.inr rfl, Or.inr rfl, Or.inr rfl, Or.inl rfl, trivial⟩ (wbX7_order_161 (F := F) hX  _ _ _ _ H)
  · replace H := (if_pos c151).symm.trans H
    refine g_iload (q := 156) dX7_order_154 rfl rfl ?_
    refine g_if_eq (q := 159) (r := 161) dX7_order_156 (by decide) rfl (fun c156 => ?_) (fun c156 => ?_)
    · replace H := (if_pos c156).symm.trans H
      exact g_weak (L' := [.ref (ad 24), .int l1, .int l2, .int l3, un_]) ⟨Or.inr rfl, Or.inr rfl, Or.inr rfl, Or.inr rfl, Or.inl rfl, trivial⟩ (wbX7_order_161 (F := F) hX  _ _ _ _ H)
    · replace H := (if_neg c156).symm.trans H
      refine g_iconst (q := 160) (v := 0) dX7_order_159 rfl (by decide) ?_
      exact g_iret hX dX7_order_160 rfl rfl (Nat.le_refl _) (Nat.le_refl _) (piOk H)
def bX7_order_88 (F : Nat)  (σ : Sg) (l1 : Int32) (l2 : Int32) (l3 : Int32) : Rs := if l1 = (3 : Int32) then ((fX7_does F σ ((2 : Int32)) l2 l3).bind fun q2 => (fun (r2 : Int32) (σ2 : Sg) => if ib (σ2.1 25) 201 then (if ((σ2.1 23) &&& ((σ2.2.1 34 (σ2.1 25).toNatClampNeg) ^^^ (-1 : Int32))) = (0 : Int32) then (if ib (σ2.1 25) 201 then (if ((σ2.1 24) &&& ((σ2.2.1 35 (σ2.1 25).toNatClampNeg) ^^^ (-1 : Int32))) = (0 : Int32) then (if l1 = (3 : Int32) then (if (0 : Int32) = (0 : Int32) then (bX7_order_161 F σ2 (l1) (l2) (l3)) else (some ((0 : Int32), σ2))) else (bX7_order_161 F σ2 (l1) (l2) (l3))) else (bX7_order_142 F σ2 (l1) (l2) (l3))) else none) else (bX7_order_142 F σ2 (l1) (l2) (l3))) else none) q2.1 q2.2) else ((fX7_does F σ l1 l2 l3).bind fun q1 => (fun (r1 : Int32) (σ1 : Sg) => if ib (σ1.1 25) 201 then (if ((σ1.1 23) &&& ((σ1.2.1 34 (σ1.1 25).toNatClampNeg) ^^^ (-1 : Int32))) = (0 : Int32) then (if ib (σ1.1 25) 201 then (if ((σ1.1 24) &&& ((σ1.2.1 35 (σ1.1 25).toNatClampNeg) ^^^ (-1 : Int32))) = (0 : Int32) then (if l1 = (3 : Int32) then (if (0 : Int32) = (0 : Int32) then (bX7_order_161 F σ1 (l1) (l2) (l3)) else (some ((0 : Int32), σ1))) else (bX7_order_161 F σ1 (l1) (l2) (l3))) else (bX7_order_142 F σ1 (l1) (l2) (l3))) else none) else (bX7_order_142 F σ1 (l1) (l2) (l3))) else none) q1.1 q1.2)
set_option maxRecDepth 100000 in
set_option maxHeartbeats 4000000 in
theorem wbX7_order_88 {x : FX} {g : GX} {ad : Nat → Nat} {ex M0 : va_W} {r : Int32} {τ : Sg} {F : Nat} (hX : RX x g M0 (Pi_ r (HH g ad τ ++ ex)) 0 0)   (σ : Sg) (l1 : Int32) (l2 : Int32) (l3 : Int32) (H : bX7_order_88 F  σ l1 l2 l3 = some (r, τ)) : Go x { frames := 3, cells := 0, slots := 0, locals := 70 } tX7_order g 88 [.ref (ad 24), .int l1, .int l2, .int l3, un_] [] (HH g ad σ ++ ex) 0 0 := by
  unfold bX7_order_88 at H
  refine g_aload_n (q := 89) (i := 0) dX7_order_88 rfl rfl rfl ?_
  refine g_iload_n (q := 90) (i := 1) dX7_order_89 rfl rfl rfl ?_
  refine g_iconst (q := 91) (v := 3) dX7_order_90 rfl (by decide) ?_
  refine g_icmp_ne (q := 94) (r := 98) dX7_order_91 (by decide) rfl (fun c91 => ?_) (fun c91 => ?_)
  · replace H := (if_neg c91).symm.trans H
    refine g_iload_n (q := 99) (i := 1) dX7_order_98 rfl rfl rfl ?_
    refine g_iload_n (q := 100) (i := 2) dX7_order_99 rfl rfl rfl ?_
    refine g_iload_n (q := 101) (i := 3) dX7_order_100 rfl rfl rfl ?_
    obtain ⟨r1, σ1, e1, H⟩ := of_bnd H
    refine g_callV (q := 104) (rest := []) dX7_order_101 rfl cvX7_127 (ctX7_does e1) rfl rfl ⟨Nat.le_of_ble_eq_true rfl, Nat.le_of_ble_eq_true rfl⟩ ⟨Nat.le_refl _, Nat.le_refl _⟩ (Nat.le_of_ble_eq_true rfl) 24 hc24 rfl (fun r0 M9 hp => ?_)
    obtain ⟨rfl, rfl⟩ := hp
    show Go x _ _ g 104 [.ref (ad 24), .int l1, .int l2, .int l3, un_] [] (HH g ad σ1 ++ ex) 0 0
    refine g_aload_n (q := 105) (i := 0) dX7_order_104 rfl rfl rfl ?_
    refine g_get (q := 108) dX7_order_105 rfl foX7_91 24 hc24 rfl ?_
    refine g_aload_n (q := 109) (i := 0) dX7_order_108 rfl rfl rfl ?_
    refine g_get (q := 112) dX7_order_109 rfl foX7_38 24 hc24 rfl ?_
    refine g_aload_n (q := 113) (i := 0) dX7_order_112 rfl rfl rfl ?_
    refine g_get (q := 116) dX7_order_113 rfl foX7_107 24 hc24 rfl ?_
    obtain ⟨b116, H⟩ := of_chk H
    refine g_iald (q := 117) dX7_order_116 rfl 34 hc34 b116 ?_
    refine g_iconst (q := 118) (v := -1) dX7_order_117 rfl (by decide) ?_
    refine g_ixor (q := 119) dX7_order_118 rfl ?_
    refine g_iand (q := 120) dX7_order_119 rfl ?_
    refine g_if_ne (q := 123) (r := 142) dX7_order_120 (by decide) rfl (fun c120 => ?_) (fun c120 => ?_)
    · replace H := (if_neg c120).symm.trans H
      exact g_weak (L' := [.ref (ad 24), .int l1, .int l2, .int l3, un_]) ⟨Or.inr rfl, Or.inr rfl, Or.inr rfl, Or.inr rfl, Or.inl rfl, trivial⟩ (wbX7_order_142 (F := F) hX  _ _ _ _ H)
    · replace H := (if_pos c120).symm.trans H
      refine g_aload_n (q := 124) (i := 0) dX7_order_123 rfl rfl rfl ?_
      refine g_get (q := 127) dX7_order_124 rfl foX7_94 24 hc24 rfl ?_
      refine g_aload_n (q := 128) (i := 0) dX7_order_127 rfl rfl rfl ?_
      refine g_get (q := 131) dX7_order_128 rfl foX7_41 24 hc24 rfl ?_
      refine g_aload_n (q := 132) (i := 0) dX7_order_131 rfl rfl rfl ?_
      refine g_get (q := 135) dX7_order_132 rfl foX7_107 24 hc24 rfl ?_
      obtain ⟨b135, H⟩ := of_chk H
      refine g_iald (q := 136) dX7_order_135 rfl 35 hc35 b135 ?_
      refine g_iconst (q := 137) (v := -1) dX7_order_136 rfl (by decide) ?_
      refine g_ixor (q := 138) dX7_order_137 rfl ?_
      refine g_iand (q := 139) dX7_order_138 rfl ?_
      refine g_if_eq (q := 142) (r := 146) dX7_order_139 (by decide) rfl (fun c139 => ?_) (fun c139 => ?_)
      · replace H := (if_pos c139).symm.trans H
        refine g_iconst (q := 147) (v := 0) dX7_order_146 rfl (by decide) ?_
        refine g_istore (q := 149) (L' := [.ref (ad 24), .int l1, .int l2, .int l3, .int ((0 : Int32))]) dX7_order_147 rfl (Nat.le_of_ble_eq_true rfl) rfl ?_
        refine g_iload_n (q := 150) (i := 1) dX7_order_149 rfl rfl rfl ?_
        refine g_iconst (q := 151) (v := 3) dX7_order_150 rfl (by decide) ?_
        refine g_icmp_ne (q := 154) (r := 161) dX7_order_151 (by decide) rfl (fun c151 => ?_) (fun c151 => ?_)
        · replace H := (if_neg c151).symm.trans H
          exact g_weak (L' := [.ref (ad 24), .int l1, .int l2, .int l3, un_]) ⟨Or.inr rfl, Or.inr rfl, Or.inr rfl, Or.inr rfl, Or.inl rfl, trivial⟩ (wbX7_order_161 (F := F) hX  _ _ _ _ H)
        · replace H := (if_pos c151).symm.trans H
          refine g_iload (q := 156) dX7_order_154 rfl rfl ?_
          refine g_if_eq (q := 159) (r := 161) dX7_order_156 (by decide) rfl (fun c156 => ?_) (fun c156 => ?_)
          · replace H := (if_pos c156).symm.trans H
            exact g_weak (L' := [.ref (ad 24), .int l1, .int l2, .int l3, un_]) ⟨Or.inr rfl, Or.inr rfl, Or.inr rfl, Or.inr rfl, Or.inl rfl, trivial⟩ (wbX7_order_161 (F := F) hX  _ _ _ _ H)
          · replace H := (if_neg c156).symm.trans H
            refine g_iconst (q := 160) (v := 0) dX7_order_159 rfl (by decide) ?_
            exact g_iret hX dX7_order_160 rfl rfl (Nat.le_refl _) (Nat.le_refl _) (piOk H)
      · replace H := (if_neg c139).symm.trans H
        exact g_weak (L' := [.ref (ad 24), .int l1, .int l2, .int l3, un_]) ⟨Or.inr rfl, Or.inr rfl, Or.inr rfl, Or.inr rfl, Or.inl rfl, trivial⟩ (wbX7_order_142 (F := F) hX  _ _ _ _ H)
  · replace H := (if_pos c91).symm.trans H
    refine g_iconst (q := 95) (v := 2) dX7_order_94 rfl (by decide) ?_
    refine g_goto (q := 99) dX7_order_95 (by decide) ?_
    refine g_iload_n (q := 100) (i := 2) dX7_order_99 rfl rfl rfl ?_
    refine g_iload_n (q := 101) (i := 3) dX7_order_100 rfl rfl rfl ?_
    obtain ⟨r2, σ2, e2, H⟩ := of_bnd H
    refine g_callV (q := 104) (rest := []) dX7_order_101 rfl cvX7_127 (ctX7_does e2) rfl rfl ⟨Nat.le_of_ble_eq_true rfl, Nat.le_of_ble_eq_true rfl⟩ ⟨Nat.le_refl _, Nat.le_refl _⟩ (Nat.le_of_ble_eq_true rfl) 24 hc24 rfl (fun r0 M9 hp => ?_)
    obtain ⟨rfl, rfl⟩ := hp
    show Go x _ _ g 104 [.ref (ad 24), .int l1, .int l2, .int l3, un_] [] (HH g ad σ2 ++ ex) 0 0
    refine g_aload_n (q := 105) (i := 0) dX7_order_104 rfl rfl rfl ?_
    refine g_get (q := 108) dX7_order_105 rfl foX7_91 24 hc24 rfl ?_
    refine g_aload_n (q := 109) (i := 0) dX7_order_108 rfl rfl rfl ?_
    refine g_get (q := 112) dX7_order_109 rfl foX7_38 24 hc24 rfl ?_
    refine g_aload_n (q := 113) (i := 0) dX7_order_112 rfl rfl rfl ?_
    refine g_get (q := 116) dX7_order_113 rfl foX7_107 24 hc24 rfl ?_
    obtain ⟨b116, H⟩ := of_chk H
    refine g_iald (q := 117) dX7_order_116 rfl 34 hc34 b116 ?_
    refine g_iconst (q := 118) (v := -1) dX7_order_117 rfl (by decide) ?_
    refine g_ixor (q := 119) dX7_order_118 rfl ?_
    refine g_iand (q := 120) dX7_order_119 rfl ?_
    refine g_if_ne (q := 123) (r := 142) dX7_order_120 (by decide) rfl (fun c120 => ?_) (fun c120 => ?_)
    · replace H := (if_neg c120).symm.trans H
      exact g_weak (L' := [.ref (ad 24), .int l1, .int l2, .int l3, un_]) ⟨Or.inr rfl, Or.inr rfl, Or.inr rfl, Or.inr rfl, Or.inl rfl, trivial⟩ (wbX7_order_142 (F := F) hX  _ _ _ _ H)
    · replace H := (if_pos c120).symm.trans H
      refine g_aload_n (q := 124) (i := 0) dX7_order_123 rfl rfl rfl ?_
      refine g_get (q := 127) dX7_order_124 rfl foX7_94 24 hc24 rfl ?_
      refine g_aload_n (q := 128) (i := 0) dX7_order_127 rfl rfl rfl ?_
      refine g_get (q := 131) dX7_order_128 rfl foX7_41 24 hc24 rfl ?_
      refine g_aload_n (q := 132) (i := 0) dX7_order_131 rfl rfl rfl ?_
      refine g_get (q := 135) dX7_order_132 rfl foX7_107 24 hc24 rfl ?_
      obtain ⟨b135, H⟩ := of_chk H
      refine g_iald (q := 136) dX7_order_135 rfl 35 hc35 b135 ?_
      refine g_iconst (q := 137) (v := -1) dX7_order_136 rfl (by decide) ?_
      refine g_ixor (q := 138) dX7_order_137 rfl ?_
      refine g_iand (q := 139) dX7_order_138 rfl ?_
      refine g_if_eq (q := 142) (r := 146) dX7_order_139 (by decide) rfl (fun c139 => ?_) (fun c139 => ?_)
      · replace H := (if_pos c139).symm.trans H
        refine g_iconst (q := 147) (v := 0) dX7_order_146 rfl (by decide) ?_
        refine g_istore (q := 149) (L' := [.ref (ad 24), .int l1, .int l2, .int l3, .int ((0 : Int32))]) dX7_order_147 rfl (Nat.le_of_ble_eq_true rfl) rfl ?_
        refine g_iload_n (q := 150) (i := 1) dX7_order_149 rfl rfl rfl ?_
        refine g_iconst (q := 151) (v := 3) dX7_order_150 rfl (by decide) ?_
        refine g_icmp_ne (q := 154) (r := 161) dX7_order_151 (by decide) rfl (fun c151 => ?_) (fun c151 => ?_)
        · replace H := (if_neg c151).symm.trans H
          exact g_weak (L' := [.ref (ad 24), .int l1, .int l2, .int l3, un_]) ⟨Or.inr rfl, Or.inr rfl, Or.inr rfl, Or.inr rfl, Or.inl rfl, trivial⟩ (wbX7_order_161 (F := F) hX  _ _ _ _ H)
        · replace H := (if_pos c151).symm.trans H
          refine g_iload (q := 156) dX7_order_154 rfl rfl ?_
          refine g_if_eq (q := 159) (r := 161) dX7_order_156 (by decide) rfl (fun c156 => ?_) (fun c156 => ?_)
          · replace H := (if_pos c156).symm.trans H
            exact g_weak (L' := [.ref (ad 24), .int l1, .int l2, .int l3, un_]) ⟨Or.inr rfl, Or.inr rfl, Or.inr rfl, Or.inr rfl, Or.inl rfl, trivial⟩ (wbX7_order_161 (F := F) hX  _ _ _ _ H)
          · replace H := (if_neg c156).symm.trans H
            refine g_iconst (q := 160) (v := 0) dX7_order_159 rfl (by decide) ?_
            exact g_iret hX dX7_order_160 rfl rfl (Nat.le_refl _) (Nat.le_refl _) (piOk H)
      · replace H := (if_neg c139).symm.trans H
        exact g_weak (L' := [.ref (ad 24), .int l1, .int l2, .int l3, un_]) ⟨Or.inr rfl, Or.inr rfl, Or.inr rfl, Or.inr rfl, Or.inl rfl, trivial⟩ (wbX7_order_142 (F := F) hX  _ _ _ _ H)
def bX7_order_41 (F : Nat)  (σ : Sg) (l1 : Int32) (l2 : Int32) (l3 : Int32) : Rs := if (σ.1 25) = (200 : Int32) then (some ((-1 : Int32), σ)) else ((fX7_comes F σ (σ.1 25)).bind fun q1 => (fun (r1 : Int32) (σ1 : Sg) => if l1 = (0 : Int32) then ((fX7_below F σ1).bind fun q2 => (fun (r2 : Int32) (σ2 : Sg) => if r2 = (9 : Int32) then (some ((0 : Int32), σ2)) else (bX7_order_88 F σ2 (l1) (l2) (l3))) q2.1 q2.2) else (if ib l2 12 then (if (σ1.2.1 29 l2.toNatClampNeg) = (0 : Int32) then (some ((0 : Int32), σ1)) else (bX7_order_88 F σ1 (l1) (l2) (l3))) else none)) q1.1 q1.2)
set_option maxRecDepth 100000 in
set_option maxHeartbeats 4000000 in
theorem wbX7_order_41 {x : FX} {g : GX} {ad : Nat → Nat} {ex M0 : va_W} {r : Int32} {τ : Sg} {F : Nat} (hX : RX x g M0 (Pi_ r (HH g ad τ ++ ex)) 0 0)   (σ : Sg) (l1 : Int32) (l2 : Int32) (l3 : Int32) (H : bX7_order_41 F  σ l1 l2 l3 = some (r, τ)) : Go x { frames := 3, cells := 0, slots := 0, locals := 70 } tX7_order g 41 [.ref (ad 24), .int l1, .int l2, .int l3, un_] [] (HH g ad σ ++ ex) 0 0 := by
  unfold bX7_order_41 at H
  refine g_aload_n (q := 42) (i := 0) dX7_order_41 rfl rfl rfl ?_
  refine g_get (q := 45) dX7_order_42 rfl foX7_107 24 hc24 rfl ?_
  refine g_sipush (q := 48) (v := 200) dX7_order_45 rfl (by decide) ?_
  refine g_icmp_ne (q := 51) (r := 53) dX7_order_48 (by decide) rfl (fun c48 => ?_) (fun c48 => ?_)
  · replace H := (if_neg c48).symm.trans H
    refine g_aload_n (q := 54) (i := 0) dX7_order_53 rfl rfl rfl ?_
    refine g_aload_n (q := 55) (i := 0) dX7_order_54 rfl rfl rfl ?_
    refine g_get (q := 58) dX7_order_55 rfl foX7_107 24 hc24 rfl ?_
    obtain ⟨r1, σ1, e1, H⟩ := of_bnd H
    refine g_callV (q := 61) (rest := []) dX7_order_58 rfl cvX7_120 (ctX7_comes e1) rfl rfl ⟨Nat.le_of_ble_eq_true rfl, Nat.le_of_ble_eq_true rfl⟩ ⟨Nat.le_refl _, Nat.le_refl _⟩ (Nat.le_of_ble_eq_true rfl) 24 hc24 rfl (fun r0 M9 hp => ?_)
    obtain ⟨rfl, rfl⟩ := hp
    show Go x _ _ g 61 [.ref (ad 24), .int l1, .int l2, .int l3, un_] [] (HH g ad σ1 ++ ex) 0 0
    refine g_iload_n (q := 62) (i := 1) dX7_order_61 rfl rfl rfl ?_
    refine g_if_ne (q := 65) (r := 77) dX7_order_62 (by decide) rfl (fun c62 => ?_) (fun c62 => ?_)
    · replace H := (if_neg c62).symm.trans H
      refine g_aload_n (q := 78) (i := 0) dX7_order_77 rfl rfl rfl ?_
      refine g_get (q := 81) dX7_order_78 rfl foX7_23 24 hc24 rfl ?_
      refine g_iload_n (q := 82) (i := 2) dX7_order_81 rfl rfl rfl ?_
      obtain ⟨b82, H⟩ := of_chk H
      refine g_iald (q := 83) dX7_order_82 rfl 29 hc29 b82 ?_
      refine g_if_ne (q := 86) (r := 88) dX7_order_83 (by decide) rfl (fun c83 => ?_) (fun c83 => ?_)
      · replace H := (if_neg c83).symm.trans H
        exact g_weak (L' := [.ref (ad 24), .int l1, .int l2, .int l3, un_]) ⟨Or.inr rfl, Or.inr rfl, Or.inr rfl, Or.inr rfl, Or.inl rfl, trivial⟩ (wbX7_order_88 (F := F) hX  _ _ _ _ H)
      · replace H := (if_pos c83).symm.trans H
        refine g_iconst (q := 87) (v := 0) dX7_order_86 rfl (by decide) ?_
        exact g_iret hX dX7_order_87 rfl rfl (Nat.le_refl _) (Nat.le_refl _) (piOk H)
    · replace H := (if_pos c62).symm.trans H
      refine g_aload_n (q := 66) (i := 0) dX7_order_65 rfl rfl rfl ?_
      obtain ⟨r2, σ2, e2, H⟩ := of_bnd H
      refine g_callV (q := 69) (rest := []) dX7_order_66 rfl cvX7_123 (ctX7_below e2) rfl rfl ⟨Nat.le_of_ble_eq_true rfl, Nat.le_of_ble_eq_true rfl⟩ ⟨Nat.le_refl _, Nat.le_refl _⟩ (Nat.le_of_ble_eq_true rfl) 24 hc24 rfl (fun r0 M9 hp => ?_)
      obtain ⟨rfl, rfl⟩ := hp
      show Go x _ _ g 69 [.ref (ad 24), .int l1, .int l2, .int l3, un_] [.int r2] (HH g ad σ2 ++ ex) 0 0
      refine g_bipush (q := 71) (v := 9) dX7_order_69 rfl (by decide) ?_
      refine g_icmp_ne (q := 74) (r := 88) dX7_order_71 (by decide) rfl (fun c71 => ?_) (fun c71 => ?_)
      · replace H := (if_neg c71).symm.trans H
        exact g_weak (L' := [.ref (ad 24), .int l1, .int l2, .int l3, un_]) ⟨Or.inr rfl, Or.inr rfl, Or.inr rfl, Or.inr rfl, Or.inl rfl, trivial⟩ (wbX7_order_88 (F := F) hX  _ _ _ _ H)
      · replace H := (if_pos c71).symm.trans H
        refine g_goto (q := 86) dX7_order_74 (by decide) ?_
        refine g_iconst (q := 87) (v := 0) dX7_order_86 rfl (by decide) ?_
        exact g_iret hX dX7_order_87 rfl rfl (Nat.le_refl _) (Nat.le_refl _) (piOk H)
  · replace H := (if_pos c48).symm.trans H
    refine g_iconst (q := 52) (v := -1) dX7_order_51 rfl (by decide) ?_
    exact g_iret hX dX7_order_52 rfl rfl (Nat.le_refl _) (Nat.le_refl _) (piOk H)
def fX7_order (F : Nat) (σ : Sg) (l1 : Int32) (l2 : Int32) (l3 : Int32) : Rs := if l1 < (0 : Int32) then (some ((-1 : Int32), σ)) else (if (3 : Int32) < l1 then (some ((-1 : Int32), σ)) else ((fX7_isCave F σ l2).bind fun q1 => (fun (r1 : Int32) (σ1 : Sg) => if r1 = (0 : Int32) then (some ((-1 : Int32), σ1)) else (if l1 < (2 : Int32) then (bX7_order_41 F σ1 (l1) (l2) (l3)) else (if l3 < (0 : Int32) then (some ((-1 : Int32), σ1)) else (if (18 : Int32) ≤ l3 then (some ((-1 : Int32), σ1)) else ((fX7_isAt F σ1 l3 l2).bind fun q2 => (fun (r2 : Int32) (σ2 : Sg) => if r2 = (0 : Int32) then (some ((-1 : Int32), σ2)) else (bX7_order_41 F σ2 (l1) (l2) (l3))) q2.1 q2.2))))) q1.1 q1.2))
set_option maxRecDepth 100000 in
set_option maxHeartbeats 4000000 in
theorem ctX7_order {l : Launch} {g : GX} {ad : Nat → Nat} {ex : va_W} {r : Int32} {τ σ : Sg} {F : Nat} {l1 : Int32} {l2 : Int32} {l3 : Int32} (H : fX7_order F σ l1 l2 l3 = some (r, τ)) : Ct l g yX7_order tX7_order 3 70 0 0 [.ref (ad 24), .int l1, .int l2, .int l3] (HH g ad σ ++ ex) (Pi_ r (HH g ad τ ++ ex)) := by
  refine Ct.of (L := [.ref (ad 24), .int l1, .int l2, .int l3, un_]) (by decide +kernel) rfl rfl rfl (Nat.le_of_ble_eq_true rfl) rfl (fun x _ hX => ?_)
  unfold fX7_order at H
  refine g_iload_n (q := 1) (i := 1) dX7_order_0 rfl rfl rfl ?_
  refine g_if_lt (q := 4) (r := 51) dX7_order_1 (by decide) rfl (fun c1 => ?_) (fun c1 => ?_)
  · replace H := (if_pos c1).symm.trans H
    refine g_iconst (q := 52) (v := -1) dX7_order_51 rfl (by decide) ?_
    exact g_iret hX dX7_order_52 rfl rfl (Nat.le_refl _) (Nat.le_refl _) (piOk H)
  · replace H := (if_neg c1).symm.trans H
    refine g_iload_n (q := 5) (i := 1) dX7_order_4 rfl rfl rfl ?_
    refine g_iconst (q := 6) (v := 3) dX7_order_5 rfl (by decide) ?_
    refine g_icmp_gt (q := 9) (r := 51) dX7_order_6 (by decide) rfl (fun c6 => ?_) (fun c6 => ?_)
    · replace H := (if_pos c6).symm.trans H
      refine g_iconst (q := 52) (v := -1) dX7_order_51 rfl (by decide) ?_
      exact g_iret hX dX7_order_52 rfl rfl (Nat.le_refl _) (Nat.le_refl _) (piOk H)
    · replace H := (if_neg c6).symm.trans H
      refine g_aload_n (q := 10) (i := 0) dX7_order_9 rfl rfl rfl ?_
      refine g_iload_n (q := 11) (i := 2) dX7_order_10 rfl rfl rfl ?_
      obtain ⟨r1, σ1, e1, H⟩ := of_bnd H
      refine g_callV (q := 14) (rest := []) dX7_order_11 rfl cvX7_80 (ctX7_isCave e1) rfl rfl ⟨Nat.le_of_ble_eq_true rfl, Nat.le_of_ble_eq_true rfl⟩ ⟨Nat.le_refl _, Nat.le_refl _⟩ (Nat.le_of_ble_eq_true rfl) 24 hc24 rfl (fun r0 M9 hp => ?_)
      obtain ⟨rfl, rfl⟩ := hp
      show Go x _ _ g 14 [.ref (ad 24), .int l1, .int l2, .int l3, un_] [.int r1] (HH g ad σ1 ++ ex) 0 0
      refine g_if_eq (q := 17) (r := 51) dX7_order_14 (by decide) rfl (fun c14 => ?_) (fun c14 => ?_)
      · replace H := (if_pos c14).symm.trans H
        refine g_iconst (q := 52) (v := -1) dX7_order_51 rfl (by decide) ?_
        exact g_iret hX dX7_order_52 rfl rfl (Nat.le_refl _) (Nat.le_refl _) (piOk H)
      · replace H := (if_neg c14).symm.trans H
        refine g_iload_n (q := 18) (i := 1) dX7_order_17 rfl rfl rfl ?_
        refine g_iconst (q := 19) (v := 2) dX7_order_18 rfl (by decide) ?_
        refine g_icmp_lt (q := 22) (r := 41) dX7_order_19 (by decide) rfl (fun c19 => ?_) (fun c19 => ?_)
        · replace H := (if_pos c19).symm.trans H
          exact g_weak (L' := [.ref (ad 24), .int l1, .int l2, .int l3, un_]) ⟨Or.inr rfl, Or.inr rfl, Or.inr rfl, Or.inr rfl, Or.inl rfl, trivial⟩ (wbX7_order_41 (F := F) hX  _ _ _ _ H)
        · replace H := (if_neg c19).symm.trans H
          refine g_iload_n (q := 23) (i := 3) dX7_order_22 rfl rfl rfl ?_
          refine g_if_lt (q := 26) (r := 51) dX7_order_23 (by decide) rfl (fun c23 => ?_) (fun c23 => ?_)
          · replace H := (if_pos c23).symm.trans H
            refine g_iconst (q := 52) (v := -1) dX7_order_51 rfl (by decide) ?_
            exact g_iret hX dX7_order_52 rfl rfl (Nat.le_refl _) (Nat.le_refl _) (piOk H)
          · replace H := (if_neg c23).symm.trans H
            refine g_iload_n (q := 27) (i := 3) dX7_order_26 rfl rfl rfl ?_
            refine g_bipush (q := 29) (v := 18) dX7_order_27 rfl (by decide) ?_
            refine g_icmp_ge (q := 32) (r := 51) dX7_order_29 (by decide) rfl (fun c29 => ?_) (fun c29 => ?_)
            · replace H := (if_pos c29).symm.trans H
              refine g_iconst (q := 52) (v := -1) dX7_order_51 rfl (by decide) ?_
              exact g_iret hX dX7_order_52 rfl rfl (Nat.le_refl _) (Nat.le_refl _) (piOk H)
            · replace H := (if_neg c29).symm.trans H
              refine g_aload_n (q := 33) (i := 0) dX7_order_32 rfl rfl rfl ?_
              refine g_iload_n (q := 34) (i := 3) dX7_order_33 rfl rfl rfl ?_
              refine g_iload_n (q := 35) (i := 2) dX7_order_34 rfl rfl rfl ?_
              obtain ⟨r2, σ2, e2, H⟩ := of_bnd H
              refine g_callV (q := 38) (rest := []) dX7_order_35 rfl cvX7_116 (ctX7_isAt e2) rfl rfl ⟨Nat.le_of_ble_eq_true rfl, Nat.le_of_ble_eq_true rfl⟩ ⟨Nat.le_refl _, Nat.le_refl _⟩ (Nat.le_of_ble_eq_true rfl) 24 hc24 rfl (fun r0 M9 hp => ?_)
              obtain ⟨rfl, rfl⟩ := hp
              show Go x _ _ g 38 [.ref (ad 24), .int l1, .int l2, .int l3, un_] [.int r2] (HH g ad σ2 ++ ex) 0 0
              refine g_if_eq (q := 41) (r := 51) dX7_order_38 (by decide) rfl (fun c38 => ?_) (fun c38 => ?_)
              · replace H := (if_pos c38).symm.trans H
                refine g_iconst (q := 52) (v := -1) dX7_order_51 rfl (by decide) ?_
                exact g_iret hX dX7_order_52 rfl rfl (Nat.le_refl _) (Nat.le_refl _) (piOk H)
              · replace H := (if_neg c38).symm.trans H
                exact g_weak (L' := [.ref (ad 24), .int l1, .int l2, .int l3, un_]) ⟨Or.inr rfl, Or.inr rfl, Or.inr rfl, Or.inr rfl, Or.inl rfl, trivial⟩ (wbX7_order_41 (F := F) hX  _ _ _ _ H)
