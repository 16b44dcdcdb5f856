abbrev tL_law (nm : String) : MT := (cL_law, 4, RL, some .boolean, nm)
/-- the script, in the law's frame -/
def XX (x : FX) (b L0 : Nat) (xs : Nat → Int32) : Prop := match x with
  | (_, _, _, s, _, _, _, _, _, A, _) => va_X b L0 xs s s.heap ∧ b < s.heap.size ∧ ¬ A b
/-- a frame whose end is the law's -/
def ZX (x : FX) (b : Nat) : Prop := match x with
  | (_, _, _, s, _, args, below, _, _, A, Q) => args = #[Value.ref b] ∧ A = (fun q : Nat => s.heap.size ≤ q) ∧ Q = lw_Z below #[Value.ref b] s
section LAW1
variable {x : FX} {R : Room} {t : MT} {g : GX} {pc q : Nat} {L st : List Value} {M : va_W} {ce sl b L0 : Nat} {xs : Nat → Int32} {nm : String}
theorem g_sld {i : Int32} (hX : XX x b L0 xs) (hd : decode t.1 pc = .ok (.iaload, 1)) (hq : pc + 1 = q) (hin : ib i L0) (k : Go x R t g q L (.int (xs i.toNatClampNeg) :: st) M ce sl) : Go x R t g pc L (.int i :: .ref b :: st) M ce sl := by
  subst hq
  obtain ⟨p, l, e, s, m, args, below, meth, c, A, Q⟩ := x
  intro H locs ls F hl hP hD hS
  obtain ⟨h1, h2, h3⟩ := hX
  exact va_sld F.1 F.2.1 h1 h2 h3 hS hin hd (k H locs ls F hl hP hD hS)
theorem g_slen (hX : XX x b L0 xs) (hd : decode t.1 pc = .ok (.arraylength, 1)) (hq : pc + 1 = q) (k : Go x R t g q L (.int (nI L0) :: st) M ce sl) : Go x R t g pc L (.ref b :: st) M ce sl := by
  subst hq
  obtain ⟨p, l, e, s, m, args, below, meth, c, A, Q⟩ := x
  intro H locs ls F hl hP hD hS
  obtain ⟨h1, h2, h3⟩ := hX
  exact va_slen F.1 F.2.1 h1 h2 h3 hS hd (k H locs ls F hl hP hD hS)
theorem g_lawret (hZ : ZX x b) (hd : decode code pc = .ok (.ireturn, 1)) (h1 : ce ≤ 600000) (h2 : sl ≤ 7302250) : Go x room_1 (tL_law nm) g pc L [.int 1] M ce sl := by
  obtain ⟨p, l, e, s, m, args, below, meth, c, A, Q⟩ := x
  intro H locs ls F hl hP hD hS
  obtain ⟨rfl, rfl, rfl⟩ := hZ
  obtain ⟨f1, f2, f3, f4, f5, f6, f7, f8, f9, f10⟩ := F
  refine va_forget (fun q hq => hS.2.2 q hq) ?_
  refine W.widen h1 h2 ?_
  exact lw_ret f1 f2 f9 f8 hd
end LAW1
/-- every call on both keeps the invariant and answers alike -/
def StepsOk (Inv : Sg → Option Nat → Prop) : Prop := (∀ (σ : Sg) (wn : Option Nat) (a : Int32), Inv σ wn → PairOk Inv σ wn (fun F σ => fX6_caves F σ a) (fun F σ => fX7_caves F σ a)) ∧ (∀ (σ : Sg) (wn : Option Nat) (a b : Int32), Inv σ wn → PairOk Inv σ wn (fun F σ => fX6_passage F σ a b) (fun F σ => fX7_passage F σ a b)) ∧ (∀ (σ : Sg) (wn : Option Nat) (a : Int32), Inv σ wn → PairOk Inv σ wn (fun F σ => fX6_drop F σ a) (fun F σ => fX7_drop F σ a)) ∧ (∀ (σ : Sg) (wn : Option Nat) (a : Int32), Inv σ wn → PairOk Inv σ wn (fun F σ => fX6_mouth F σ a) (fun F σ => fX7_mouth F σ a)) ∧ (∀ (σ : Sg) (wn : Option Nat) (a b c : Int32), Inv σ wn → PairOk Inv σ wn (fun F σ => fX6_order F σ a b c) (fun F σ => fX7_order F σ a b c)) ∧ (∀ (σ : Sg) (wn : Option Nat), Inv σ wn → PairOk Inv σ wn (fun F σ => fX6_undo F σ ) (fun F σ => fX7_undo F σ )) ∧ (∀ (σ : Sg) (wn : Option Nat), Inv σ wn → PairOk Inv σ wn (fun F σ => fX6_anew F σ ) (fun F σ => fX7_anew F σ )) ∧ (∀ (σ : Sg) (wn : Option Nat) (a : Int32), Inv σ wn → PairOk Inv σ wn (fun F σ => fX6_count F σ a) (fun F σ => fX7_count F σ a)) ∧ (∀ (σ : Sg) (wn : Option Nat) (a b : Int32), Inv σ wn → PairOk Inv σ wn (fun F σ => fX6_look F σ a b) (fun F σ => fX7_look F σ a b)) ∧ (∀ (σ : Sg) (wn : Option Nat) (a : Int32), Inv σ wn → FewOk Inv σ a) ∧ (∀ (σ : Sg) (wn : Option Nat) (a b : Int32), Inv σ wn → PlanOk σ wn a b) ∧ (∀ (σ : Sg) (wn : Option Nat) (a b : Int32), Inv σ wn → PairOk Inv σ wn (fun F σ => fX6_witness F σ a b) (fun F σ => fX7_witness F σ a b)) ∧ (∀ (σ : Sg) (wn : Option Nat) (a : Int32), Inv σ wn → PairOk Inv σ wn (fun F σ => fX6_judge F σ a) (fun F σ => fX7_judge F σ a)) ∧ (∀ (σ : Sg) (wn : Option Nat) (a b : Int32), Inv σ wn → PairOk Inv σ wn (fun F σ => fX6_place F σ a b) (fun F σ => fX7_place F σ a b)) ∧ (∀ (σ : Sg) (wn : Option Nat) (a : Int32), Inv σ wn → PairOk Inv σ wn (fun F σ => fX6_cut F σ a) (fun F σ => fX7_cut F σ a)) ∧ (∀ (σ : Sg) (wn : Option Nat), Inv σ wn → PairOk Inv σ wn (fun F σ => fX6_width F σ ) (fun F σ => fX7_width F σ ))
theorem law_end {L0 j : Nat} (hL : L0 ≤ 2048) (hj : 4 * j ≤ 2048) : (nI L0 - 4 < nI (4 * j)) ↔ L0 < 4 * j + 4 := by
  rw [Int32.lt_iff_toInt_lt, nI_toInt (by omega)]
  have h4 : (4 : Int32) = nI 4 := by decide
  by_cases h : 4 ≤ L0
  · have e : nI L0 - 4 = nI (L0 - 4) := by
      have := nI_add (L0 - 4) 4
      rw [show L0 - 4 + 4 = L0 by omega, ← h4] at this
      rw [← this]
      exact Int32.add_sub_cancel _ _
    rw [e, nI_toInt (by omega)]
    omega
  · have h5 : L0 = 0 ∨ L0 = 1 ∨ L0 = 2 ∨ L0 = 3 := by omega
    rcases h5 with rfl | rfl | rfl | rfl
    · rw [show (nI 0 - 4 : Int32).toInt = -4 by decide]; omega
    · rw [show (nI 1 - 4 : Int32).toInt = -3 by decide]; omega
    · rw [show (nI 2 - 4 : Int32).toInt = -2 by decide]; omega
    · rw [show (nI 3 - 4 : Int32).toInt = -1 by decide]; omega
theorem nI4 (j : Nat) : nI (4 * j) + Int32.ofInt 4 = nI (4 * (j + 1)) := by
  rw [show Int32.ofInt 4 = nI 4 by decide, nI_add]
  rfl
set_option maxRecDepth 100000 in
set_option maxHeartbeats 8000000 in
theorem law_loop {Inv : Sg → Option Nat → Prop} (hS : StepsOk Inv) {x : FX} {g : GX} {b L0 : Nat} {xs : Nat → Int32} {nm : String} (hL : L0 ≤ 2048) (hX : XX x b L0 xs) (hZ : ZX x b) :
    ∀ (n j : Nat), L0 < 4 * j + 4 * n → 4 * j ≤ L0 → ∀ (σ : Sg) (wn : Option Nat) (ad : Nat → Nat) (M : va_W), Inv σ wn → WdM g ad σ wn M → Go x room_1 (tL_law nm) g 18 [.ref b, .ref (ad 0), .ref (ad 24), .int (nI (4 * j))] [] M (42 + 2 * j) (1331036 + 1605 * j) := by
  intro n
  induction n with
  | zero => intro j h1 h2; exact absurd h1 (by omega)
  | succ n ih =>
    intro j h1 h2 σ wn ad M hI hW
    refine g_iload_n (q := 19) (i := 3) dL_law_18 rfl rfl rfl ?_
    refine g_aload_n (q := 20) (i := 0) dL_law_19 rfl rfl rfl ?_
    refine g_slen (q := 21) hX dL_law_20 rfl ?_
    refine g_iconst (q := 22) (v := 4) dL_law_21 rfl (by decide) ?_
    refine g_isub (q := 23) dL_law_22 rfl ?_
    refine g_icmp_gt (q := 26) (r := 524) dL_law_23 (by decide) rfl (fun c23 => ?_) (fun c23 => ?_)
    · refine g_iconst (q := 525) (v := 1) dL_law_524 rfl (by decide) ?_
      exact g_lawret hZ dL_law_525 (by omega) (by omega)
    have hlt : 4 * j + 4 ≤ L0 := by
      have := (not_congr (law_end hL (show 4 * j ≤ 2048 by omega))).mp c23
      omega
    have i0 : ib (nI (4 * j)) L0 := nI_in (by omega) (by omega)
    have i1 : ib (nI (4 * j) + 1) L0 := by rw [show nI (4 * j) + 1 = nI (4 * j + 1) from nI_1 _]; exact nI_in (by omega) (by omega)
    have i2 : ib (nI (4 * j) + 2) L0 := by rw [show nI (4 * j) + 2 = nI (4 * j + 2) from nI_add _ 2]; exact nI_in (by omega) (by omega)
    have i3 : ib (nI (4 * j) + 3) L0 := by rw [show nI (4 * j) + 3 = nI (4 * j + 3) from nI_add _ 3]; exact nI_in (by omega) (by omega)
    generalize ea : xs (nI (4 * j) + 1).toNatClampNeg = va
    generalize eb : xs (nI (4 * j) + 2).toNatClampNeg = vb
    generalize ec : xs (nI (4 * j) + 3).toNatClampNeg = vc
    refine g_aload_n (q := 27) (i := 0) dL_law_26 rfl rfl rfl ?_
    refine g_iload_n (q := 28) (i := 3) dL_law_27 rfl rfl rfl ?_
    refine g_sld (q := 29) hX dL_law_28 rfl i0 ?_
    refine g_bipush (q := 31) (v := 15) dL_law_29 rfl (by decide) ?_
    refine g_iand (q := 32) dL_law_31 rfl ?_
    generalize xs (nI (4 * j)).toNatClampNeg &&& 15 = v
    have tail : ∀ (ad2 : Nat → Nat) (σ2 : Sg) (wn2 : Option Nat) (M2 : va_W) (ce sl : Nat), ad2 0 = ad 0 → ad2 24 = ad 24 → ce ≤ 44 + 2 * j → sl ≤ 1332641 + 1605 * j → Inv σ2 wn2 → WdM g ad2 σ2 wn2 M2 → Go x room_1 (tL_law nm) g 518 [.ref b, .ref (ad 0), .ref (ad 24), .int (nI (4 * j))] [] M2 ce sl := by
      intro ad2 σ2 wn2 M2 ce sl e0 e24 hce hsl hI2 hW2
      refine g_iinc (q := 521) (b := nI (4 * (j + 1))) (L' := [.ref b, .ref (ad 0), .ref (ad 24), .int (nI (4 * (j + 1)))]) dL_law_518 rfl rfl (nI4 j) (Nat.le_of_ble_eq_true rfl) rfl ?_
      refine g_goto (q := 18) dL_law_521 (by decide) ?_
      refine g_widen (ce' := 42 + 2 * (j + 1)) (sl' := 1331036 + 1605 * (j + 1)) (by omega) (by omega) ?_
      rw [← e0, ← e24]
      exact ih (j + 1) (by omega) (by omega) σ2 wn2 ad2 M2 hI2 hW2
    obtain ⟨ex, rfl, hk⟩ : ∃ ex, M = HH g ad σ ++ ex ∧ ∀ (σ2 : Sg) (wn' : Option Nat), Keep σ σ2 wn wn' → WdM g ad σ2 wn' (HH g ad σ2 ++ ex) := wd_ex hW
    obtain ⟨s0, s1, s2, s3, s4, s5, s6, s7, s8, s9, s10, s11, s12, s13, s14, s15⟩ := hS
    by_cases c32 : v.toInt < 0 ∨ 15 < v.toInt
    · refine g_swOut (q := 518) dL_law_32 c32 (by decide) ?_
      exact tail ad σ wn _ _ _ rfl rfl (by omega) (by omega) hI hW
    by_cases e32_0 : v = 0
    · refine g_swIn (q := 112) (off := 80) dL_law_32 (fun z => c32 (Or.inl z)) (fun z => c32 (Or.inr z)) (by rw [e32_0]; decide) (by decide) ?_
      obtain ⟨F, r, σ1, σ2, wn2, e1, e2, hI2, hK2⟩ := s0 σ wn va hI
      refine g_aload_n (q := 113) (i := 1) dL_law_112 rfl rfl rfl ?_
      refine g_aload_n (q := 114) (i := 0) dL_law_113 rfl rfl rfl ?_
      refine g_iload_n (q := 115) (i := 3) dL_law_114 rfl rfl rfl ?_
      refine g_iconst (q := 116) (v := 1) dL_law_115 rfl (by decide) ?_
      refine g_iadd (q := 117) dL_law_116 rfl ?_
      refine g_sld (q := 118) hX dL_law_117 rfl i1 ?_
      rw [ea]
      refine g_callV (q := 121) (rest := []) dL_law_118 rfl cvL_13 (ctX6_caves e1) rfl rfl ⟨Nat.le_of_ble_eq_true rfl, Nat.le_of_ble_eq_true rfl⟩ ⟨(by show _ ≤ 600000; omega), (by show _ ≤ 7302250; omega)⟩ (Nat.le_of_ble_eq_true rfl) 0 hc0 rfl (fun r0 M9 hp => ?_)
      obtain ⟨rfl, rfl⟩ := hp
      show Go x _ _ g 121 [.ref b, .ref (ad 0), .ref (ad 24), .int (nI (4 * j))] [.int r] (HH g ad σ1 ++ ex) _ _
      refine g_aload_n (q := 122) (i := 2) dL_law_121 rfl rfl rfl ?_
      refine g_aload_n (q := 123) (i := 0) dL_law_122 rfl rfl rfl ?_
      refine g_iload_n (q := 124) (i := 3) dL_law_123 rfl rfl rfl ?_
      refine g_iconst (q := 125) (v := 1) dL_law_124 rfl (by decide) ?_
      refine g_iadd (q := 126) dL_law_125 rfl ?_
      refine g_sld (q := 127) hX dL_law_126 rfl i1 ?_
      rw [ea]
      refine g_callV (q := 130) (rest := [.int r]) dL_law_127 rfl cvL_17 (ctX7_caves e2) rfl rfl ⟨Nat.le_of_ble_eq_true rfl, Nat.le_of_ble_eq_true rfl⟩ ⟨(by show _ ≤ 600000; omega), (by show _ ≤ 7302250; omega)⟩ (Nat.le_of_ble_eq_true rfl) 24 hc24 rfl (fun r0 M9 hp => ?_)
      obtain ⟨rfl, rfl⟩ := hp
      show Go x _ _ g 130 [.ref b, .ref (ad 0), .ref (ad 24), .int (nI (4 * j))] [.int r, .int r] (HH g ad σ2 ++ ex) _ _
      refine g_icmp_eq (q := 133) (r := 518) dL_law_130 (by decide) rfl (fun _ => ?_) (fun c => absurd rfl c)
      exact tail ad σ2 wn2 _ _ _ rfl rfl (by omega) (by omega) hI2 (hk σ2 wn2 hK2)
    by_cases e32_1 : v = 1
    · refine g_swIn (q := 135) (off := 103) dL_law_32 (fun z => c32 (Or.inl z)) (fun z => c32 (Or.inr z)) (by rw [e32_1]; decide) (by decide) ?_
      obtain ⟨F, r, σ1, σ2, wn2, e1, e2, hI2, hK2⟩ := s1 σ wn va vb hI
      refine g_aload_n (q := 136) (i := 1) dL_law_135 rfl rfl rfl ?_
      refine g_aload_n (q := 137) (i := 0) dL_law_136 rfl rfl rfl ?_
      refine g_iload_n (q := 138) (i := 3) dL_law_137 rfl rfl rfl ?_
      refine g_iconst (q := 139) (v := 1) dL_law_138 rfl (by decide) ?_
      refine g_iadd (q := 140) dL_law_139 rfl ?_
      refine g_sld (q := 141) hX dL_law_140 rfl i1 ?_
      rw [ea]
      refine g_aload_n (q := 142) (i := 0) dL_law_141 rfl rfl rfl ?_
      refine g_iload_n (q := 143) (i := 3) dL_law_142 rfl rfl rfl ?_
      refine g_iconst (q := 144) (v := 2) dL_law_143 rfl (by decide) ?_
      refine g_iadd (q := 145) dL_law_144 rfl ?_
      refine g_sld (q := 146) hX dL_law_145 rfl i2 ?_
      rw [eb]
      refine g_callV (q := 149) (rest := []) dL_law_146 rfl cvL_18 (ctX6_passage e1) rfl rfl ⟨Nat.le_of_ble_eq_true rfl, Nat.le_of_ble_eq_true rfl⟩ ⟨(by show _ ≤ 600000; omega), (by show _ ≤ 7302250; omega)⟩ (Nat.le_of_ble_eq_true rfl) 0 hc0 rfl (fun r0 M9 hp => ?_)
      obtain ⟨rfl, rfl⟩ := hp
      show Go x _ _ g 149 [.ref b, .ref (ad 0), .ref (ad 24), .int (nI (4 * j))] [.int r] (HH g ad σ1 ++ ex) _ _
      refine g_aload_n (q := 150) (i := 2) dL_law_149 rfl rfl rfl ?_
      refine g_aload_n (q := 151) (i := 0) dL_law_150 rfl rfl rfl ?_
      refine g_iload_n (q := 152) (i := 3) dL_law_151 rfl rfl rfl ?_
      refine g_iconst (q := 153) (v := 1) dL_law_152 rfl (by decide) ?_
      refine g_iadd (q := 154) dL_law_153 rfl ?_
      refine g_sld (q := 155) hX dL_law_154 rfl i1 ?_
      rw [ea]
      refine g_aload_n (q := 156) (i := 0) dL_law_155 rfl rfl rfl ?_
      refine g_iload_n (q := 157) (i := 3) dL_law_156 rfl rfl rfl ?_
      refine g_iconst (q := 158) (v := 2) dL_law_157 rfl (by decide) ?_
      refine g_iadd (q := 159) dL_law_158 rfl ?_
      refine g_sld (q := 160) hX dL_law_159 rfl i2 ?_
      rw [eb]
      refine g_callV (q := 163) (rest := [.int r]) dL_law_160 rfl cvL_22 (ctX7_passage e2) rfl rfl ⟨Nat.le_of_ble_eq_true rfl, Nat.le_of_ble_eq_true rfl⟩ ⟨(by show _ ≤ 600000; omega), (by show _ ≤ 7302250; omega)⟩ (Nat.le_of_ble_eq_true rfl) 24 hc24 rfl (fun r0 M9 hp => ?_)
      obtain ⟨rfl, rfl⟩ := hp
      show Go x _ _ g 163 [.ref b, .ref (ad 0), .ref (ad 24), .int (nI (4 * j))] [.int r, .int r] (HH g ad σ2 ++ ex) _ _
      refine g_icmp_eq (q := 166) (r := 518) dL_law_163 (by decide) rfl (fun _ => ?_) (fun c => absurd rfl c)
      exact tail ad σ2 wn2 _ _ _ rfl rfl (by omega) (by omega) hI2 (hk σ2 wn2 hK2)
    by_cases e32_2 : v = 2
    · refine g_swIn (q := 168) (off := 136) dL_law_32 (fun z => c32 (Or.inl z)) (fun z => c32 (Or.inr z)) (by rw [e32_2]; decide) (by decide) ?_
      obtain ⟨F, r, σ1, σ2, wn2, e1, e2, hI2, hK2⟩ := s2 σ wn va hI
      refine g_aload_n (q := 169) (i := 1) dL_law_168 rfl rfl rfl ?_
      refine g_aload_n (q := 170) (i := 0) dL_law_169 rfl rfl rfl ?_
      refine g_iload_n (q := 171) (i := 3) dL_law_170 rfl rfl rfl ?_
      refine g_iconst (q := 172) (v := 1) dL_law_171 rfl (by decide) ?_
      refine g_iadd (q := 173) dL_law_172 rfl ?_
      refine g_sld (q := 174) hX dL_law_173 rfl i1 ?_
      rw [ea]
      refine g_callV (q := 177) (rest := []) dL_law_174 rfl cvL_23 (ctX6_drop e1) rfl rfl ⟨Nat.le_of_ble_eq_true rfl, Nat.le_of_ble_eq_true rfl⟩ ⟨(by show _ ≤ 600000; omega), (by show _ ≤ 7302250; omega)⟩ (Nat.le_of_ble_eq_true rfl) 0 hc0 rfl (fun r0 M9 hp => ?_)
      obtain ⟨rfl, rfl⟩ := hp
      show Go x _ _ g 177 [.ref b, .ref (ad 0), .ref (ad 24), .int (nI (4 * j))] [.int r] (HH g ad σ1 ++ ex) _ _
      refine g_aload_n (q := 178) (i := 2) dL_law_177 rfl rfl rfl ?_
      refine g_aload_n (q := 179) (i := 0) dL_law_178 rfl rfl rfl ?_
      refine g_iload_n (q := 180) (i := 3) dL_law_179 rfl rfl rfl ?_
      refine g_iconst (q := 181) (v := 1) dL_law_180 rfl (by decide) ?_
      refine g_iadd (q := 182) dL_law_181 rfl ?_
      refine g_sld (q := 183) hX dL_law_182 rfl i1 ?_
      rw [ea]
      refine g_callV (q := 186) (rest := [.int r]) dL_law_183 rfl cvL_26 (ctX7_drop e2) rfl rfl ⟨Nat.le_of_ble_eq_true rfl, Nat.le_of_ble_eq_true rfl⟩ ⟨(by show _ ≤ 600000; omega), (by show _ ≤ 7302250; omega)⟩ (Nat.le_of_ble_eq_true rfl) 24 hc24 rfl (fun r0 M9 hp => ?_)
      obtain ⟨rfl, rfl⟩ := hp
      show Go x _ _ g 186 [.ref b, .ref (ad 0), .ref (ad 24), .int (nI (4 * j))] [.int r, .int r] (HH g ad σ2 ++ ex) _ _
      refine g_icmp_eq (q := 189) (r := 518) dL_law_186 (by decide) rfl (fun _ => ?_) (fun c => absurd rfl c)
      exact tail ad σ2 wn2 _ _ _ rfl rfl (by omega) (by omega) hI2 (hk σ2 wn2 hK2)
    by_cases e32_3 : v = 3
    · refine g_swIn (q := 191) (off := 159) dL_law_32 (fun z => c32 (Or.inl z)) (fun z => c32 (Or.inr z)) (by rw [e32_3]; decide) (by decide) ?_
      obtain ⟨F, r, σ1, σ2, wn2, e1, e2, hI2, hK2⟩ := s3 σ wn va hI
      refine g_aload_n (q := 192) (i := 1) dL_law_191 rfl rfl rfl ?_
      refine g_aload_n (q := 193) (i := 0) dL_law_192 rfl rfl rfl ?_
      refine g_iload_n (q := 194) (i := 3) dL_law_193 rfl rfl rfl ?_
      refine g_iconst (q := 195) (v := 1) dL_law_194 rfl (by decide) ?_
      refine g_iadd (q := 196) dL_law_195 rfl ?_
      refine g_sld (q := 197) hX dL_law_196 rfl i1 ?_
      rw [ea]
      refine g_callV (q := 200) (rest := []) dL_law_197 rfl cvL_27 (ctX6_mouth e1) rfl rfl ⟨Nat.le_of_ble_eq_true rfl, Nat.le_of_ble_eq_true rfl⟩ ⟨(by show _ ≤ 600000; omega), (by show _ ≤ 7302250; omega)⟩ (Nat.le_of_ble_eq_true rfl) 0 hc0 rfl (fun r0 M9 hp => ?_)
      obtain ⟨rfl, rfl⟩ := hp
      show Go x _ _ g 200 [.ref b, .ref (ad 0), .ref (ad 24), .int (nI (4 * j))] [.int r] (HH g ad σ1 ++ ex) _ _
      refine g_aload_n (q := 201) (i := 2) dL_law_200 rfl rfl rfl ?_
      refine g_aload_n (q := 202) (i := 0) dL_law_201 rfl rfl rfl ?_
      refine g_iload_n (q := 203) (i := 3) dL_law_202 rfl rfl rfl ?_
      refine g_iconst (q := 204) (v := 1) dL_law_203 rfl (by decide) ?_
      refine g_iadd (q := 205) dL_law_204 rfl ?_
      refine g_sld (q := 206) hX dL_law_205 rfl i1 ?_
      rw [ea]
      refine g_callV (q := 209) (rest := [.int r]) dL_law_206 rfl cvL_30 (ctX7_mouth e2) rfl rfl ⟨Nat.le_of_ble_eq_true rfl, Nat.le_of_ble_eq_true rfl⟩ ⟨(by show _ ≤ 600000; omega), (by show _ ≤ 7302250; omega)⟩ (Nat.le_of_ble_eq_true rfl) 24 hc24 rfl (fun r0 M9 hp => ?_)
      obtain ⟨rfl, rfl⟩ := hp
      show Go x _ _ g 209 [.ref b, .ref (ad 0), .ref (ad 24), .int (nI (4 * j))] [.int r, .int r] (HH g ad σ2 ++ ex) _ _
      refine g_icmp_eq (q := 212) (r := 518) dL_law_209 (by decide) rfl (fun _ => ?_) (fun c => absurd rfl c)
      exact tail ad σ2 wn2 _ _ _ rfl rfl (by omega) (by omega) hI2 (hk σ2 wn2 hK2)
    by_cases e32_4 : v = 4
    · refine g_swIn (q := 214) (off := 182) dL_law_32 (fun z => c32 (Or.inl z)) (fun z => c32 (Or.inr z)) (by rw [e32_4]; decide) (by decide) ?_
      obtain ⟨F, r, σ1, σ2, wn2, e1, e2, hI2, hK2⟩ := s4 σ wn va vb vc hI
      refine g_aload_n (q := 215) (i := 1) dL_law_214 rfl rfl rfl ?_
      refine g_aload_n (q := 216) (i := 0) dL_law_215 rfl rfl rfl ?_
      refine g_iload_n (q := 217) (i := 3) dL_law_216 rfl rfl rfl ?_
      refine g_iconst (q := 218) (v := 1) dL_law_217 rfl (by decide) ?_
      refine g_iadd (q := 219) dL_law_218 rfl ?_
      refine g_sld (q := 220) hX dL_law_219 rfl i1 ?_
      rw [ea]
      refine g_aload_n (q := 221) (i := 0) dL_law_220 rfl rfl rfl ?_
      refine g_iload_n (q := 222) (i := 3) dL_law_221 rfl rfl rfl ?_
      refine g_iconst (q := 223) (v := 2) dL_law_222 rfl (by decide) ?_
      refine g_iadd (q := 224) dL_law_223 rfl ?_
      refine g_sld (q := 225) hX dL_law_224 rfl i2 ?_
      rw [eb]
      refine g_aload_n (q := 226) (i := 0) dL_law_225 rfl rfl rfl ?_
      refine g_iload_n (q := 227) (i := 3) dL_law_226 rfl rfl rfl ?_
      refine g_iconst (q := 228) (v := 3) dL_law_227 rfl (by decide) ?_
      refine g_iadd (q := 229) dL_law_228 rfl ?_
      refine g_sld (q := 230) hX dL_law_229 rfl i3 ?_
      rw [ec]
      refine g_callV (q := 233) (rest := []) dL_law_230 rfl cvL_31 (ctX6_order e1) rfl rfl ⟨Nat.le_of_ble_eq_true rfl, Nat.le_of_ble_eq_true rfl⟩ ⟨(by show _ ≤ 600000; omega), (by show _ ≤ 7302250; omega)⟩ (Nat.le_of_ble_eq_true rfl) 0 hc0 rfl (fun r0 M9 hp => ?_)
      obtain ⟨rfl, rfl⟩ := hp
      show Go x _ _ g 233 [.ref b, .ref (ad 0), .ref (ad 24), .int (nI (4 * j))] [.int r] (HH g ad σ1 ++ ex) _ _
      refine g_aload_n (q := 234) (i := 2) dL_law_233 rfl rfl rfl ?_
      refine g_aload_n (q := 235) (i := 0) dL_law_234 rfl rfl rfl ?_
      refine g_iload_n (q := 236) (i := 3) dL_law_235 rfl rfl rfl ?_
      refine g_iconst (q := 237) (v := 1) dL_law_236 rfl (by decide) ?_
      refine g_iadd (q := 238) dL_law_237 rfl ?_
      refine g_sld (q := 239) hX dL_law_238 rfl i1 ?_
      rw [ea]
      refine g_aload_n (q := 240) (i := 0) dL_law_239 rfl rfl rfl ?_
      refine g_iload_n (q := 241) (i := 3) dL_law_240 rfl rfl rfl ?_
      refine g_iconst (q := 242) (v := 2) dL_law_241 rfl (by decide) ?_
      refine g_iadd (q := 243) dL_law_242 rfl ?_
      refine g_sld (q := 244) hX dL_law_243 rfl i2 ?_
      rw [eb]
      refine g_aload_n (q := 245) (i := 0) dL_law_244 rfl rfl rfl ?_
      refine g_iload_n (q := 246) (i := 3) dL_law_245 rfl rfl rfl ?_
      refine g_iconst (q := 247) (v := 3) dL_law_246 rfl (by decide) ?_
      refine g_iadd (q := 248) dL_law_247 rfl ?_
      refine g_sld (q := 249) hX dL_law_248 rfl i3 ?_
      rw [ec]
      refine g_callV (q := 252) (rest := [.int r]) dL_law_249 rfl cvL_35 (ctX7_order e2) rfl rfl ⟨Nat.le_of_ble_eq_true rfl, Nat.le_of_ble_eq_true rfl⟩ ⟨(by show _ ≤ 600000; omega), (by show _ ≤ 7302250; omega)⟩ (Nat.le_of_ble_eq_true rfl) 24 hc24 rfl (fun r0 M9 hp => ?_)
      obtain ⟨rfl, rfl⟩ := hp
      show Go x _ _ g 252 [.ref b, .ref (ad 0), .ref (ad 24), .int (nI (4 * j))] [.int r, .int r] (HH g ad σ2 ++ ex) _ _
      refine g_icmp_eq (q := 255) (r := 518) dL_law_252 (by decide) rfl (fun _ => ?_) (fun c => absurd rfl c)
      exact tail ad σ2 wn2 _ _ _ rfl rfl (by omega) (by omega) hI2 (hk σ2 wn2 hK2)
    by_cases e32_5 : v = 5
    · refine g_swIn (q := 257) (off := 225) dL_law_32 (fun z => c32 (Or.inl z)) (fun z => c32 (Or.inr z)) (by rw [e32_5]; decide) (by decide) ?_
      obtain ⟨F, r, σ1, σ2, wn2, e1, e2, hI2, hK2⟩ := s5 σ wn hI
      refine g_aload_n (q := 258) (i := 1) dL_law_257 rfl rfl rfl ?_
      refine g_callV (q := 261) (rest := []) dL_law_258 rfl cvL_36 (ctX6_undo e1) rfl rfl ⟨Nat.le_of_ble_eq_true rfl, Nat.le_of_ble_eq_true rfl⟩ ⟨(by show _ ≤ 600000; omega), (by show _ ≤ 7302250; omega)⟩ (Nat.le_of_ble_eq_true rfl) 0 hc0 rfl (fun r0 M9 hp => ?_)
      obtain ⟨rfl, rfl⟩ := hp
      show Go x _ _ g 261 [.ref b, .ref (ad 0), .ref (ad 24), .int (nI (4 * j))] [.int r] (HH g ad σ1 ++ ex) _ _
      refine g_aload_n (q := 262) (i := 2) dL_law_261 rfl rfl rfl ?_
      refine g_callV (q := 265) (rest := [.int r]) dL_law_262 rfl cvL_40 (ctX7_undo e2) rfl rfl ⟨Nat.le_of_ble_eq_true rfl, Nat.le_of_ble_eq_true rfl⟩ ⟨(by show _ ≤ 600000; omega), (by show _ ≤ 7302250; omega)⟩ (Nat.le_of_ble_eq_true rfl) 24 hc24 rfl (fun r0 M9 hp => ?_)
      obtain ⟨rfl, rfl⟩ := hp
      show Go x _ _ g 265 [.ref b, .ref (ad 0), .ref (ad 24), .int (nI (4 * j))] [.int r, .int r] (HH g ad σ2 ++ ex) _ _
      refine g_icmp_eq (q := 268) (r := 518) dL_law_265 (by decide) rfl (fun _ => ?_) (fun c => absurd rfl c)
      exact tail ad σ2 wn2 _ _ _ rfl rfl (by omega) (by omega) hI2 (hk σ2 wn2 hK2)
    by_cases e32_6 : v = 6
    · refine g_swIn (q := 270) (off := 238) dL_law_32 (fun z => c32 (Or.inl z)) (fun z => c32 (Or.inr z)) (by rw [e32_6]; decide) (by decide) ?_
      obtain ⟨F, r, σ1, σ2, wn2, e1, e2, hI2, hK2⟩ := s6 σ wn hI
      refine g_aload_n (q := 271) (i := 1) dL_law_270 rfl rfl rfl ?_
      refine g_callV (q := 274) (rest := []) dL_law_271 rfl cvL_41 (ctX6_anew e1) rfl rfl ⟨Nat.le_of_ble_eq_true rfl, Nat.le_of_ble_eq_true rfl⟩ ⟨(by show _ ≤ 600000; omega), (by show _ ≤ 7302250; omega)⟩ (Nat.le_of_ble_eq_true rfl) 0 hc0 rfl (fun r0 M9 hp => ?_)
      obtain ⟨rfl, rfl⟩ := hp
      show Go x _ _ g 274 [.ref b, .ref (ad 0), .ref (ad 24), .int (nI (4 * j))] [] (HH g ad σ1 ++ ex) _ _
      refine g_aload_n (q := 275) (i := 2) dL_law_274 rfl rfl rfl ?_
      refine g_callV (q := 278) (rest := []) dL_law_275 rfl cvL_44 (ctX7_anew e2) rfl rfl ⟨Nat.le_of_ble_eq_true rfl, Nat.le_of_ble_eq_true rfl⟩ ⟨(by show _ ≤ 600000; omega), (by show _ ≤ 7302250; omega)⟩ (Nat.le_of_ble_eq_true rfl) 24 hc24 rfl (fun r0 M9 hp => ?_)
      obtain ⟨rfl, rfl⟩ := hp
      show Go x _ _ g 278 [.ref b, .ref (ad 0), .ref (ad 24), .int (nI (4 * j))] [] (HH g ad σ2 ++ ex) _ _
      refine g_goto (q := 518) dL_law_278 (by decide) ?_
      exact tail ad σ2 wn2 _ _ _ rfl rfl (by omega) (by omega) hI2 (hk σ2 wn2 hK2)
    by_cases e32_7 : v = 7
    · refine g_swIn (q := 281) (off := 249) dL_law_32 (fun z => c32 (Or.inl z)) (fun z => c32 (Or.inr z)) (by rw [e32_7]; decide) (by decide) ?_
      obtain ⟨F, r, σ1, σ2, wn2, e1, e2, hI2, hK2⟩ := s7 σ wn va hI
      refine g_aload_n (q := 282) (i := 1) dL_law_281 rfl rfl rfl ?_
      refine g_aload_n (q := 283) (i := 0) dL_law_282 rfl rfl rfl ?_
      refine g_iload_n (q := 284) (i := 3) dL_law_283 rfl rfl rfl ?_
      refine g_iconst (q := 285) (v := 1) dL_law_284 rfl (by decide) ?_
      refine g_iadd (q := 286) dL_law_285 rfl ?_
      refine g_sld (q := 287) hX dL_law_286 rfl i1 ?_
      rw [ea]
      refine g_callV (q := 290) (rest := []) dL_law_287 rfl cvL_45 (ctX6_count e1) rfl rfl ⟨Nat.le_of_ble_eq_true rfl, Nat.le_of_ble_eq_true rfl⟩ ⟨(by show _ ≤ 600000; omega), (by show _ ≤ 7302250; omega)⟩ (Nat.le_of_ble_eq_true rfl) 0 hc0 rfl (fun r0 M9 hp => ?_)
      obtain ⟨rfl, rfl⟩ := hp
      show Go x _ _ g 290 [.ref b, .ref (ad 0), .ref (ad 24), .int (nI (4 * j))] [.int r] (HH g ad σ1 ++ ex) _ _
      refine g_aload_n (q := 291) (i := 2) dL_law_290 rfl rfl rfl ?_
      refine g_aload_n (q := 292) (i := 0) dL_law_291 rfl rfl rfl ?_
      refine g_iload_n (q := 293) (i := 3) dL_law_292 rfl rfl rfl ?_
      refine g_iconst (q := 294) (v := 1) dL_law_293 rfl (by decide) ?_
      refine g_iadd (q := 295) dL_law_294 rfl ?_
      refine g_sld (q := 296) hX dL_law_295 rfl i1 ?_
      rw [ea]
      refine g_callV (q := 299) (rest := [.int r]) dL_law_296 rfl cvL_49 (ctX7_count e2) rfl rfl ⟨Nat.le_of_ble_eq_true rfl, Nat.le_of_ble_eq_true rfl⟩ ⟨(by show _ ≤ 600000; omega), (by show _ ≤ 7302250; omega)⟩ (Nat.le_of_ble_eq_true rfl) 24 hc24 rfl (fun r0 M9 hp => ?_)
      obtain ⟨rfl, rfl⟩ := hp
      show Go x _ _ g 299 [.ref b, .ref (ad 0), .ref (ad 24), .int (nI (4 * j))] [.int r, .int r] (HH g ad σ2 ++ ex) _ _
      refine g_icmp_eq (q := 302) (r := 518) dL_law_299 (by decide) rfl (fun _ => ?_) (fun c => absurd rfl c)
      exact tail ad σ2 wn2 _ _ _ rfl rfl (by omega) (by omega) hI2 (hk σ2 wn2 hK2)
    by_cases e32_8 : v = 8
    · refine g_swIn (q := 304) (off := 272) dL_law_32 (fun z => c32 (Or.inl z)) (fun z => c32 (Or.inr z)) (by rw [e32_8]; decide) (by decide) ?_
      obtain ⟨F, r, σ1, σ2, wn2, e1, e2, hI2, hK2⟩ := s8 σ wn va vb hI
      refine g_aload_n (q := 305) (i := 1) dL_law_304 rfl rfl rfl ?_
      refine g_aload_n (q := 306) (i := 0) dL_law_305 rfl rfl rfl ?_
      refine g_iload_n (q := 307) (i := 3) dL_law_306 rfl rfl rfl ?_
      refine g_iconst (q := 308) (v := 1) dL_law_307 rfl (by decide) ?_
      refine g_iadd (q := 309) dL_law_308 rfl ?_
      refine g_sld (q := 310) hX dL_law_309 rfl i1 ?_
      rw [ea]
      refine g_aload_n (q := 311) (i := 0) dL_law_310 rfl rfl rfl ?_
      refine g_iload_n (q := 312) (i := 3) dL_law_311 rfl rfl rfl ?_
      refine g_iconst (q := 313) (v := 2) dL_law_312 rfl (by decide) ?_
      refine g_iadd (q := 314) dL_law_313 rfl ?_
      refine g_sld (q := 315) hX dL_law_314 rfl i2 ?_
      rw [eb]
      refine g_callV (q := 318) (rest := []) dL_law_315 rfl cvL_50 (ctX6_look e1) rfl rfl ⟨Nat.le_of_ble_eq_true rfl, Nat.le_of_ble_eq_true rfl⟩ ⟨(by show _ ≤ 600000; omega), (by show _ ≤ 7302250; omega)⟩ (Nat.le_of_ble_eq_true rfl) 0 hc0 rfl (fun r0 M9 hp => ?_)
      obtain ⟨rfl, rfl⟩ := hp
      show Go x _ _ g 318 [.ref b, .ref (ad 0), .ref (ad 24), .int (nI (4 * j))] [.int r] (HH g ad σ1 ++ ex) _ _
      refine g_aload_n (q := 319) (i := 2) dL_law_318 rfl rfl rfl ?_
      refine g_aload_n (q := 320) (i := 0) dL_law_319 rfl rfl rfl ?_
      refine g_iload_n (q := 321) (i := 3) dL_law_320 rfl rfl rfl ?_
      refine g_iconst (q := 322) (v := 1) dL_law_321 rfl (by decide) ?_
      refine g_iadd (q := 323) dL_law_322 rfl ?_
      refine g_sld (q := 324) hX dL_law_323 rfl i1 ?_
      rw [ea]
      refine g_aload_n (q := 325) (i := 0) dL_law_324 rfl rfl rfl ?_
      refine g_iload_n (q := 326) (i := 3) dL_law_325 rfl rfl rfl ?_
      refine g_iconst (q := 327) (v := 2) dL_law_326 rfl (by decide) ?_
      refine g_iadd (q := 328) dL_law_327 rfl ?_
      refine g_sld (q := 329) hX dL_law_328 rfl i2 ?_
      rw [eb]
      refine g_callV (q := 332) (rest := [.int r]) dL_law_329 rfl cvL_53 (ctX7_look e2) rfl rfl ⟨Nat.le_of_ble_eq_true rfl, Nat.le_of_ble_eq_true rfl⟩ ⟨(by show _ ≤ 600000; omega), (by show _ ≤ 7302250; omega)⟩ (Nat.le_of_ble_eq_true rfl) 24 hc24 rfl (fun r0 M9 hp => ?_)
      obtain ⟨rfl, rfl⟩ := hp
      show Go x _ _ g 332 [.ref b, .ref (ad 0), .ref (ad 24), .int (nI (4 * j))] [.int r, .int r] (HH g ad σ2 ++ ex) _ _
      refine g_icmp_eq (q := 335) (r := 518) dL_law_332 (by decide) rfl (fun _ => ?_) (fun c => absurd rfl c)
      exact tail ad σ2 wn2 _ _ _ rfl rfl (by omega) (by omega) hI2 (hk σ2 wn2 hK2)
    by_cases e32_9 : v = 9
    · refine g_swIn (q := 337) (off := 305) dL_law_32 (fun z => c32 (Or.inl z)) (fun z => c32 (Or.inr z)) (by rw [e32_9]; decide) (by decide) ?_
      rcases s9 σ wn va hI with ⟨F, r, σ1, σ2, e1, e2, hI2, hK2⟩ | ⟨F, r, σ1, τ, N, e1, hN, e3, e4, e5⟩
      · refine g_aload_n (q := 338) (i := 1) dL_law_337 rfl rfl rfl ?_
        refine g_aload_n (q := 339) (i := 0) dL_law_338 rfl rfl rfl ?_
        refine g_iload_n (q := 340) (i := 3) dL_law_339 rfl rfl rfl ?_
        refine g_iconst (q := 341) (v := 1) dL_law_340 rfl (by decide) ?_
        refine g_iadd (q := 342) dL_law_341 rfl ?_
        refine g_sld (q := 343) hX dL_law_342 rfl i1 ?_
        rw [ea]
        refine g_callV (q := 346) (rest := []) dL_law_343 rfl cvL_54 (ctX6_fewestN e1) rfl rfl ⟨Nat.le_of_ble_eq_true rfl, Nat.le_of_ble_eq_true rfl⟩ ⟨(by show _ ≤ 600000; omega), (by show _ ≤ 7302250; omega)⟩ (Nat.le_of_ble_eq_true rfl) 0 hc0 rfl (fun r0 M9 hp => ?_)
        obtain ⟨rfl, rfl⟩ := hp
        show Go x _ _ g 346 [.ref b, .ref (ad 0), .ref (ad 24), .int (nI (4 * j))] [.int r] (HH g ad σ1 ++ ex) _ _
        refine g_aload_n (q := 347) (i := 2) dL_law_346 rfl rfl rfl ?_
        refine g_aload_n (q := 348) (i := 0) dL_law_347 rfl rfl rfl ?_
        refine g_iload_n (q := 349) (i := 3) dL_law_348 rfl rfl rfl ?_
        refine g_iconst (q := 350) (v := 1) dL_law_349 rfl (by decide) ?_
        refine g_iadd (q := 351) dL_law_350 rfl ?_
        refine g_sld (q := 352) hX dL_law_351 rfl i1 ?_
        rw [ea]
        refine g_callV (q := 355) (rest := [.int r]) dL_law_352 rfl cvL_57 (ctX7_fewest e2) rfl rfl ⟨Nat.le_of_ble_eq_true rfl, Nat.le_of_ble_eq_true rfl⟩ ⟨(by show _ ≤ 600000; omega), (by show _ ≤ 7302250; omega)⟩ (Nat.le_of_ble_eq_true rfl) 24 hc24 rfl (fun r0 M9 hp => ?_)
        obtain ⟨rfl, rfl⟩ := hp
        show Go x _ _ g 355 [.ref b, .ref (ad 0), .ref (ad 24), .int (nI (4 * j))] [.int r, .int r] (HH g ad σ2 ++ ex) _ _
        refine g_icmp_eq (q := 358) (r := 518) dL_law_355 (by decide) rfl (fun _ => ?_) (fun c => absurd rfl c)
        exact tail ad σ2 none _ _ _ rfl rfl (by omega) (by omega) hI2 (hk σ2 none (Or.inr ⟨rfl, hK2⟩))
      · refine g_aload_n (q := 338) (i := 1) dL_law_337 rfl rfl rfl ?_
        refine g_aload_n (q := 339) (i := 0) dL_law_338 rfl rfl rfl ?_
        refine g_iload_n (q := 340) (i := 3) dL_law_339 rfl rfl rfl ?_
        refine g_iconst (q := 341) (v := 1) dL_law_340 rfl (by decide) ?_
        refine g_iadd (q := 342) dL_law_341 rfl ?_
        refine g_sld (q := 343) hX dL_law_342 rfl i1 ?_
        rw [ea]
        refine g_callV (q := 346) (rest := []) dL_law_343 rfl cvL_54 (ctX6_fewestW e1 hN e3 e4) rfl rfl ⟨Nat.le_of_ble_eq_true rfl, Nat.le_of_ble_eq_true rfl⟩ ⟨(by show _ ≤ 600000; omega), (by show _ ≤ 7302250; omega)⟩ (Nat.le_of_ble_eq_true rfl) 0 hc0 rfl (fun r0 M9 hp => ?_)
        obtain ⟨rfl, q, aa, rfl⟩ := hp
        obtain ⟨σ2, e2, hI2, e6, e7⟩ := e5 (.ref q)
        show Go x _ _ g 346 [.ref b, .ref (adw ad q aa 0), .ref (adw ad q aa 24), .int (nI (4 * j))] [.int r] (HH g (adw ad q aa) (sw τ (.ref q)) ++ [(adw ad q aa 42, .inr (5, [.ref (adw ad q aa 43)])), (adw ad q aa 43, .inl (g.2.1, N, .inl (τ.2.1 43)))]) _ _
        refine g_aload_n (q := 347) (i := 2) dL_law_346 rfl rfl rfl ?_
        refine g_aload_n (q := 348) (i := 0) dL_law_347 rfl rfl rfl ?_
        refine g_iload_n (q := 349) (i := 3) dL_law_348 rfl rfl rfl ?_
        refine g_iconst (q := 350) (v := 1) dL_law_349 rfl (by decide) ?_
        refine g_iadd (q := 351) dL_law_350 rfl ?_
        refine g_sld (q := 352) hX dL_law_351 rfl i1 ?_
        rw [ea]
        refine g_callV (q := 355) (rest := [.int r]) dL_law_352 rfl cvL_57 (ctX7_fewest e2) rfl rfl ⟨Nat.le_of_ble_eq_true rfl, Nat.le_of_ble_eq_true rfl⟩ ⟨(by show _ ≤ 600000; omega), (by show _ ≤ 7302250; omega)⟩ (Nat.le_of_ble_eq_true rfl) 24 hc24 rfl (fun r0 M9 hp => ?_)
        obtain ⟨rfl, rfl⟩ := hp
        show Go x _ _ g 355 [.ref b, .ref (ad 0), .ref (ad 24), .int (nI (4 * j))] [.int r, .int r] (HH g (adw ad q aa) σ2 ++ [(adw ad q aa 42, .inr (5, [.ref (adw ad q aa 43)])), (adw ad q aa 43, .inl (g.2.1, N, .inl (τ.2.1 43)))]) _ _
        refine g_icmp_eq (q := 358) (r := 518) dL_law_355 (by decide) rfl (fun _ => ?_) (fun c => absurd rfl c)
        exact tail (adw ad q aa) σ2 (some N) _ _ _ rfl rfl (by omega) (by omega) hI2 (Or.inr ⟨N, rfl, e7, by unfold HW; rw [e6]⟩)
    by_cases e32_10 : v = 10
    · refine g_swIn (q := 360) (off := 328) dL_law_32 (fun z => c32 (Or.inl z)) (fun z => c32 (Or.inr z)) (by rw [e32_10]; decide) (by decide) ?_
      have s := s10 σ wn va vb hI
      rcases hW with ⟨rfl, hw1, ex1, hw2⟩ | ⟨n1, rfl, hw1, hw2⟩
      · obtain ⟨F, e2⟩ := s
        refine g_aload_n (q := 361) (i := 1) dL_law_360 rfl rfl rfl ?_
        refine g_aload_n (q := 362) (i := 0) dL_law_361 rfl rfl rfl ?_
        refine g_iload_n (q := 363) (i := 3) dL_law_362 rfl rfl rfl ?_
        refine g_iconst (q := 364) (v := 1) dL_law_363 rfl (by decide) ?_
        refine g_iadd (q := 365) dL_law_364 rfl ?_
        refine g_sld (q := 366) hX dL_law_365 rfl i1 ?_
        rw [ea]
        refine g_aload_n (q := 367) (i := 0) dL_law_366 rfl rfl rfl ?_
        refine g_iload_n (q := 368) (i := 3) dL_law_367 rfl rfl rfl ?_
        refine g_iconst (q := 369) (v := 2) dL_law_368 rfl (by decide) ?_
        refine g_iadd (q := 370) dL_law_369 rfl ?_
        refine g_sld (q := 371) hX dL_law_370 rfl i2 ?_
        rw [eb]
        refine g_callV (q := 374) (rest := []) dL_law_371 rfl cvL_58 (ctX6_planN hw1) rfl rfl ⟨Nat.le_of_ble_eq_true rfl, Nat.le_of_ble_eq_true rfl⟩ ⟨(by show _ ≤ 600000; omega), (by show _ ≤ 7302250; omega)⟩ (Nat.le_of_ble_eq_true rfl) 0 hc0 rfl (fun r0 M9 hp => ?_)
        obtain ⟨rfl, rfl⟩ := hp
        show Go x _ _ g 374 [.ref b, .ref (ad 0), .ref (ad 24), .int (nI (4 * j))] [.int (-1)] (HH g ad σ ++ ex) _ _
        refine g_aload_n (q := 375) (i := 2) dL_law_374 rfl rfl rfl ?_
        refine g_aload_n (q := 376) (i := 0) dL_law_375 rfl rfl rfl ?_
        refine g_iload_n (q := 377) (i := 3) dL_law_376 rfl rfl rfl ?_
        refine g_iconst (q := 378) (v := 1) dL_law_377 rfl (by decide) ?_
        refine g_iadd (q := 379) dL_law_378 rfl ?_
        refine g_sld (q := 380) hX dL_law_379 rfl i1 ?_
        rw [ea]
        refine g_aload_n (q := 381) (i := 0) dL_law_380 rfl rfl rfl ?_
        refine g_iload_n (q := 382) (i := 3) dL_law_381 rfl rfl rfl ?_
        refine g_iconst (q := 383) (v := 2) dL_law_382 rfl (by decide) ?_
        refine g_iadd (q := 384) dL_law_383 rfl ?_
        refine g_sld (q := 385) hX dL_law_384 rfl i2 ?_
        rw [eb]
        refine g_callV (q := 388) (rest := [.int (-1)]) dL_law_385 rfl cvL_61 (ctX7_plan e2) rfl rfl ⟨Nat.le_of_ble_eq_true rfl, Nat.le_of_ble_eq_true rfl⟩ ⟨(by show _ ≤ 600000; omega), (by show _ ≤ 7302250; omega)⟩ (Nat.le_of_ble_eq_true rfl) 24 hc24 rfl (fun r0 M9 hp => ?_)
        obtain ⟨rfl, rfl⟩ := hp
        show Go x _ _ g 388 [.ref b, .ref (ad 0), .ref (ad 24), .int (nI (4 * j))] [.int (-1), .int (-1)] (HH g ad σ ++ ex) _ _
        refine g_icmp_eq (q := 391) (r := 518) dL_law_388 (by decide) rfl (fun _ => ?_) (fun c => absurd rfl c)
        exact tail ad σ none _ _ _ rfl rfl (by omega) (by omega) hI (Or.inl ⟨rfl, hw1, ex, rfl⟩)
      · obtain ⟨F, r, e1, e2⟩ := s
        rw [hw2]
        refine g_aload_n (q := 361) (i := 1) dL_law_360 rfl rfl rfl ?_
        refine g_aload_n (q := 362) (i := 0) dL_law_361 rfl rfl rfl ?_
        refine g_iload_n (q := 363) (i := 3) dL_law_362 rfl rfl rfl ?_
        refine g_iconst (q := 364) (v := 1) dL_law_363 rfl (by decide) ?_
        refine g_iadd (q := 365) dL_law_364 rfl ?_
        refine g_sld (q := 366) hX dL_law_365 rfl i1 ?_
        rw [ea]
        refine g_aload_n (q := 367) (i := 0) dL_law_366 rfl rfl rfl ?_
        refine g_iload_n (q := 368) (i := 3) dL_law_367 rfl rfl rfl ?_
        refine g_iconst (q := 369) (v := 2) dL_law_368 rfl (by decide) ?_
        refine g_iadd (q := 370) dL_law_369 rfl ?_
        refine g_sld (q := 371) hX dL_law_370 rfl i2 ?_
        rw [eb]
        refine g_callV (q := 374) (rest := []) dL_law_371 rfl cvL_58 (ctX6_planW hw1 e1) rfl rfl ⟨Nat.le_of_ble_eq_true rfl, Nat.le_of_ble_eq_true rfl⟩ ⟨(by show _ ≤ 600000; omega), (by show _ ≤ 7302250; omega)⟩ (Nat.le_of_ble_eq_true rfl) 0 hc0 rfl (fun r0 M9 hp => ?_)
        obtain ⟨rfl, rfl⟩ := hp
        show Go x _ _ g 374 [.ref b, .ref (ad 0), .ref (ad 24), .int (nI (4 * j))] [.int r] (HH g ad σ ++ [(ad 42, .inr (5, [.ref (ad 43)])), (ad 43, .inl (g.2.1, n1, .inl (σ.2.1 43)))]) _ _
        refine g_aload_n (q := 375) (i := 2) dL_law_374 rfl rfl rfl ?_
        refine g_aload_n (q := 376) (i := 0) dL_law_375 rfl rfl rfl ?_
        refine g_iload_n (q := 377) (i := 3) dL_law_376 rfl rfl rfl ?_
        refine g_iconst (q := 378) (v := 1) dL_law_377 rfl (by decide) ?_
        refine g_iadd (q := 379) dL_law_378 rfl ?_
        refine g_sld (q := 380) hX dL_law_379 rfl i1 ?_
        rw [ea]
        refine g_aload_n (q := 381) (i := 0) dL_law_380 rfl rfl rfl ?_
        refine g_iload_n (q := 382) (i := 3) dL_law_381 rfl rfl rfl ?_
        refine g_iconst (q := 383) (v := 2) dL_law_382 rfl (by decide) ?_
        refine g_iadd (q := 384) dL_law_383 rfl ?_
        refine g_sld (q := 385) hX dL_law_384 rfl i2 ?_
        rw [eb]
        refine g_callV (q := 388) (rest := [.int r]) dL_law_385 rfl cvL_61 (ctX7_plan e2) rfl rfl ⟨Nat.le_of_ble_eq_true rfl, Nat.le_of_ble_eq_true rfl⟩ ⟨(by show _ ≤ 600000; omega), (by show _ ≤ 7302250; omega)⟩ (Nat.le_of_ble_eq_true rfl) 24 hc24 rfl (fun r0 M9 hp => ?_)
        obtain ⟨rfl, rfl⟩ := hp
        show Go x _ _ g 388 [.ref b, .ref (ad 0), .ref (ad 24), .int (nI (4 * j))] [.int r, .int r] (HW g ad σ n1) _ _
        refine g_icmp_eq (q := 391) (r := 518) dL_law_388 (by decide) rfl (fun _ => ?_) (fun c => absurd rfl c)
        exact tail ad σ (some n1) _ _ _ rfl rfl (by omega) (by omega) hI (Or.inr ⟨n1, rfl, hw1, rfl⟩)
    by_cases e32_11 : v = 11
    · refine g_swIn (q := 393) (off := 361) dL_law_32 (fun z => c32 (Or.inl z)) (fun z => c32 (Or.inr z)) (by rw [e32_11]; decide) (by decide) ?_
      obtain ⟨F, r, σ1, σ2, wn2, e1, e2, hI2, hK2⟩ := s11 σ wn va vb hI
      refine g_aload_n (q := 394) (i := 1) dL_law_393 rfl rfl rfl ?_
      refine g_aload_n (q := 395) (i := 0) dL_law_394 rfl rfl rfl ?_
      refine g_iload_n (q := 396) (i := 3) dL_law_395 rfl rfl rfl ?_
      refine g_iconst (q := 397) (v := 1) dL_law_396 rfl (by decide) ?_
      refine g_iadd (q := 398) dL_law_397 rfl ?_
      refine g_sld (q := 399) hX dL_law_398 rfl i1 ?_
      rw [ea]
      refine g_aload_n (q := 400) (i := 0) dL_law_399 rfl rfl rfl ?_
      refine g_iload_n (q := 401) (i := 3) dL_law_400 rfl rfl rfl ?_
      refine g_iconst (q := 402) (v := 2) dL_law_401 rfl (by decide) ?_
      refine g_iadd (q := 403) dL_law_402 rfl ?_
      refine g_sld (q := 404) hX dL_law_403 rfl i2 ?_
      rw [eb]
      refine g_callV (q := 407) (rest := []) dL_law_404 rfl cvL_62 (ctX6_witness e1) rfl rfl ⟨Nat.le_of_ble_eq_true rfl, Nat.le_of_ble_eq_true rfl⟩ ⟨(by show _ ≤ 600000; omega), (by show _ ≤ 7302250; omega)⟩ (Nat.le_of_ble_eq_true rfl) 0 hc0 rfl (fun r0 M9 hp => ?_)
      obtain ⟨rfl, rfl⟩ := hp
      show Go x _ _ g 407 [.ref b, .ref (ad 0), .ref (ad 24), .int (nI (4 * j))] [.int r] (HH g ad σ1 ++ ex) _ _
      refine g_aload_n (q := 408) (i := 2) dL_law_407 rfl rfl rfl ?_
      refine g_aload_n (q := 409) (i := 0) dL_law_408 rfl rfl rfl ?_
      refine g_iload_n (q := 410) (i := 3) dL_law_409 rfl rfl rfl ?_
      refine g_iconst (q := 411) (v := 1) dL_law_410 rfl (by decide) ?_
      refine g_iadd (q := 412) dL_law_411 rfl ?_
      refine g_sld (q := 413) hX dL_law_412 rfl i1 ?_
      rw [ea]
      refine g_aload_n (q := 414) (i := 0) dL_law_413 rfl rfl rfl ?_
      refine g_iload_n (q := 415) (i := 3) dL_law_414 rfl rfl rfl ?_
      refine g_iconst (q := 416) (v := 2) dL_law_415 rfl (by decide) ?_
      refine g_iadd (q := 417) dL_law_416 rfl ?_
      refine g_sld (q := 418) hX dL_law_417 rfl i2 ?_
      rw [eb]
      refine g_callV (q := 421) (rest := [.int r]) dL_law_418 rfl cvL_65 (ctX7_witness e2) rfl rfl ⟨Nat.le_of_ble_eq_true rfl, Nat.le_of_ble_eq_true rfl⟩ ⟨(by show _ ≤ 600000; omega), (by show _ ≤ 7302250; omega)⟩ (Nat.le_of_ble_eq_true rfl) 24 hc24 rfl (fun r0 M9 hp => ?_)
      obtain ⟨rfl, rfl⟩ := hp
      show Go x _ _ g 421 [.ref b, .ref (ad 0), .ref (ad 24), .int (nI (4 * j))] [.int r, .int r] (HH g ad σ2 ++ ex) _ _
      refine g_icmp_eq (q := 424) (r := 518) dL_law_421 (by decide) rfl (fun _ => ?_) (fun c => absurd rfl c)
      exact tail ad σ2 wn2 _ _ _ rfl rfl (by omega) (by omega) hI2 (hk σ2 wn2 hK2)
    by_cases e32_12 : v = 12
    · refine g_swIn (q := 426) (off := 394) dL_law_32 (fun z => c32 (Or.inl z)) (fun z => c32 (Or.inr z)) (by rw [e32_12]; decide) (by decide) ?_
      obtain ⟨F, r, σ1, σ2, wn2, e1, e2, hI2, hK2⟩ := s12 σ wn va hI
      refine g_aload_n (q := 427) (i := 1) dL_law_426 rfl rfl rfl ?_
      refine g_aload_n (q := 428) (i := 0) dL_law_427 rfl rfl rfl ?_
      refine g_iload_n (q := 429) (i := 3) dL_law_428 rfl rfl rfl ?_
      refine g_iconst (q := 430) (v := 1) dL_law_429 rfl (by decide) ?_
      refine g_iadd (q := 431) dL_law_430 rfl ?_
      refine g_sld (q := 432) hX dL_law_431 rfl i1 ?_
      rw [ea]
      refine g_callV (q := 435) (rest := []) dL_law_432 rfl cvL_66 (ctX6_judge e1) rfl rfl ⟨Nat.le_of_ble_eq_true rfl, Nat.le_of_ble_eq_true rfl⟩ ⟨(by show _ ≤ 600000; omega), (by show _ ≤ 7302250; omega)⟩ (Nat.le_of_ble_eq_true rfl) 0 hc0 rfl (fun r0 M9 hp => ?_)
      obtain ⟨rfl, rfl⟩ := hp
      show Go x _ _ g 435 [.ref b, .ref (ad 0), .ref (ad 24), .int (nI (4 * j))] [.int r] (HH g ad σ1 ++ ex) _ _
      refine g_aload_n (q := 436) (i := 2) dL_law_435 rfl rfl rfl ?_
      refine g_aload_n (q := 437) (i := 0) dL_law_436 rfl rfl rfl ?_
      refine g_iload_n (q := 438) (i := 3) dL_law_437 rfl rfl rfl ?_
      refine g_iconst (q := 439) (v := 1) dL_law_438 rfl (by decide) ?_
      refine g_iadd (q := 440) dL_law_439 rfl ?_
      refine g_sld (q := 441) hX dL_law_440 rfl i1 ?_
      rw [ea]
      refine g_callV (q := 444) (rest := [.int r]) dL_law_441 rfl cvL_69 (ctX7_judge e2) rfl rfl ⟨Nat.le_of_ble_eq_true rfl, Nat.le_of_ble_eq_true rfl⟩ ⟨(by show _ ≤ 600000; omega), (by show _ ≤ 7302250; omega)⟩ (Nat.le_of_ble_eq_true rfl) 24 hc24 rfl (fun r0 M9 hp => ?_)
      obtain ⟨rfl, rfl⟩ := hp
      show Go x _ _ g 444 [.ref b, .ref (ad 0), .ref (ad 24), .int (nI (4 * j))] [.int r, .int r] (HH g ad σ2 ++ ex) _ _
      refine g_icmp_eq (q := 447) (r := 518) dL_law_444 (by decide) rfl (fun _ => ?_) (fun c => absurd rfl c)
      exact tail ad σ2 wn2 _ _ _ rfl rfl (by omega) (by omega) hI2 (hk σ2 wn2 hK2)
    by_cases e32_13 : v = 13
    · refine g_swIn (q := 449) (off := 417) dL_law_32 (fun z => c32 (Or.inl z)) (fun z => c32 (Or.inr z)) (by rw [e32_13]; decide) (by decide) ?_
      obtain ⟨F, r, σ1, σ2, wn2, e1, e2, hI2, hK2⟩ := s13 σ wn va vb hI
      refine g_aload_n (q := 450) (i := 1) dL_law_449 rfl rfl rfl ?_
      refine g_aload_n (q := 451) (i := 0) dL_law_450 rfl rfl rfl ?_
      refine g_iload_n (q := 452) (i := 3) dL_law_451 rfl rfl rfl ?_
      refine g_iconst (q := 453) (v := 1) dL_law_452 rfl (by decide) ?_
      refine g_iadd (q := 454) dL_law_453 rfl ?_
      refine g_sld (q := 455) hX dL_law_454 rfl i1 ?_
      rw [ea]
      refine g_aload_n (q := 456) (i := 0) dL_law_455 rfl rfl rfl ?_
      refine g_iload_n (q := 457) (i := 3) dL_law_456 rfl rfl rfl ?_
      refine g_iconst (q := 458) (v := 2) dL_law_457 rfl (by decide) ?_
      refine g_iadd (q := 459) dL_law_458 rfl ?_
      refine g_sld (q := 460) hX dL_law_459 rfl i2 ?_
      rw [eb]
      refine g_callV (q := 463) (rest := []) dL_law_460 rfl cvL_70 (ctX6_place e1) rfl rfl ⟨Nat.le_of_ble_eq_true rfl, Nat.le_of_ble_eq_true rfl⟩ ⟨(by show _ ≤ 600000; omega), (by show _ ≤ 7302250; omega)⟩ (Nat.le_of_ble_eq_true rfl) 0 hc0 rfl (fun r0 M9 hp => ?_)
      obtain ⟨rfl, rfl⟩ := hp
      show Go x _ _ g 463 [.ref b, .ref (ad 0), .ref (ad 24), .int (nI (4 * j))] [.int r] (HH g ad σ1 ++ ex) _ _
      refine g_aload_n (q := 464) (i := 2) dL_law_463 rfl rfl rfl ?_
      refine g_aload_n (q := 465) (i := 0) dL_law_464 rfl rfl rfl ?_
      refine g_iload_n (q := 466) (i := 3) dL_law_465 rfl rfl rfl ?_
      refine g_iconst (q := 467) (v := 1) dL_law_466 rfl (by decide) ?_
      refine g_iadd (q := 468) dL_law_467 rfl ?_
      refine g_sld (q := 469) hX dL_law_468 rfl i1 ?_
      rw [ea]
      refine g_aload_n (q := 470) (i := 0) dL_law_469 rfl rfl rfl ?_
      refine g_iload_n (q := 471) (i := 3) dL_law_470 rfl rfl rfl ?_
      refine g_iconst (q := 472) (v := 2) dL_law_471 rfl (by decide) ?_
      refine g_iadd (q := 473) dL_law_472 rfl ?_
      refine g_sld (q := 474) hX dL_law_473 rfl i2 ?_
      rw [eb]
      refine g_callV (q := 477) (rest := [.int r]) dL_law_474 rfl cvL_74 (ctX7_place e2) rfl rfl ⟨Nat.le_of_ble_eq_true rfl, Nat.le_of_ble_eq_true rfl⟩ ⟨(by show _ ≤ 600000; omega), (by show _ ≤ 7302250; omega)⟩ (Nat.le_of_ble_eq_true rfl) 24 hc24 rfl (fun r0 M9 hp => ?_)
      obtain ⟨rfl, rfl⟩ := hp
      show Go x _ _ g 477 [.ref b, .ref (ad 0), .ref (ad 24), .int (nI (4 * j))] [.int r, .int r] (HH g ad σ2 ++ ex) _ _
      refine g_icmp_eq (q := 480) (r := 518) dL_law_477 (by decide) rfl (fun _ => ?_) (fun c => absurd rfl c)
      exact tail ad σ2 wn2 _ _ _ rfl rfl (by omega) (by omega) hI2 (hk σ2 wn2 hK2)
    by_cases e32_14 : v = 14
    · refine g_swIn (q := 482) (off := 450) dL_law_32 (fun z => c32 (Or.inl z)) (fun z => c32 (Or.inr z)) (by rw [e32_14]; decide) (by decide) ?_
      obtain ⟨F, r, σ1, σ2, wn2, e1, e2, hI2, hK2⟩ := s14 σ wn va hI
      refine g_aload_n (q := 483) (i := 1) dL_law_482 rfl rfl rfl ?_
      refine g_aload_n (q := 484) (i := 0) dL_law_483 rfl rfl rfl ?_
      refine g_iload_n (q := 485) (i := 3) dL_law_484 rfl rfl rfl ?_
      refine g_iconst (q := 486) (v := 1) dL_law_485 rfl (by decide) ?_
      refine g_iadd (q := 487) dL_law_486 rfl ?_
      refine g_sld (q := 488) hX dL_law_487 rfl i1 ?_
      rw [ea]
      refine g_callV (q := 491) (rest := []) dL_law_488 rfl cvL_75 (ctX6_cut e1) rfl rfl ⟨Nat.le_of_ble_eq_true rfl, Nat.le_of_ble_eq_true rfl⟩ ⟨(by show _ ≤ 600000; omega), (by show _ ≤ 7302250; omega)⟩ (Nat.le_of_ble_eq_true rfl) 0 hc0 rfl (fun r0 M9 hp => ?_)
      obtain ⟨rfl, rfl⟩ := hp
      show Go x _ _ g 491 [.ref b, .ref (ad 0), .ref (ad 24), .int (nI (4 * j))] [.int r] (HH g ad σ1 ++ ex) _ _
      refine g_aload_n (q := 492) (i := 2) dL_law_491 rfl rfl rfl ?_
      refine g_aload_n (q := 493) (i := 0) dL_law_492 rfl rfl rfl ?_
      refine g_iload_n (q := 494) (i := 3) dL_law_493 rfl rfl rfl ?_
      refine g_iconst (q := 495) (v := 1) dL_law_494 rfl (by decide) ?_
      refine g_iadd (q := 496) dL_law_495 rfl ?_
      refine g_sld (q := 497) hX dL_law_496 rfl i1 ?_
      rw [ea]
      refine g_callV (q := 500) (rest := [.int r]) dL_law_497 rfl cvL_78 (ctX7_cut e2) rfl rfl ⟨Nat.le_of_ble_eq_true rfl, Nat.le_of_ble_eq_true rfl⟩ ⟨(by show _ ≤ 600000; omega), (by show _ ≤ 7302250; omega)⟩ (Nat.le_of_ble_eq_true rfl) 24 hc24 rfl (fun r0 M9 hp => ?_)
      obtain ⟨rfl, rfl⟩ := hp
      show Go x _ _ g 500 [.ref b, .ref (ad 0), .ref (ad 24), .int (nI (4 * j))] [.int r, .int r] (HH g ad σ2 ++ ex) _ _
      refine g_icmp_eq (q := 503) (r := 518) dL_law_500 (by decide) rfl (fun _ => ?_) (fun c => absurd rfl c)
      exact tail ad σ2 wn2 _ _ _ rfl rfl (by omega) (by omega) hI2 (hk σ2 wn2 hK2)
    by_cases e32_15 : v = 15
    · refine g_swIn (q := 505) (off := 473) dL_law_32 (fun z => c32 (Or.inl z)) (fun z => c32 (Or.inr z)) (by rw [e32_15]; decide) (by decide) ?_
      obtain ⟨F, r, σ1, σ2, wn2, e1, e2, hI2, hK2⟩ := s15 σ wn hI
      refine g_aload_n (q := 506) (i := 1) dL_law_505 rfl rfl rfl ?_
      refine g_callV (q := 509) (rest := []) dL_law_506 rfl cvL_79 (ctX6_width e1) rfl rfl ⟨Nat.le_of_ble_eq_true rfl, Nat.le_of_ble_eq_true rfl⟩ ⟨(by show _ ≤ 600000; omega), (by show _ ≤ 7302250; omega)⟩ (Nat.le_of_ble_eq_true rfl) 0 hc0 rfl (fun r0 M9 hp => ?_)
      obtain ⟨rfl, rfl⟩ := hp
      show Go x _ _ g 509 [.ref b, .ref (ad 0), .ref (ad 24), .int (nI (4 * j))] [.int r] (HH g ad σ1 ++ ex) _ _
      refine g_aload_n (q := 510) (i := 2) dL_law_509 rfl rfl rfl ?_
      refine g_callV (q := 513) (rest := [.int r]) dL_law_510 rfl cvL_83 (ctX7_width e2) rfl rfl ⟨Nat.le_of_ble_eq_true rfl, Nat.le_of_ble_eq_true rfl⟩ ⟨(by show _ ≤ 600000; omega), (by show _ ≤ 7302250; omega)⟩ (Nat.le_of_ble_eq_true rfl) 24 hc24 rfl (fun r0 M9 hp => ?_)
      obtain ⟨rfl, rfl⟩ := hp
      show Go x _ _ g 513 [.ref b, .ref (ad 0), .ref (ad 24), .int (nI (4 * j))] [.int r, .int r] (HH g ad σ2 ++ ex) _ _
      refine g_icmp_eq (q := 516) (r := 518) dL_law_513 (by decide) rfl (fun _ => ?_) (fun c => absurd rfl c)
      exact tail ad σ2 wn2 _ _ _ rfl rfl (by omega) (by omega) hI2 (hk σ2 wn2 hK2)
    exfalso
    have h0 : ¬ v.toInt < 0 := fun z => c32 (Or.inl z)
    have h15 : ¬ 15 < v.toInt := fun z => c32 (Or.inr z)
    have t0 := lv_neT (a := 0) e32_0 (by decide)
    have t1 := lv_neT (a := 1) e32_1 (by decide)
    have t2 := lv_neT (a := 2) e32_2 (by decide)
    have t3 := lv_neT (a := 3) e32_3 (by decide)
    have t4 := lv_neT (a := 4) e32_4 (by decide)
    have t5 := lv_neT (a := 5) e32_5 (by decide)
    have t6 := lv_neT (a := 6) e32_6 (by decide)
    have t7 := lv_neT (a := 7) e32_7 (by decide)
    have t8 := lv_neT (a := 8) e32_8 (by decide)
    have t9 := lv_neT (a := 9) e32_9 (by decide)
    have t10 := lv_neT (a := 10) e32_10 (by decide)
    have t11 := lv_neT (a := 11) e32_11 (by decide)
    have t12 := lv_neT (a := 12) e32_12 (by decide)
    have t13 := lv_neT (a := 13) e32_13 (by decide)
    have t14 := lv_neT (a := 14) e32_14 (by decide)
    have t15 := lv_neT (a := 15) e32_15 (by decide)
    omega
