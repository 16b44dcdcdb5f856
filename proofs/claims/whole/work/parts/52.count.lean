/-! ===== Integer.bitCount counts the bits (of 18) ===== -/
def gbc (x : Nat) : Nat :=
  let v1 := Nat.sub x (Nat.land (Nat.shiftRight x 1) 1431655765)
  let v2 := Nat.add (Nat.land v1 858993459) (Nat.land (Nat.shiftRight v1 2) 858993459)
  let v3 := Nat.land (Nat.add v2 (Nat.shiftRight v2 4)) 252645135
  let v4 := Nat.add v3 (Nat.shiftRight v3 8)
  let v5 := Nat.add v4 (Nat.shiftRight v4 16)
  Nat.land v5 63
def chk : Nat → Nat → Nat → Bool
  | 0, b, c => Nat.beq (gbc b) c
  | k + 1, b, c => chk k b c && chk k (Nat.add b (Nat.pow 2 k)) (Nat.succ c)
set_option maxRecDepth 100000 in
theorem chk_all : chk 18 0 0 = true := by decide +kernel
theorem chk_cnt : ∀ (k b c : Nat), chk k b c = true → ∀ y, y < 2 ^ k → gbc (b + y) = c + cnt k (fun i => y.testBit i) := by
  intro k
  induction k with
  | zero =>
    intro b c h y hy
    have : y = 0 := by simp at hy; exact hy
    subst this
    exact Nat.eq_of_beq_eq_true h
  | succ k ih =>
    intro b c h y hy
    unfold chk at h
    rw [Bool.and_eq_true] at h
    unfold cnt
    by_cases hyk : y < 2 ^ k
    · rw [ih b c h.1 y hyk, if_neg (show ¬ y.testBit k = true by rw [Nat.testBit_lt_two_pow hyk]; decide)]; rfl
    · obtain ⟨z, rfl⟩ : ∃ z, y = 2 ^ k + z := ⟨y - 2 ^ k, by omega⟩
      have hz : z < 2 ^ k := by rw [Nat.pow_succ] at hy; omega
      have e1 := ih (b + 2 ^ k) (c + 1) h.2 z hz
      rw [show b + (2 ^ k + z) = b + 2 ^ k + z by omega, e1]
      have e2 : (2 ^ k + z).testBit k = true := by rw [Nat.testBit_two_pow_add_eq, Nat.testBit_lt_two_pow hz]; rfl
      rw [if_pos e2]
      have e3 : cnt k (fun i => (2 ^ k + z).testBit i) = cnt k (fun i => z.testBit i) := cnt_congr fun i hi => Nat.testBit_two_pow_add_gt hi z
      rw [e3]; omega
theorem bt_nI (x i : Nat) : bt (nI x) i = (decide (i < 32) && x.testBit i) := by
  show (BitVec.ofNat 32 x).getLsbD i = _
  rw [BitVec.getLsbD_ofNat]
theorem nI_and (a b : Nat) : nI a &&& nI b = nI (Nat.land a b) := b_ext fun i hi => by
  rw [b_and, bt_nI, bt_nI, bt_nI]
  show _ = (decide (i < 32) && (a &&& b).testBit i)
  rw [Nat.testBit_and]; simp [hi]
theorem nI_ushr {x k : Nat} (hk : k < 32) (hx : x < 2 ^ 32) : ((nI x).toUInt32 >>> ((nI k).toUInt32 &&& Int32.toUInt32 31)).toInt32 = nI (Nat.shiftRight x k) := b_ext fun i hi => by
  rw [b_ushr k hk, bt_nI, bt_nI]
  show _ = (decide (i < 32) && (x >>> k).testBit i)
  rw [Nat.testBit_shiftRight]
  by_cases h : k + i < 32
  · simp [h, hi]
  · have : x.testBit (k + i) = false := Nat.testBit_lt_two_pow (Nat.lt_of_lt_of_le hx (Nat.pow_le_pow_right (by omega) (by omega)))
    simp [h, this]
theorem nI_sub {a b : Nat} (h : b ≤ a) : nI a - nI b = nI (Nat.sub a b) := by
  have := nI_add (a - b) b
  rw [show a - b + b = a by omega] at this
  rw [← this]
  exact Int32.add_sub_cancel _ _
theorem bcNat (F : Nat) (σ : Sg) {x : Nat} (hx : x < 2 ^ 18) : fJ6_bitCount_0f7a4 F σ (nI x) = some (nI (gbc x), σ) := by
  unfold fJ6_bitCount_0f7a4 li_
  have l1 : Nat.land (Nat.shiftRight x 1) 1431655765 ≤ x := Nat.le_trans Nat.and_le_left (Nat.shiftRight_le x 1)
  have b1 : Nat.sub x (Nat.land (Nat.shiftRight x 1) 1431655765) < 2 ^ 18 := Nat.lt_of_le_of_lt (Nat.sub_le _ _) hx
  obtain ⟨v1, hv1⟩ : ∃ v1, Nat.sub x (Nat.land (Nat.shiftRight x 1) 1431655765) = v1 := ⟨_, rfl⟩
  rw [hv1] at b1
  have b2 : Nat.add (Nat.land v1 858993459) (Nat.land (Nat.shiftRight v1 2) 858993459) < 2 ^ 19 := by
    have a1 : Nat.land v1 858993459 ≤ v1 := Nat.and_le_left
    have a2 : Nat.land (Nat.shiftRight v1 2) 858993459 ≤ v1 := Nat.le_trans Nat.and_le_left (Nat.shiftRight_le v1 2)
    have : Nat.land v1 858993459 + Nat.land (Nat.shiftRight v1 2) 858993459 < 2 ^ 19 := by omega
    exact this
  obtain ⟨v2, hv2⟩ : ∃ v2, Nat.add (Nat.land v1 858993459) (Nat.land (Nat.shiftRight v1 2) 858993459) = v2 := ⟨_, rfl⟩
  rw [hv2] at b2
  have b3 : Nat.land (Nat.add v2 (Nat.shiftRight v2 4)) 252645135 < 2 ^ 20 := by
    have a2 : Nat.shiftRight v2 4 ≤ v2 := Nat.shiftRight_le v2 4
    have a3 : v2 + Nat.shiftRight v2 4 < 2 ^ 20 := by omega
    exact Nat.lt_of_le_of_lt Nat.and_le_left a3
  obtain ⟨v3, hv3⟩ : ∃ v3, Nat.land (Nat.add v2 (Nat.shiftRight v2 4)) 252645135 = v3 := ⟨_, rfl⟩
  rw [hv3] at b3
  have b4 : Nat.add v3 (Nat.shiftRight v3 8) < 2 ^ 21 := by
    have a2 : Nat.shiftRight v3 8 ≤ v3 := Nat.shiftRight_le v3 8
    have a3 : v3 + Nat.shiftRight v3 8 < 2 ^ 21 := by omega
    exact a3
  obtain ⟨v4, hv4⟩ : ∃ v4, Nat.add v3 (Nat.shiftRight v3 8) = v4 := ⟨_, rfl⟩
  rw [hv4] at b4
  have e1 : nI x - (((nI x).toUInt32 >>> ((1 : Int32).toUInt32 &&& Int32.toUInt32 31)).toInt32 &&& 1431655765) = nI v1 := by
    rw [show (1 : Int32) = nI 1 by decide, nI_ushr (by omega) (by omega), show (1431655765 : Int32) = nI 1431655765 by decide, nI_and, nI_sub l1, hv1]
  have e2 : (nI v1 &&& 858993459) + (((nI v1).toUInt32 >>> ((2 : Int32).toUInt32 &&& Int32.toUInt32 31)).toInt32 &&& 858993459) = nI v2 := by
    rw [show (2 : Int32) = nI 2 by decide, nI_ushr (by omega) (by omega), show (858993459 : Int32) = nI 858993459 by decide, nI_and, nI_and, nI_add]
    exact congrArg nI hv2
  have e3 : (nI v2 + ((nI v2).toUInt32 >>> ((4 : Int32).toUInt32 &&& Int32.toUInt32 31)).toInt32) &&& 252645135 = nI v3 := by
    rw [show (4 : Int32) = nI 4 by decide, nI_ushr (by omega) (by omega), show (252645135 : Int32) = nI 252645135 by decide, nI_add, nI_and]
    exact congrArg nI hv3
  have e4 : nI v3 + ((nI v3).toUInt32 >>> ((8 : Int32).toUInt32 &&& Int32.toUInt32 31)).toInt32 = nI v4 := by
    rw [show (8 : Int32) = nI 8 by decide, nI_ushr (by omega) (by omega), nI_add]
    exact congrArg nI hv4
  have e5 : (nI v4 + ((nI v4).toUInt32 >>> ((16 : Int32).toUInt32 &&& Int32.toUInt32 31)).toInt32) &&& 63 = nI (Nat.land (Nat.add v4 (Nat.shiftRight v4 16)) 63) := by
    rw [show (16 : Int32) = nI 16 by decide, nI_ushr (by omega) (by omega), show (63 : Int32) = nI 63 by decide, nI_add, nI_and]
    rfl
  have hg : gbc x = Nat.land (Nat.add v4 (Nat.shiftRight v4 16)) 63 := by rw [← hv4, ← hv3, ← hv2, ← hv1]; rfl
  dsimp only
  rw [e1, e2, e3, e4, e5, hg]
/-- bitCount, of a set below 18 -/
theorem bc (F : Nat) (σ : Sg) {x : Int32} (hx : ∀ i, bt x i = true → i < 18) : fJ6_bitCount_0f7a4 F σ x = some (nI (cnt 18 (fun i => bt x i)), σ) := by
  obtain ⟨k, hk, rfl⟩ := b_small hx
  rw [bcNat F σ hk]
  have := chk_cnt 18 0 0 chk_all k hk
  rw [Nat.zero_add, Nat.zero_add] at this
  rw [this]
  have e : cnt 18 (fun i => k.testBit i) = cnt 18 (fun i => bt (nI k) i) := cnt_congr fun i hi => by rw [bt_nI]; simp; omega
  rw [e]
/-! the reference's bits -/
theorem mbt_loop (F : Nat) (σ : Sg) (x : Int32) : ∀ (m k : Nat), k ≤ 18 → 18 < k + m → fX7_bits_4 F m σ x (nI (cnt k (fun i => bt x i))) (nI k) = some (nI (cnt 18 (fun i => bt x i)), σ) := by
  intro m
  induction m with
  | zero => intro k h1 h2; omega
  | succ m ih =>
    intro k h1 h2
    show bX7_bits_4 F (fX7_bits_4 F m) σ x _ (nI k) = _
    unfold bX7_bits_4 li_
    by_cases hk : k = 18
    · subst hk; rw [if_pos (by decide)]
    · rw [if_neg (n18 (by omega)), b_v (by omega), nI_1]
      have e : nI (cnt k (fun i => bt x i)) + (if bt x k = true then 1 else 0) = nI (cnt (k + 1) (fun i => bt x i)) := by
        show _ = nI (cnt k (fun i => bt x i) + (if bt x k = true then 1 else 0))
        by_cases h : bt x k = true
        · rw [if_pos h, if_pos h, nI_1]
        · rw [if_neg h, if_neg h]; exact Int32.add_zero _
      dsimp only
      rw [e]
      exact ih (k + 1) (by omega) (by omega)
theorem mbt {F : Nat} (hF : 40 ≤ F) (σ : Sg) (x : Int32) : fX7_bits F σ x = some (nI (cnt 18 (fun i => bt x i)), σ) := by
  have := mbt_loop F σ x F 0 (by omega) (by omega)
  rw [show cnt 0 (fun i => bt x i) = 0 from rfl, nI_0] at this
  exact this
