def bt (x : Int32) (i : Nat) : Bool := x.toBitVec.getLsbD i
theorem b_ext {x y : Int32} (h : ∀ i, i < 32 → bt x i = bt y i) : x = y := Int32.toBitVec_inj.mp (BitVec.eq_of_getLsbD_eq (fun i hi => h i hi))
theorem b_or (x y : Int32) (i : Nat) : bt (x ||| y) i = (bt x i || bt y i) := by unfold bt; rw [Int32.toBitVec_or, BitVec.getLsbD_or]
theorem b_and (x y : Int32) (i : Nat) : bt (x &&& y) i = (bt x i && bt y i) := by unfold bt; rw [Int32.toBitVec_and, BitVec.getLsbD_and]
theorem b_xor (x y : Int32) (i : Nat) : bt (x ^^^ y) i = (bt x i ^^ bt y i) := by unfold bt; rw [Int32.toBitVec_xor, BitVec.getLsbD_xor]
theorem b_big {x : Int32} {i : Nat} (h : 32 ≤ i) : bt x i = false := BitVec.getLsbD_of_ge _ _ h
theorem b_255 (i : Nat) : bt 255 i = decide (i < 8) := by
  rcases Nat.lt_or_ge i 32 with h | h
  · exact (by decide +kernel : ∀ i, i < 32 → bt 255 i = decide (i < 8)) i h
  · rw [b_big h, decide_eq_false (by omega)]
theorem b_65535 (i : Nat) : bt 65535 i = decide (i < 16) := by
  rcases Nat.lt_or_ge i 32 with h | h
  · exact (by decide +kernel : ∀ i, i < 32 → bt 65535 i = decide (i < 16)) i h
  · rw [b_big h, decide_eq_false (by omega)]
theorem b_m1 : ∀ i, i < 32 → bt (-1) i = true := by decide +kernel
theorem b_0 (i : Nat) : bt 0 i = false := BitVec.getLsbD_zero
theorem s_l : ∀ n, n < 32 → ((nI n &&& 31).toBitVec.smod 32).toNat = n := by decide +kernel
theorem s_u : ∀ n, n < 32 → (((nI n).toUInt32 &&& Int32.toUInt32 31).toBitVec % 32).toNat = n := by decide +kernel
theorem b_shl (n : Nat) (hn : n < 32) (x : Int32) {i : Nat} (hi : i < 32) : bt (x <<< (nI n &&& 31)) i = (decide (n ≤ i) && bt x (i - n)) := by
  unfold bt
  rw [Int32.toBitVec_shiftLeft]
  show (x.toBitVec <<< ((nI n &&& 31).toBitVec.smod 32).toNat).getLsbD i = _
  rw [s_l n hn, BitVec.getLsbD_shiftLeft]
  rcases Nat.lt_or_ge i n with h | h
  · simp [h, Nat.not_le.mpr h]
  · simp [hi, h, Nat.not_lt.mpr h]
theorem b_ushr (n : Nat) (hn : n < 32) (x : Int32) (i : Nat) : bt ((x.toUInt32 >>> ((nI n).toUInt32 &&& Int32.toUInt32 31)).toInt32) i = bt x (n + i) := by
  show (x.toUInt32 >>> ((nI n).toUInt32 &&& Int32.toUInt32 31)).toBitVec.getLsbD i = x.toUInt32.toBitVec.getLsbD (n + i)
  rw [UInt32.toBitVec_shiftRight]
  show (x.toUInt32.toBitVec >>> (((nI n).toUInt32 &&& Int32.toUInt32 31).toBitVec % 32).toNat).getLsbD i = _
  rw [s_u n hn, BitVec.getLsbD_ushiftRight]
theorem b_sshr (n : Nat) (hn : n < 32) (x : Int32) {i : Nat} (hi : i < 32) : bt (x >>> (nI n &&& 31)) i = if n + i < 32 then bt x (n + i) else bt x 31 := by
  unfold bt
  rw [Int32.toBitVec_shiftRight]
  show (x.toBitVec.sshiftRight ((nI n &&& 31).toBitVec.smod 32).toNat).getLsbD i = _
  rw [s_l n hn, BitVec.getLsbD_sshiftRight, BitVec.msb_eq_getLsbD_last]
  simp [hi]
/-! ===== sets as bits ===== -/
theorem b_1 (i : Nat) : bt 1 i = decide (i = 0) := by
  by_cases h : i < 32
  · revert i; decide +kernel
  · rw [b_big (by omega)]; simp; omega
theorem b_not (x : Int32) {i : Nat} (h : i < 32) : bt (x ^^^ (-1)) i = !bt x i := by
  rw [b_xor, b_m1 i h]; cases bt x i <;> rfl
theorem b_bit {n : Nat} (hn : n < 32) (i : Nat) : bt ((1 : Int32) <<< (nI n &&& 31)) i = decide (i = n) := by
  by_cases h : i < 32
  · rw [b_shl n hn 1 h, b_1]
    by_cases h1 : n ≤ i
    · simp [h1]; omega
    · simp [h1]; omega
  · rw [b_big (by omega)]; simp; omega
theorem b_lo : ∀ n, n < 31 → ∀ i, i < 32 → bt (((1 : Int32) <<< (nI n &&& 31)) - 1) i = decide (i < n) := by decide +kernel
theorem b_low {n : Nat} (hn : n < 31) (i : Nat) : bt (((1 : Int32) <<< (nI n &&& 31)) - 1) i = decide (i < n) := by
  by_cases h : i < 32
  · exact b_lo n hn i h
  · rw [b_big (by omega)]; simp; omega
theorem b_zero {x : Int32} : x = 0 ↔ ∀ i, i < 32 → bt x i = false := by
  constructor
  · intro h i _; rw [h, b_0]
  · intro h; exact b_ext (fun i hi => by rw [h i hi, b_0])
theorem b_ne {x : Int32} (h : ¬ x = 0) : ∃ i, i < 32 ∧ bt x i = true := by
  refine Classical.byContradiction fun hc => h (b_zero.mpr fun i hi => ?_)
  cases hb : bt x i with
  | false => rfl
  | true => exact absurd ⟨i, hi, hb⟩ hc
theorem b_ext' {x y : Int32} (h : ∀ i, bt x i = true ↔ bt y i = true) : x = y := b_ext fun i _ => by
  have := h i
  cases h1 : bt x i <;> cases h2 : bt y i <;> simp_all
/-- the test of a bit -/
theorem b_t0 {x : Int32} {n : Nat} (hn : n < 32) : ((x >>> (nI n &&& 31)) &&& 1) = 0 ↔ bt x n = false := by
  rw [b_zero]
  constructor
  · intro h
    have h0 := h 0 (by omega)
    rw [b_and, b_sshr n hn x (by omega), b_1] at h0
    simpa [hn] using h0
  · intro h i hi
    rw [b_and, b_1]
    by_cases h0 : i = 0
    · subst h0
      rw [b_sshr n hn x (by omega)]
      simp [hn, h]
    · simp [h0]
theorem b_t1 {x : Int32} {n : Nat} (hn : n < 32) : ((x >>> (nI n &&& 31)) &&& 1) = 1 ↔ bt x n = true := by
  constructor
  · intro h
    cases hb : bt x n with
    | true => rfl
    | false => rw [(b_t0 hn).mpr hb] at h; exact absurd h (by decide)
  · intro h
    refine b_ext fun i hi => ?_
    rw [b_and, b_1]
    by_cases h0 : i = 0
    · subst h0
      rw [b_sshr n hn x (by omega)]
      simp [hn, h]
    · simp [h0]
theorem b_v {x : Int32} {n : Nat} (hn : n < 32) : (x >>> (nI n &&& 31)) &&& 1 = if bt x n = true then 1 else 0 := by
  by_cases h : bt x n = true
  · rw [if_pos h]; exact (b_t1 hn).mpr h
  · rw [if_neg h]; exact (b_t0 hn).mpr (by simpa using h)
theorem b_small {x : Int32} {n : Nat} (h : ∀ i, bt x i = true → i < n) : ∃ k, k < 2 ^ n ∧ x = nI k := by
  refine ⟨x.toBitVec.toNat, ?_, Int32.toBitVec_inj.mp (by show _ = BitVec.ofNat 32 _; simp)⟩
  refine Nat.lt_pow_two_of_testBit _ (fun i hi => ?_)
  rw [BitVec.testBit_toNat]
  cases hb : x.toBitVec.getLsbD i with
  | false => rfl
  | true => exact absurd (h i hb) (by omega)
/-- how many below n -/
def cnt : Nat → (Nat → Bool) → Nat
  | 0, _ => 0
  | n + 1, p => cnt n p + (if p n = true then 1 else 0)
theorem cnt_le (n : Nat) (p : Nat → Bool) : cnt n p ≤ n := by
  induction n with
  | zero => exact Nat.le_refl 0
  | succ n ih => unfold cnt; split <;> omega
theorem cnt_mono {n : Nat} {p q : Nat → Bool} (h : ∀ i, i < n → p i = true → q i = true) : cnt n p ≤ cnt n q := by
  induction n with
  | zero => exact Nat.le_refl 0
  | succ n ih =>
    have h1 := ih (fun i hi => h i (by omega))
    have h2 := h n (by omega)
    unfold cnt
    by_cases hp : p n = true
    · rw [if_pos hp, if_pos (h2 hp)]; omega
    · rw [if_neg hp]; split <;> omega
theorem cnt_lt {n : Nat} {p q : Nat → Bool} (h : ∀ i, i < n → p i = true → q i = true) {k : Nat} (hk : k < n) (h1 : p k = false) (h2 : q k = true) : cnt n p < cnt n q := by
  induction n with
  | zero => omega
  | succ n ih =>
    unfold cnt
    by_cases hkn : k = n
    · subst hkn
      have := cnt_mono (n := k) (p := p) (q := q) (fun i hi => h i (by omega))
      rw [if_pos h2, if_neg (by rw [h1]; decide)]; omega
    · have := ih (fun i hi => h i (by omega)) (by omega)
      have h3 := h n (by omega)
      by_cases hp : p n = true
      · rw [if_pos hp, if_pos (h3 hp)]; omega
      · rw [if_neg hp]; split <;> omega
theorem cnt_congr {n : Nat} {p q : Nat → Bool} (h : ∀ i, i < n → p i = q i) : cnt n p = cnt n q := by
  refine Nat.le_antisymm (cnt_mono fun i hi hp => ?_) (cnt_mono fun i hi hp => ?_)
  · rw [← h i hi]; exact hp
  · rw [h i hi]; exact hp
theorem cnt_0 {n : Nat} {p : Nat → Bool} : cnt n p = 0 ↔ ∀ i, i < n → p i = false := by
  constructor
  · intro h i hi
    cases hb : p i with
    | false => rfl
    | true =>
      have := cnt_lt (n := n) (p := fun _ => false) (q := p) (fun _ _ z => by cases z) hi rfl hb
      omega
  · intro h
    have := cnt_mono (n := n) (p := p) (q := fun _ => false) (fun i hi hp => by rw [h i hi] at hp; cases hp)
    have e : cnt n (fun _ => false) = 0 := by
      clear this h
      induction n with
      | zero => rfl
      | succ n ih => unfold cnt; rw [ih]; rfl
    omega
