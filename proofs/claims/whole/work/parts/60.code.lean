/-! ===== numbers and bits ===== -/
theorem nI_shl (x : Nat) {k : Nat} (hk : k < 32) : nI x <<< (nI k &&& 31) = nI (x * 2 ^ k) := b_ext fun i hi => by
  rw [b_shl k hk _ hi, bt_nI, bt_nI, ← Nat.shiftLeft_eq, Nat.testBit_shiftLeft]
  by_cases h : k ≤ i
  · simp [h, hi, show i - k < 32 by omega]
  · simp [h]
theorem nI_shr {x k : Nat} (hx : x < 2 ^ 31) (hk : k < 32) : nI x >>> (nI k &&& 31) = nI (x / 2 ^ k) := b_ext fun i hi => by
  rw [b_sshr k hk _ hi, bt_nI, bt_nI, bt_nI, ← Nat.shiftRight_eq_div_pow, Nat.testBit_shiftRight]
  by_cases h : k + i < 32
  · simp [h, hi]
  · have e1 : x.testBit (k + i) = false := Nat.testBit_lt_two_pow (Nat.lt_of_lt_of_le hx (Nat.pow_le_pow_right (by omega) (by omega)))
    have e2 : x.testBit 31 = false := Nat.testBit_lt_two_pow hx
    simp [h, hi, e1, e2]
theorem nI_lor (a b : Nat) : nI a ||| nI b = nI (a ||| b) := b_ext fun i hi => by
  rw [b_or, bt_nI, bt_nI, bt_nI, Nat.testBit_or]
  simp [hi]
/-- two numbers side by side -/
theorem nI_cat {a b k : Nat} (hb : b < 2 ^ k) : nI (a * 2 ^ k) ||| nI b = nI (a * 2 ^ k + b) := by
  rw [nI_lor, Nat.mul_comm, Nat.two_pow_add_eq_or_of_lt hb]
theorem nI_cat' {a b k : Nat} (hb : b < 2 ^ k) : nI b ||| nI (a * 2 ^ k) = nI (b + a * 2 ^ k) := by
  rw [Int32.or_comm, nI_cat hb, Nat.add_comm]
theorem nI_mod (x k : Nat) : nI x &&& nI (2 ^ k - 1) = nI (x % 2 ^ k) := by
  rw [nI_and]; exact congrArg nI (Nat.and_two_pow_sub_one_eq_mod x k)
/-- a set as a number -/
def ln (x : Int32) : Nat := x.toBitVec.toNat
theorem nI_ln (x : Int32) : nI (ln x) = x := Int32.toBitVec_inj.mp (by show BitVec.ofNat 32 _ = _; unfold ln; simp)
theorem ln_lt {x : Int32} {n : Nat} (h : ∀ i, bt x i = true → i < n) : ln x < 2 ^ n := by
  refine Nat.lt_pow_two_of_testBit _ (fun i hi => ?_)
  unfold ln
  rw [BitVec.testBit_toNat]
  cases hb : x.toBitVec.getLsbD i with
  | false => rfl
  | true => exact absurd (h i hb) (by omega)
/-! ===== who is below, as a number of two bits a cave ===== -/
def bcode (men : Nat → Nat) : Nat := men 0 + 4 * men 1 + 16 * men 2 + 64 * men 3 + 256 * men 4 + 1024 * men 5
theorem bcode_lt {men : Nat → Nat} (h : ∀ c, c < 6 → men c ≤ 3) : bcode men < 4096 := by
  have h0 := h 0 (by omega)
  have h1 := h 1 (by omega)
  have h2 := h 2 (by omega)
  have h3 := h 3 (by omega)
  have h4 := h 4 (by omega)
  have h5 := h 5 (by omega)
  unfold bcode; omega
theorem c6 {c : Nat} (h : c < 6) : c = 0 ∨ c = 1 ∨ c = 2 ∨ c = 3 ∨ c = 4 ∨ c = 5 := by omega
theorem bcode_at {men : Nat → Nat} (h : ∀ c, c < 6 → men c ≤ 3) {c : Nat} (hc : c < 6) : bcode men / 4 ^ c % 4 = men c := by
  have h0 := h 0 (by omega)
  have h1 := h 1 (by omega)
  have h2 := h 2 (by omega)
  have h3 := h 3 (by omega)
  have h4 := h 4 (by omega)
  have h5 := h 5 (by omega)
  unfold bcode
  rcases c6 hc with rfl | rfl | rfl | rfl | rfl | rfl <;> simp only [show (4 : Nat) ^ 0 = 1 from rfl, show (4 : Nat) ^ 1 = 4 from rfl, show (4 : Nat) ^ 2 = 16 from rfl, show (4 : Nat) ^ 3 = 64 from rfl, show (4 : Nat) ^ 4 = 256 from rfl, show (4 : Nat) ^ 5 = 1024 from rfl] <;> omega
theorem bcode_up (men : Nat → Nat) {c : Nat} (hc : c < 6) (v : Nat) : bcode (up1 men c v) + men c * 4 ^ c = bcode men + v * 4 ^ c := by
  unfold bcode up1
  rcases c6 hc with rfl | rfl | rfl | rfl | rfl | rfl <;> simp <;> omega
theorem bcode_inj {m1 m2 : Nat → Nat} (h1 : ∀ c, c < 6 → m1 c ≤ 3) (h2 : ∀ c, c < 6 → m2 c ≤ 3) (e : bcode m1 = bcode m2) {c : Nat} (hc : c < 6) : m1 c = m2 c := by
  rw [← bcode_at h1 hc, ← bcode_at h2 hc, e]
theorem one_c : ∀ c, c < 6 → (1 : Int32) <<< (((2 : Int32) * nI c) &&& 31) = nI (4 ^ c) := by decide +kernel
theorem two_c : ∀ c, c < 6 → (2 : Int32) * nI c = nI (2 * c) := by decide +kernel
theorem at_c {x c : Nat} (hx : x < 2 ^ 31) (hc : c < 6) : (nI x >>> (((2 : Int32) * nI c) &&& 31)) &&& 3 = nI (x / 4 ^ c % 4) := by
  rw [two_c c hc, nI_shr hx (by omega), show (3 : Int32) = nI (2 ^ 2 - 1) by decide, nI_mod, Nat.pow_mul]
