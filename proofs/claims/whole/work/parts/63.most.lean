/-! ===== at most 1604 stands ===== -/
theorem pig : ∀ (M : Nat) (f : Nat → Nat) (p : Nat → Bool) (N : Nat), (∀ i, i < M → f i < N ∧ p (f i) = true) → (∀ i j, i < j → j < M → f i ≠ f j) → M ≤ cnt N p := by
  intro M
  induction M with
  | zero => intro f p N _ _; exact Nat.zero_le _
  | succ M ih =>
    intro f p N h1 h2
    obtain ⟨a, b⟩ := h1 M (by omega)
    have e : cnt N p = cnt N (fun i => p i && !decide (i = f M)) + 1 := cnt_one a (fun i => by
      by_cases hi : i = f M
      · rw [hi, b]; simp
      · simp [hi]) (by simp)
    have := ih f (fun i => p i && !decide (i = f M)) N (fun i hi => ⟨(h1 i (by omega)).1, by
      have := h2 i M hi (by omega)
      simp [(h1 i (by omega)).2, this]⟩) (fun i j h3 h4 => h2 i j h3 (by omega))
    omega
theorem cnt_add (a : Nat) (p : Nat → Bool) : ∀ b, cnt (a + b) p = cnt a p + cnt b (fun i => p (a + i)) := by
  intro b
  induction b with
  | zero => rfl
  | succ b ih =>
    show cnt (a + b) p + (if p (a + b) = true then 1 else 0) = cnt a p + (cnt b (fun i => p (a + i)) + (if p (a + b) = true then 1 else 0))
    rw [ih]; omega
def cb (p z : Nat → Bool) : Nat → Nat → Nat
  | 0, b => cond (p b) 1 0
  | k + 1, b => cond (Nat.beq k 6 && z b) 0 (Nat.add (cb p z k b) (cb p z k (Nat.add b (Nat.pow 2 k))))
theorem cb_cnt {p z : Nat → Bool} (hz : ∀ b, z (b * 128) = true → ∀ i, i < 128 → p (b * 128 + i) = false) : ∀ k b, (7 ≤ k → ∃ c, b = c * 2 ^ k) → cnt (2 ^ k) (fun i => p (b + i)) = cb p z k b := by
  intro k
  induction k with
  | zero =>
    intro b _
    show 0 + (if p (b + 0) = true then 1 else 0) = cond (p b) 1 0
    rw [Nat.add_zero]
    cases p b <;> rfl
  | succ k ih =>
    intro b hb
    have main : cnt (2 ^ (k + 1)) (fun i => p (b + i)) = cb p z k b + cb p z k (b + 2 ^ k) := by
      rw [Nat.pow_succ, Nat.mul_two, cnt_add]
      rw [ih b (fun hk => by
        obtain ⟨c, rfl⟩ := hb (by omega)
        exact ⟨c * 2, by rw [Nat.pow_succ, Nat.mul_assoc, Nat.mul_comm 2]⟩)]
      have := ih (b + 2 ^ k) (fun hk => by
        obtain ⟨c, rfl⟩ := hb (by omega)
        exact ⟨c * 2 + 1, by rw [Nat.pow_succ, Nat.add_mul, Nat.mul_assoc, Nat.mul_comm 2, Nat.one_mul]⟩)
      rw [← this]
      congr 1
      exact cnt_congr fun i _ => by rw [Nat.add_assoc]
    show _ = cond (Nat.beq k 6 && z b) 0 (cb p z k b + cb p z k (b + 2 ^ k))
    cases hc : (Nat.beq k 6 && z b) with
    | false => exact main
    | true =>
      rw [Bool.and_eq_true] at hc
      have hk : k = 6 := Nat.eq_of_beq_eq_true hc.1
      subst hk
      obtain ⟨c, rfl⟩ := hb (by omega)
      show _ = 0
      exact cnt_0.mpr fun i hi => hz c hc.2 i hi
def dg (m c : Nat) : Nat := Nat.mod (Nat.div m (Nat.pow 4 c)) 4
def lb (l c : Nat) : Nat := Nat.mod (Nat.div l (Nat.pow 2 c)) 2
def ds (m : Nat) : Nat := dg m 0 + dg m 1 + dg m 2 + dg m 3 + dg m 4 + dg m 5
def ov (m l : Nat) : Nat := dg m 0 * lb l 0 + dg m 1 * lb l 1 + dg m 2 * lb l 2 + dg m 3 * lb l 3 + dg m 4 * lb l 4 + dg m 5 * lb l 5
def fr1 (n m c : Nat) : Nat := cond (Nat.ble (c + 1) n) ((1 - dg m c) * Nat.pow 2 c) 0
def gset (n m : Nat) : Nat := fr1 n m 0 + fr1 n m 1 + fr1 n m 2 + fr1 n m 3 + fr1 n m 4 + fr1 n m 5
def vb (l1 : Bool) (n x : Nat) : Bool := Nat.ble (ds (x / 128)) 3 && (Nat.beq (ov (x / 128) (x / 2 % 64)) 0 && cond l1 (cond (Nat.beq (x % 2) 0) (Nat.beq (x / 2 % 64) (gset n (x / 128))) true) (Nat.beq (x % 2) 0))
def vz (x : Nat) : Bool := Nat.ble 4 (ds (x / 128))
theorem vz_ok (l1 : Bool) (n : Nat) : ∀ b, vz (b * 128) = true → ∀ i, i < 128 → vb l1 n (b * 128 + i) = false := by
  intro b hb i hi
  have e1 : (b * 128 + i) / 128 = b := by omega
  have e2 : b * 128 / 128 = b := by omega
  unfold vz at hb
  unfold vb
  rw [e2] at hb
  rw [e1]
  have h4 : 4 ≤ ds b := Nat.le_of_ble_eq_true hb
  have : Nat.ble (ds b) 3 = false := by
    cases h : Nat.ble (ds b) 3 with
    | false => rfl
    | true => have := Nat.le_of_ble_eq_true h; omega
  rw [this]; rfl
set_option maxRecDepth 100000 in
theorem most_k : (Nat.ble (cb (vb false 0) vz 19 0) 1604 && (Nat.ble (cb (vb true 0) vz 19 0) 1604 && (Nat.ble (cb (vb true 1) vz 19 0) 1604 && (Nat.ble (cb (vb true 2) vz 19 0) 1604 && (Nat.ble (cb (vb true 3) vz 19 0) 1604 && (Nat.ble (cb (vb true 4) vz 19 0) 1604 && (Nat.ble (cb (vb true 5) vz 19 0) 1604 && Nat.ble (cb (vb true 6) vz 19 0) 1604))))))) = true := by decide +kernel
theorem vb_n (n x : Nat) : vb false n x = vb false 0 x := rfl
theorem most_b (l1 : Bool) {n : Nat} (hn : n ≤ 6) : cnt (2 ^ 19) (fun i => vb l1 n i) ≤ 1604 := by
  have e : cnt (2 ^ 19) (fun i => vb l1 n i) = cb (vb l1 n) vz 19 0 := by
    rw [← cb_cnt (vz_ok l1 n) 19 0 (fun _ => ⟨0, by rw [Nat.zero_mul]⟩)]
    exact cnt_congr fun i _ => by rw [Nat.zero_add]
  rw [e]
  have h := most_k
  simp only [Bool.and_eq_true] at h
  obtain ⟨h0, h1, h2, h3, h4, h5, h6, h7⟩ := h
  cases l1 with
  | false => exact Nat.le_of_ble_eq_true h0
  | true =>
    have : n = 0 ∨ n = 1 ∨ n = 2 ∨ n = 3 ∨ n = 4 ∨ n = 5 ∨ n = 6 := by omega
    rcases this with rfl | rfl | rfl | rfl | rfl | rfl | rfl
    · exact Nat.le_of_ble_eq_true h1
    · exact Nat.le_of_ble_eq_true h2
    · exact Nat.le_of_ble_eq_true h3
    · exact Nat.le_of_ble_eq_true h4
    · exact Nat.le_of_ble_eq_true h5
    · exact Nat.le_of_ble_eq_true h6
    · exact Nat.le_of_ble_eq_true h7
/-! a stand's number -/
def scode (s : BS) : Nat := bcode s.1.1 * 128 + ln s.1.2 * 2 + (if s.2 = true then 1 else 0)
theorem tot_ext {n m : Nat} {men : Nat → Nat} (hnm : n ≤ m) (h : ∀ c, n ≤ c → men c = 0) : tot m men = tot n men := by
  induction m with
  | zero => have : n = 0 := by omega
            rw [this]
  | succ m ih =>
    by_cases e : n = m + 1
    · rw [e]
    · show tot m men + men m = _
      rw [ih (by omega), h m (by omega), Nat.add_zero]
theorem VS.m3 {X : CX} (hX : CXok X) {s : BS} (h : VS X s) (c : Nat) : s.1.1 c ≤ 3 := by
  by_cases hc : c < cN X
  · have := tot_le (cN X) s.1.1 hc
    have := h.2.1
    have := hX.2.1.2
    omega
  · rw [h.1.1 c (by omega)]; omega
theorem VS.l6 {X : CX} (hX : CXok X) {s : BS} (h : VS X s) : ln s.1.2 < 64 := by
  have := ln_lt (x := s.1.2) (n := 6) (fun i hi => by have := (h.1.2.1 i hi).1; have := hX.2.2.2.1.2; omega)
  exact this
theorem scode_lt {X : CX} (hX : CXok X) {s : BS} (h : VS X s) : scode s < 2 ^ 19 := by
  have h1 := bcode_lt (men := s.1.1) fun c _ => h.m3 hX c
  have h2 := h.l6 hX
  unfold scode
  split <;> omega
theorem scode_inj {X : CX} (hX : CXok X) {s t : BS} (hs : VS X s) (ht : VS X t) (e : scode s = scode t) : s = t := by
  have hs2 := hs.l6 hX
  have ht2 := ht.l6 hX
  have e' : bcode s.1.1 = bcode t.1.1 ∧ ln s.1.2 = ln t.1.2 ∧ s.2 = t.2 := by
    unfold scode at e
    cases h1 : s.2 <;> cases h2 : t.2 <;> simp [h1, h2] at e ⊢ <;> omega
  obtain ⟨e1, e2, e3⟩ := e'
  refine Prod.ext (Prod.ext (funext fun c => ?_) ?_) e3
  · by_cases hc : c < 6
    · exact bcode_inj (fun c _ => hs.m3 hX c) (fun c _ => ht.m3 hX c) e1 hc
    · have := hX.2.2.2.1.2
      rw [hs.1.1 c (by omega), ht.1.1 c (by omega)]
  · rw [← nI_ln s.1.2, ← nI_ln t.1.2, e2]
theorem lb_bt (x : Int32) {c : Nat} (hc : c < 32) : lb (ln x) c = if bt x c = true then 1 else 0 := by
  have e : bt x c = (ln x).testBit c := by
    unfold bt ln; rw [BitVec.testBit_toNat]
  rw [e]
  show ln x / 2 ^ c % 2 = _
  have := Nat.testBit_eq_decide_div_mod_eq (x := ln x) (i := c)
  rw [this]
  have h2 : ln x / 2 ^ c % 2 < 2 := Nat.mod_lt _ (by omega)
  by_cases h : ln x / 2 ^ c % 2 = 1
  · rw [h]; rfl
  · rw [decide_eq_false h]; simp; omega
theorem VS.vb {X : CX} (hX : CXok X) {s : BS} (h : VS X s) : vb (decide (cL X = 1)) (cN X) (scode s) = true := by
  have hl := h.l6 hX
  have hn := hX.2.2.2.1.2
  have e1 : scode s / 128 = bcode s.1.1 := by unfold scode; split <;> omega
  have e2 : scode s / 2 % 64 = ln s.1.2 := by unfold scode; split <;> omega
  have e3 : scode s % 2 = if s.2 = true then 1 else 0 := by unfold scode; split <;> omega
  have hd : ∀ c, c < 6 → dg (bcode s.1.1) c = s.1.1 c := fun c hc => bcode_at (fun c _ => h.m3 hX c) hc
  have hds : ds (bcode s.1.1) ≤ 3 := by
    unfold ds
    rw [hd 0 (by omega), hd 1 (by omega), hd 2 (by omega), hd 3 (by omega), hd 4 (by omega), hd 5 (by omega)]
    have t6 : tot 6 s.1.1 = tot (cN X) s.1.1 := tot_ext hn h.1.1
    have t6' : tot 6 s.1.1 = 0 + s.1.1 0 + s.1.1 1 + s.1.1 2 + s.1.1 3 + s.1.1 4 + s.1.1 5 := rfl
    have := h.2.1
    have := hX.2.1.2
    omega
  have hov : ov (bcode s.1.1) (ln s.1.2) = 0 := by
    have z : ∀ c, c < 6 → dg (bcode s.1.1) c * lb (ln s.1.2) c = 0 := fun c hc => by
      rw [hd c hc, lb_bt _ (by omega)]
      by_cases hb : bt s.1.2 c = true
      · rw [(h.1.2.1 c hb).2, Nat.zero_mul]
      · rw [if_neg hb, Nat.mul_zero]
    unfold ov
    rw [z 0 (by omega), z 1 (by omega), z 2 (by omega), z 3 (by omega), z 4 (by omega), z 5 (by omega)]
  have hgs : cL X = 1 → s.2 = false → ln s.1.2 = gset (cN X) (bcode s.1.1) := by
    intro hL hf
    have g := h.2.2.2 hL hf
    have z : ∀ c, c < 6 → fr1 (cN X) (bcode s.1.1) c = lb (ln s.1.2) c * 2 ^ c := fun c hc => by
      unfold fr1
      rw [hd c hc, lb_bt _ (by omega)]
      by_cases hcn : c < cN X
      · rw [show Nat.ble (c + 1) (cN X) = true from Nat.ble_eq_true_of_le hcn]
        show (1 - s.1.1 c) * 2 ^ c = _
        by_cases hm : s.1.1 c = 0
        · rw [if_pos ((g c).mpr ⟨hcn, hm⟩), hm]
        · rw [if_neg (fun z => hm ((g c).mp z).2), show 1 - s.1.1 c = 0 by omega]
      · have : Nat.ble (c + 1) (cN X) = false := by
          cases hh : Nat.ble (c + 1) (cN X) with
          | false => rfl
          | true => have := Nat.le_of_ble_eq_true hh; omega
        rw [this, if_neg (fun z => hcn ((g c).mp z).1)]
        show 0 = _
        rw [Nat.zero_mul]
    unfold gset
    rw [z 0 (by omega), z 1 (by omega), z 2 (by omega), z 3 (by omega), z 4 (by omega), z 5 (by omega)]
    show _ = ln s.1.2 / 2 ^ 0 % 2 * 2 ^ 0 + ln s.1.2 / 2 ^ 1 % 2 * 2 ^ 1 + ln s.1.2 / 2 ^ 2 % 2 * 2 ^ 2 + ln s.1.2 / 2 ^ 3 % 2 * 2 ^ 3 + ln s.1.2 / 2 ^ 4 % 2 * 2 ^ 4 + ln s.1.2 / 2 ^ 5 % 2 * 2 ^ 5
    omega
  unfold vb
  rw [e1, e2, e3, hov, Bool.and_eq_true, Bool.and_eq_true]
  refine ⟨Nat.ble_eq_true_of_le hds, rfl, ?_⟩
  by_cases hL : cL X = 1
  · rw [decide_eq_true hL]
    cases hf : s.2 with
    | false =>
      show Nat.beq _ _ = true
      rw [← hgs hL hf]; exact Nat.beq_refl _
    | true => rfl
  · rw [decide_eq_false hL]
    have : ¬ s.2 = true := fun z => hL (h.2.2.1 z)
    rw [if_neg this]; rfl
/-- there are at most 1604 -/
theorem BI.most {X : CX} (hX : CXok X) {B : BB} {h : Nat} (hB : BI X B h) : bM B ≤ 1604 := by
  have := pig (bM B) (fun i => scode (bQ B i)) (fun x => vb (decide (cL X = 1)) (cN X) x) (2 ^ 19) (fun i hi => ⟨scode_lt hX (hB.2.1 i hi), (hB.2.1 i hi).vb hX⟩) (fun i j h1 h2 z => hB.2.2.1 i j h1 h2 (scode_inj hX (hB.2.1 i (by omega)) (hB.2.1 j h2) z))
  exact Nat.le_trans this (most_b _ hX.2.2.2.1.2)
