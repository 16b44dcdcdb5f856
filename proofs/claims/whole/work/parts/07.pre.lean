section PRE
variable {g : GX} {ad : Nat → Nat} {ex : va_W}
theorem piOk {v r : Int32} {σ τ : Sg} (H : (some (v, σ) : Rs) = some (r, τ)) : Pi_ r (HH g ad τ ++ ex) (some (.int v)) (HH g ad σ ++ ex) := by
  cases H
  exact ⟨rfl, rfl⟩
theorem pvOk {v r : Int32} {σ τ : Sg} (H : (some (v, σ) : Rs) = some (r, τ)) : Pv_ (HH g ad τ ++ ex) none (HH g ad σ ++ ex) := by
  cases H
  exact ⟨rfl, rfl⟩
theorem nar_b {v : Int32} (h : v = 0 ∨ v = 1) : narrow .boolean (.int v) = .int v := by
  rcases h with rfl | rfl <;> rfl
end PRE
def mx_ (a b : Int32) : Int32 := if a < b then b else a
def mn_ (a b : Int32) : Int32 := if b < a then b else a
section PRE2
variable {x : FX} {R : Room} {t : MT} {g : GX} {pc q : Nat} {L st : List Value} {M : va_W} {ce sl i n : Nat}
theorem g_max {a b : Int32} (hd : decode t.1 pc = .ok (.invokestatic i, 3)) (hq : pc + 3 = q) (hw : CS t.2.2.1 i yJ9_max_7cf53 tJ9_max_7cf53 n) (hf : 1 ≤ R.frames) (hlo : (st.map fun v => v.category).sum + 13 ≤ R.locals) (hc : ce ≤ R.cells) (hs : sl ≤ R.slots) (k : Go x R t g q L (.int (mx_ a b) :: st) M ce sl) : Go x R t g pc L (.int b :: .int a :: st) M ce sl := by
  subst hq
  obtain ⟨p, l, e, s, m, args, below, meth, c, A, Q⟩ := x
  intro H locs ls F hl hP hD hS
  obtain ⟨⟨⟨w1, w2⟩, -⟩, w3, w4⟩ := hw
  obtain ⟨f1, f2, f3, f4, f5, f6, f7, f8, f9, f10⟩ := id F
  exact va_mmax f1 f2 (f3.trans hl.1.1.symm) f4 (f5 _ w3) (f5 _ w4) (f5 _ w2) (f5 _ w1) hf hlo hc hs hd (k H locs ls F hl hP hD hS)
theorem g_min {a b : Int32} (hd : decode t.1 pc = .ok (.invokestatic i, 3)) (hq : pc + 3 = q) (hw : CS t.2.2.1 i yJ9_min_7cf53 tJ9_min_7cf53 n) (hf : 1 ≤ R.frames) (hlo : (st.map fun v => v.category).sum + 13 ≤ R.locals) (hc : ce ≤ R.cells) (hs : sl ≤ R.slots) (k : Go x R t g q L (.int (mn_ a b) :: st) M ce sl) : Go x R t g pc L (.int b :: .int a :: st) M ce sl := by
  subst hq
  obtain ⟨p, l, e, s, m, args, below, meth, c, A, Q⟩ := x
  intro H locs ls F hl hP hD hS
  obtain ⟨⟨⟨w1, w2⟩, -⟩, w3, w4⟩ := hw
  obtain ⟨f1, f2, f3, f4, f5, f6, f7, f8, f9, f10⟩ := id F
  exact va_mmin f1 f2 (f3.trans hl.1.1.symm) f4 (f5 _ w3) (f5 _ w4) (f5 _ w2) (f5 _ w1) hf hlo hc hs hd (k H locs ls F hl hP hD hS)
end PRE2
