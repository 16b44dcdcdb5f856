section PRE
variable {g : GX} {ad : Nat → Nat} {ex : va_W}
theorem piOk {v r : Int32} {σ τ : Sg} (H : (some (v, σ) : Rs) = some (r, τ)) : Pi_ r (HH g ad τ ++ ex) (some (.int v)) (HH g ad σ ++ ex) := by
  cases H
  exact ⟨rfl, rfl⟩
theorem pvOk {v r : Int32} {σ τ : Sg} (H : (some (v, σ) : Rs) = some (r, τ)) : Pv_ (HH g ad τ ++ ex) none (HH g ad σ ++ ex) := by
  cases H
  exact ⟨rfl, rfl⟩
theorem nar_b {v : Int32} (h : v = 0 ∨ v = 1) : narrow .boolean (.int v) = .int v := by
  rcases h with rfl | rfl <;> rfl
end PRE
