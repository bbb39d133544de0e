/-! MOVE. -/
section move
variable {N : Nat} {σ τ : Wd} {t : Nt}
theorem ofw7 {k : Nat} (hk : k ≤ 5) : f_X7_isOfWire N (nI k) = some (bI (k == 0 || k == 1 || k == 5)) := by
  unfold f_X7_isOfWire
  rcases (show k = 0 ∨ k = 1 ∨ k = 2 ∨ k = 3 ∨ k = 4 ∨ k = 5 by omega) with rfl | rfl | rfl | rfl | rfl | rfl <;> decide +kernel
end move
