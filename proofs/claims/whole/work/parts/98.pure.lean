theorem hpure : ∀ X : Scr, X.1 ≤ 2560 → ∃ τ : Sto, fL_law_e X sg0 = some (1, τ) := by
  sorry
