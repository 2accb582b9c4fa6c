/-! what is left of a set -/
theorem diff_bits {s p : Nat} (hs' : s < 256) (hp : p < 256) : nI s &&& (nI p ^^^ (-1)) = nI (s ^^^ (s &&& p)) ∧ s ^^^ (s &&& p) < 256 := by
  have key : ∀ s, s < 256 → ∀ p, p < 256 → nI s &&& (nI p ^^^ (-1)) = nI (s ^^^ (s &&& p)) ∧ s ^^^ (s &&& p) < 256 := by decide +kernel
  exact key s hs' p hp
