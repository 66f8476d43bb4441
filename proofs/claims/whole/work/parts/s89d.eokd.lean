set_option maxRecDepth 100000 in
theorem eokd_0 : ∀ k, k < 40 → (codes (0 + k)).all (eokD (0 + k)) = true := by decide +kernel
set_option maxRecDepth 100000 in
theorem eokd_40 : ∀ k, k < 40 → (codes (40 + k)).all (eokD (40 + k)) = true := by decide +kernel
set_option maxRecDepth 100000 in
theorem eokd_80 : ∀ k, k < 40 → (codes (80 + k)).all (eokD (80 + k)) = true := by decide +kernel
