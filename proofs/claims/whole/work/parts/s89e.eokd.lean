set_option maxRecDepth 100000 in
theorem eokd_120 : ∀ k, k < 40 → (codes (120 + k)).all (eokD (120 + k)) = true := by decide +kernel
set_option maxRecDepth 100000 in
theorem eokd_160 : ∀ k, k < 40 → (codes (160 + k)).all (eokD (160 + k)) = true := by decide +kernel
set_option maxRecDepth 100000 in
theorem eokd_200 : ∀ k, k < 40 → (codes (200 + k)).all (eokD (200 + k)) = true := by decide +kernel
