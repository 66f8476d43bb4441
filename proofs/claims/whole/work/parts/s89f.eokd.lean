set_option maxRecDepth 100000 in
theorem eokd_240 : ∀ k, k < 40 → (codes (240 + k)).all (eokD (240 + k)) = true := by decide +kernel
set_option maxRecDepth 100000 in
theorem eokd_280 : ∀ k, k < 36 → (codes (280 + k)).all (eokD (280 + k)) = true := by decide +kernel
