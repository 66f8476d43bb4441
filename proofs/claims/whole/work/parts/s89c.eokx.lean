set_option maxRecDepth 100000 in
theorem eokx_0 : ∀ k, k < 40 → (codes (0 + k)).all (eokX (0 + k)) = true := by decide +kernel
set_option maxRecDepth 100000 in
theorem eokx_40 : ∀ k, k < 40 → (codes (40 + k)).all (eokX (40 + k)) = true := by decide +kernel
set_option maxRecDepth 100000 in
theorem eokx_80 : ∀ k, k < 40 → (codes (80 + k)).all (eokX (80 + k)) = true := by decide +kernel
set_option maxRecDepth 100000 in
theorem eokx_120 : ∀ k, k < 40 → (codes (120 + k)).all (eokX (120 + k)) = true := by decide +kernel
set_option maxRecDepth 100000 in
theorem eokx_160 : ∀ k, k < 40 → (codes (160 + k)).all (eokX (160 + k)) = true := by decide +kernel
set_option maxRecDepth 100000 in
theorem eokx_200 : ∀ k, k < 40 → (codes (200 + k)).all (eokX (200 + k)) = true := by decide +kernel
set_option maxRecDepth 100000 in
theorem eokx_240 : ∀ k, k < 40 → (codes (240 + k)).all (eokX (240 + k)) = true := by decide +kernel
set_option maxRecDepth 100000 in
theorem eokx_280 : ∀ k, k < 36 → (codes (280 + k)).all (eokX (280 + k)) = true := by decide +kernel
set_option maxRecDepth 100000 in
theorem eokx_316 : (codes 316).all (eokX 316) = true := by decide +kernel
