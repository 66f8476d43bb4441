set_option maxRecDepth 100000 in
theorem mok_0 : ∀ k, k < 40 → mokM (0 + k) = true := by decide +kernel
set_option maxRecDepth 100000 in
theorem mok_40 : ∀ k, k < 40 → mokM (40 + k) = true := by decide +kernel
set_option maxRecDepth 100000 in
theorem mok_80 : ∀ k, k < 40 → mokM (80 + k) = true := by decide +kernel
set_option maxRecDepth 100000 in
theorem mok_120 : ∀ k, k < 40 → mokM (120 + k) = true := by decide +kernel
set_option maxRecDepth 100000 in
theorem mok_160 : ∀ k, k < 40 → mokM (160 + k) = true := by decide +kernel
set_option maxRecDepth 100000 in
theorem mok_200 : ∀ k, k < 40 → mokM (200 + k) = true := by decide +kernel
set_option maxRecDepth 100000 in
theorem mok_240 : ∀ k, k < 40 → mokM (240 + k) = true := by decide +kernel
set_option maxRecDepth 100000 in
theorem mok_280 : ∀ k, k < 36 → mokM (280 + k) = true := by decide +kernel
