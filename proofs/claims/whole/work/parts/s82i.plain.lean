theorem plain_n : ∀ m, m < 316 → (plainName (ownS m) || decide (ownS m = "java/lang/Math")) = true := by decide +kernel
theorem plain_m : ∀ k, k < 6 → plainFor (myY (310 + k)) = true := by decide +kernel
theorem plain_o : ∀ m, m < 310 → plainName (ownS m) = true := by decide +kernel
theorem plain_all : ∀ m, m < 316 → plainFor (myY m) = true := by
  intro m hm
  by_cases h : m < 310
  · exact plainFor_of_name (plain_o m h)
  · have h := plain_m (m - 310) (by omega)
    rwa [show 310 + (m - 310) = m by omega] at h
