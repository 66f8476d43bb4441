/-! whole numbers and the machine's -/
theorem w32_in (x : Int) : -2147483648 ≤ w32 x ∧ w32 x < 2147483648 := by unfold w32; omega
theorem w64_in (x : Int) : -9223372036854775808 ≤ w64 x ∧ w64 x < 9223372036854775808 := by unfold w64; omega
theorem w32_id {x : Int} (h1 : -2147483648 ≤ x) (h2 : x < 2147483648) : w32 x = x := by unfold w32; omega
theorem w64_id {x : Int} (h1 : -9223372036854775808 ≤ x) (h2 : x < 9223372036854775808) : w64 x = x := by unfold w64; omega
theorem o32_to {x : Int} (h1 : -2147483648 ≤ x) (h2 : x < 2147483648) : (Int32.ofInt x).toInt = x := Int32.toInt_ofInt_of_le h1 h2
theorem o64_to {x : Int} (h1 : -9223372036854775808 ≤ x) (h2 : x < 9223372036854775808) : (Int64.ofInt x).toInt = x := Int64.toInt_ofInt_of_le h1 h2
theorem t32_in (z : Int32) : -2147483648 ≤ z.toInt ∧ z.toInt < 2147483648 := ⟨z.le_toInt, z.toInt_lt⟩
theorem t64_in (z : Int64) : -9223372036854775808 ≤ z.toInt ∧ z.toInt < 9223372036854775808 := ⟨z.le_toInt, z.toInt_lt⟩
theorem o32_w (x : Int) : Int32.ofInt (w32 x) = Int32.ofInt x := by
  refine Int32.toInt_inj.mp ?_
  rw [o32_to (w32_in x).1 (w32_in x).2, Int32.toInt_ofInt]
  simp only [Int.bmod, Int32.size, w32]
  split <;> omega
theorem o64_w (x : Int) : Int64.ofInt (w64 x) = Int64.ofInt x := by
  refine Int64.toInt_inj.mp ?_
  rw [o64_to (w64_in x).1 (w64_in x).2, Int64.toInt_ofInt]
  simp only [Int.bmod, Int64.size, w64]
  split <;> omega
theorem o32_eq {x y : Int} (hx : -2147483648 ≤ x ∧ x < 2147483648) (hy : -2147483648 ≤ y ∧ y < 2147483648) : Int32.ofInt x = Int32.ofInt y ↔ x = y := by
  rw [← Int32.toInt_inj, o32_to hx.1 hx.2, o32_to hy.1 hy.2]
theorem o32_lt {x y : Int} (hx : -2147483648 ≤ x ∧ x < 2147483648) (hy : -2147483648 ≤ y ∧ y < 2147483648) : Int32.ofInt x < Int32.ofInt y ↔ x < y := by
  rw [Int32.lt_iff_toInt_lt, o32_to hx.1 hx.2, o32_to hy.1 hy.2]
theorem o32_le {x y : Int} (hx : -2147483648 ≤ x ∧ x < 2147483648) (hy : -2147483648 ≤ y ∧ y < 2147483648) : Int32.ofInt x ≤ Int32.ofInt y ↔ x ≤ y := by
  rw [Int32.le_iff_toInt_le, o32_to hx.1 hx.2, o32_to hy.1 hy.2]
theorem o32_0 : (0 : Int32) = Int32.ofInt 0 := rfl
theorem o32_vp {i : Int} {n : Nat} (h : 0 ≤ i) (h2 : i < n) (hn : n < 2147483648) : vp_in (Int32.ofInt i) n := by
  rw [vp_in_iff, o32_to (by omega) (by omega)]
  exact ⟨h, h2⟩
theorem o32_nat {i : Int} (h : 0 ≤ i) (h2 : i < 2147483648) : (Int32.ofInt i).toNatClampNeg = i.toNat := Int32.toNatClampNeg_ofInt_of_le (by omega) h2
theorem o64_cmp {x y : Int} (hx : -9223372036854775808 ≤ x ∧ x < 9223372036854775808) (hy : -9223372036854775808 ≤ y ∧ y < 9223372036854775808) : lg_cmp (Int64.ofInt x) (Int64.ofInt y) = Int32.ofInt (cmp64 x y) := by
  have e1 : Int64.ofInt x > Int64.ofInt y ↔ y < x := by
    show Int64.ofInt y < Int64.ofInt x ↔ _
    rw [Int64.lt_iff_toInt_lt, o64_to hx.1 hx.2, o64_to hy.1 hy.2]
  have e2 : Int64.ofInt x = Int64.ofInt y ↔ x = y := by rw [← Int64.toInt_inj, o64_to hx.1 hx.2, o64_to hy.1 hy.2]
  unfold lg_cmp cmp64
  by_cases h1 : y < x
  · rw [if_pos h1, if_pos (e1.mpr h1)]; rfl
  · rw [if_neg h1, if_neg (fun q => h1 (e1.mp q))]
    by_cases h2 : x = y
    · rw [if_pos h2, if_pos (e2.mpr h2)]; rfl
    · rw [if_neg h2, if_neg (fun q => h2 (e2.mp q))]; rfl
theorem o32_l {x : Int} (h1 : -2147483648 ≤ x) (h2 : x < 2147483648) : (Int32.ofInt x).toInt64 = Int64.ofInt x := by
  refine Int64.toInt_inj.mp ?_
  rw [Int32.toInt_toInt64, o32_to h1 h2, o64_to (by omega) (by omega)]
theorem o64_i {x : Int} (h1 : -9223372036854775808 ≤ x) (h2 : x < 9223372036854775808) : (Int64.ofInt x).toInt32 = Int32.ofInt (w32 x) := by
  rw [o32_w, ← Int32.ofInt_int64ToInt, o64_to h1 h2]
theorem o8_i {x : Int} (h1 : -128 ≤ x) (h2 : x < 128) : (Int8.ofInt x).toInt32 = Int32.ofInt x := by
  rw [← Int32.ofInt_int8ToInt, Int8.toInt_ofInt_of_le h1 h2]
theorem o16_i {x : Int} (h1 : -32768 ≤ x) (h2 : x < 32768) : (Int16.ofInt x).toInt32 = Int32.ofInt x := by
  rw [← Int32.ofInt_int16ToInt, Int16.toInt_ofInt_of_le h1 h2]
