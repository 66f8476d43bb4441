/-! bits and shifts of small numbers -/
theorem w32_i {x : Int} (h1 : -2147483648 ≤ x) (h2 : x < 2147483648) : w32 x = x := by unfold w32; omega
theorem bv_in {x : Nat} (h : x < 2147483648) : (Int32.ofInt (x : Int)).toBitVec.toNat = x := by
  rw [Int32.toBitVec_ofInt]
  show (BitVec.ofInt 32 (x : Int)).toNat = x
  rw [BitVec.ofInt_natCast, BitVec.toNat_ofNat]
  exact Nat.mod_eq_of_lt (by omega)
theorem bv_out {z : Int32} {n : Nat} (h : z.toBitVec.toNat = n) (hn : n < 2147483648) : z.toInt = (n : Int) := by
  show z.toBitVec.toInt = _
  rw [BitVec.toInt_eq_toNat_of_lt (by rw [h]; omega), h]
theorem and32_nat {x y : Nat} (hx : x < 2147483648) (hy : y < 2147483648) : and32 (x : Int) (y : Int) = ((x &&& y : Nat) : Int) := by
  refine bv_out ?_ (Nat.lt_of_le_of_lt Nat.and_le_left hx)
  show ((Int32.ofInt (x : Int)).toBitVec &&& (Int32.ofInt (y : Int)).toBitVec).toNat = _
  rw [BitVec.toNat_and, bv_in hx, bv_in hy]
theorem or_lt31 {x y : Nat} (hx : x < 2147483648) (hy : y < 2147483648) : x ||| y < 2147483648 := Nat.or_lt_two_pow (n := 31) hx hy
theorem ior32_nat {x y : Nat} (hx : x < 2147483648) (hy : y < 2147483648) : ior32 (x : Int) (y : Int) = ((x ||| y : Nat) : Int) := by
  refine bv_out ?_ (or_lt31 hx hy)
  show ((Int32.ofInt (x : Int)).toBitVec ||| (Int32.ofInt (y : Int)).toBitVec).toNat = _
  rw [BitVec.toNat_or, bv_in hx, bv_in hy]
theorem sh_31 {k : Nat} (hk : k < 32) : (Int32.ofInt (k : Int) &&& 31).toBitVec.toNat = k := by
  show ((Int32.ofInt (k : Int)).toBitVec &&& (31 : Int32).toBitVec).toNat = k
  rw [BitVec.toNat_and, bv_in (by omega)]
  exact (show ∀ k, k < 32 → k &&& (31 : Int32).toBitVec.toNat = k by decide) k hk
theorem shl32_nat {x k : Nat} (hk : k < 32) (hx : x * 2 ^ k < 2147483648) : shl32 (x : Int) (k : Int) = ((x * 2 ^ k : Nat) : Int) := by
  have hx1 : x < 2147483648 := Nat.lt_of_le_of_lt (Nat.le_mul_of_pos_right x (Nat.pow_pos (by omega))) hx
  refine bv_out ?_ hx
  show ((Int32.ofInt (x : Int)).toBitVec <<< ((Int32.ofInt (k : Int) &&& 31).toBitVec.smod 32)).toNat = _
  have e : ((Int32.ofInt (k : Int) &&& 31).toBitVec.smod 32).toNat = k := by
    have h : (Int32.ofInt (k : Int) &&& 31).toBitVec = BitVec.ofNat 32 k := by
      refine BitVec.eq_of_toNat_eq ?_
      rw [sh_31 hk, BitVec.toNat_ofNat]
      exact (Nat.mod_eq_of_lt (by omega)).symm
    rw [h]
    exact (show ∀ k, k < 32 → ((BitVec.ofNat 32 k).smod 32).toNat = k by decide) k hk
  rw [BitVec.shiftLeft_eq', e, BitVec.toNat_shiftLeft, bv_in hx1, Nat.shiftLeft_eq]
  exact Nat.mod_eq_of_lt (by omega)
theorem shr32_nat {x k : Nat} (hk : k < 32) (hx : x < 2147483648) : shr32 (x : Int) (k : Int) = ((x / 2 ^ k : Nat) : Int) := by
  have h0 : x / 2 ^ k < 2147483648 := Nat.lt_of_le_of_lt (Nat.div_le_self _ _) hx
  refine bv_out ?_ h0
  show ((Int32.ofInt (x : Int)).toBitVec.sshiftRight' ((Int32.ofInt (k : Int) &&& 31).toBitVec.smod 32)).toNat = _
  have e : ((Int32.ofInt (k : Int) &&& 31).toBitVec.smod 32).toNat = k := by
    have h : (Int32.ofInt (k : Int) &&& 31).toBitVec = BitVec.ofNat 32 k := by
      refine BitVec.eq_of_toNat_eq ?_
      rw [sh_31 hk, BitVec.toNat_ofNat]
      exact (Nat.mod_eq_of_lt (by omega)).symm
    rw [h]
    exact (show ∀ k, k < 32 → ((BitVec.ofNat 32 k).smod 32).toNat = k by decide) k hk
  have hm : (Int32.ofInt (x : Int)).toBitVec.msb = false := by
    rw [BitVec.msb_eq_false_iff_two_mul_lt, bv_in hx]
    omega
  rw [BitVec.sshiftRight', e, BitVec.sshiftRight_eq_of_msb_false hm, BitVec.toNat_ushiftRight, bv_in hx, Nat.shiftRight_eq_div_pow]
