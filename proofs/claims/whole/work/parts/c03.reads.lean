/-! CONTRACTS: what the class reads of stacks -/
theorem and_mask {n s : Nat} (hn : n < 6) (hs : s < 2147483648) : and32 (s : Int) (w32 (((2 ^ n : Nat) : Int) - 1)) = ((s % 2 ^ n : Nat) : Int) := by
  have h1 : 1 ≤ 2 ^ n ∧ 2 ^ n ≤ 32 := ⟨(show ∀ n, n < 6 → 1 ≤ 2 ^ n by decide) n hn, (fct_le n hn).2.2.1⟩
  rw [w32_i (by omega) (by omega), show (((2 ^ n : Nat) : Int) - 1) = ((2 ^ n - 1 : Nat) : Int) by omega, and32_nat hs (by omega), Nat.and_two_pow_sub_one_eq_mod]
theorem ix_o {n s i c : Nat} (hn : n < 6) (hs : s < allS n) (hc : c ≤ 6) (hi : i ≤ 5) : w32 (w32 (shr32 (s : Int) (n : Int) * (c : Int)) + (i : Int)) = ((c * (s / 2 ^ n) + i : Nat) : Int) := by
  have h1 := fct_le n hn
  have h2 := ord_lt hs
  have h3 : (s / 2 ^ n) * c ≤ 120 * 6 := Nat.mul_le_mul (by omega) hc
  rw [shr32_nat (by omega) (by omega)]
  generalize s / 2 ^ n = o at *
  have e : ((o : Nat) : Int) * (c : Int) = ((o * c : Nat) : Int) := by simp
  rw [e, w32_i (x := ((o * c : Nat) : Int)) (by omega) (by omega), w32_i (by omega) (by omega), Nat.mul_comm c o]
  omega
theorem ix_d {n d i c : Nat} (hn : n < 6) (hd : d < 2 ^ n) (hc : c ≤ 6) (hi : i ≤ 5) : w32 (w32 ((d : Int) * (c : Int)) + (i : Int)) = ((c * d + i : Nat) : Int) := by
  have h1 := fct_le n hn
  have h3 : d * c ≤ 32 * 6 := Nat.mul_le_mul (by omega) hc
  have e : ((d : Nat) : Int) * (c : Int) = ((d * c : Nat) : Int) := by simp
  rw [e, w32_i (x := ((d * c : Nat) : Int)) (by omega) (by omega), w32_i (by omega) (by omega), Nat.mul_comm c d]
  omega
theorem ct_sizeAt {D n s i : Nat} {M : Mm} {K : Po} (hD : 0 < D) (hT : StkOK n M) (hs : s < allS n) (hi : i ≤ n) (hK : K (0, ((szS n s i : Nat) : Int)) GT M) : CallP D 103 [(2, 19), (0, (s : Int)), (0, (i : Int))] GT M K := by
  obtain ⟨h1, h2, h3, h4, h5, h6, -⟩ := hT
  have hf := fct_le n (by omega)
  have ho := ord_lt hs
  refine call_run hD (fun d hd => wp_run 40 cd_9_sizeAt [] rfl (by decide) ?_)
  conv => whnf
  refine ⟨fun h => absurd h (by omega), fun _ => ?_⟩
  conv => whnf
  refine ⟨fun _ => ?_, fun h => absurd h (by omega)⟩
  conv => whnf
  refine ⟨fun h => absurd h (by omega), fun _ => ?_⟩
  conv => whnf
  refine ⟨fun h => ?_, fun h => ?_⟩
  · have hin : i < n := by omega
    have e : w32 (w32 (shr32 (s : Int) (M 19 0) * 5) + (i : Int)) = ((5 * (s / 2 ^ n) + i : Nat) : Int) := by
      rw [h3]
      exact ix_o (c := 5) (by omega) hs (by omega) (by omega)
    conv => whnf
    refine ⟨?_, ?_⟩
    · rw [e]
      show 0 ≤ _ ∧ _ < (600 : Int)
      omega
    · conv => whnf
      rw [gl_19_3, e, h6 _ _ ho hin]
      unfold szS at hK
      rw [if_pos hin] at hK
      exact hK
  · conv => whnf
    unfold szS at hK
    rw [if_neg (by omega)] at hK
    exact hK
theorem ct_workOf {D n s k : Nat} {M : Mm} {K : Po} (hD : 0 < D) (hT : StkOK n M) (hs : s < allS n) (hk : k ≤ n) (hK : K (0, ((wkS n s k : Nat) : Int)) GT M) : CallP D 108 [(2, 19), (0, (s : Int)), (0, (k : Int))] GT M K := by
  obtain ⟨h1, h2, h3, h4, h5, h6, h7, -⟩ := hT
  have hf := fct_le n (by omega)
  have ho := ord_lt hs
  refine call_run hD (fun d hd => wp_run 40 cd_9_workOf [] rfl (by decide) ?_)
  conv => whnf
  refine ⟨fun h => absurd h (by omega), fun _ => ?_⟩
  conv => whnf
  refine ⟨fun _ => ?_, fun h => absurd h (by omega)⟩
  conv => whnf
  refine ⟨fun h => absurd h (by omega), fun _ => ?_⟩
  conv => whnf
  refine ⟨fun h => absurd h (by omega), fun h => ?_⟩
  have e : w32 (w32 (shr32 (s : Int) (M 19 0) * 6) + (k : Int)) = ((6 * (s / 2 ^ n) + k : Nat) : Int) := by
    rw [h3]
    exact ix_o (c := 6) (by omega) hs (by omega) (by omega)
  conv => whnf
  refine ⟨?_, ?_⟩
  · rw [e]
    show 0 ≤ _ ∧ _ < (720 : Int)
    omega
  · conv => whnf
    rw [gl_19_5, e, (h7 _ _ ho hk).2]
    exact hK
theorem ct_turnOver {D n s k : Nat} {M : Mm} {K : Po} (hD : 0 < D) (hT : StkOK n M) (hs : s < allS n) (hk : k ≤ n) (hK : K (0, ((tnS n s k : Nat) : Int)) GT M) : CallP D 107 [(2, 19), (0, (s : Int)), (0, (k : Int))] GT M K := by
  obtain ⟨h1, h2, h3, h4, h5, h6, h7, h8, h9, -⟩ := hT
  have hf := fct_le n (by omega)
  have ho := ord_lt hs
  have hdl := sid_lt (n := n) (s := s)
  refine call_run hD (fun d hd => wp_run 60 cd_9_turnOver [] rfl (by decide) ?_)
  conv => whnf
  refine ⟨fun h => absurd h (by omega), fun _ => ?_⟩
  conv => whnf
  refine ⟨fun _ => ?_, fun h => absurd h (by omega)⟩
  conv => whnf
  refine ⟨fun h => absurd h (by omega), fun _ => ?_⟩
  conv => whnf
  refine ⟨fun h => absurd h (by omega), fun h => ?_⟩
  have e : w32 (w32 (shr32 (s : Int) (M 19 0) * 6) + (k : Int)) = ((6 * (s / 2 ^ n) + k : Nat) : Int) := by
    rw [h3]
    exact ix_o (c := 6) (by omega) hs (by omega) (by omega)
  have e2 : w32 (w32 (and32 (s : Int) (w32 (M 19 1 - 1)) * 6) + (k : Int)) = ((6 * (s % 2 ^ n) + k : Nat) : Int) := by
    rw [h4, and_mask (by omega) (by omega)]
    exact ix_d (c := 6) (by omega) hdl (by omega) (by omega)
  conv => whnf
  refine ⟨?_, ?_⟩
  · rw [e]
    show 0 ≤ _ ∧ _ < (720 : Int)
    omega
  · conv => whnf
    refine ⟨?_, ?_⟩
    · rw [e2]
      show 0 ≤ _ ∧ _ < (192 : Int)
      omega
    · conv => whnf
      rw [gl_19_4, gl_19_7, e, e2, (h7 _ _ ho hk).1, h9 _ _ hdl hk, h3]
      have hb := oT_in n (by omega) _ ho k (by omega)
      have hc := sT_in n (by omega) _ hdl k (by omega)
      have hm : oT n (s / 2 ^ n) k * 2 ^ n ≤ 120 * 32 := Nat.mul_le_mul (by omega) (by omega)
      rw [shl32_nat (by omega) (by omega), ior32_nat (by omega) (by omega)]
      have e3 : oT n (s / 2 ^ n) k * 2 ^ n ||| sT n (s % 2 ^ n) k = oT n (s / 2 ^ n) k * 2 ^ n + sT n (s % 2 ^ n) k := by
        rw [Nat.mul_comm]
        exact (Nat.two_pow_add_eq_or_of_lt hc _).symm
      rw [e3]
      exact hK
