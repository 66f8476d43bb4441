/-! CONTRACTS: what the reference reads of stacks -/
def sgS (n s i : Nat) : Int := if sd n (s % 2 ^ n) i = 1 then -((sz n (s / 2 ^ n) i : Nat) : Int) else ((sz n (s / 2 ^ n) i : Nat) : Int)
/-- the reference's table, laid for n pancakes -/
def RefOK (n : Nat) (M : Mm) : Prop := 1 ≤ n ∧ n ≤ 5 ∧ M 92 1 = (n : Int) ∧ M 91 19 = ((allS n : Nat) : Int)
  ∧ (∀ s i : Nat, s < allS n → i < n → M 96 ((5 * s + i : Nat) : Int) = sgS n s i)
theorem sd_lt (n d i : Nat) : sd n d i < 2 := Nat.mod_lt _ (by omega)
theorem sg_abs (n s i : Nat) : ((sgS n s i).natAbs : Int) = ((sz n (s / 2 ^ n) i : Nat) : Int) := by
  unfold sgS
  split <;> omega
theorem sg_in {n s i : Nat} (hn : n < 6) (hs : s < allS n) (hi : i < n) : -5 ≤ sgS n s i ∧ sgS n s i ≤ 5 ∧ (sgS n s i < 0 ↔ sd n (s % 2 ^ n) i = 1) := by
  have h := sz_in n hn _ (ord_lt hs) i hi
  unfold sgS
  split
  · omega
  · omega
theorem ix_r {s i : Nat} (hs : s < 3840) (hi : i < 5) : w32 (w32 (5 * (s : Int)) + (i : Int)) = ((5 * s + i : Nat) : Int) := by
  rw [w32_i (x := 5 * (s : Int)) (by omega) (by omega), w32_i (by omega) (by omega)]
  omega
theorem bd_r {s i : Nat} (hs : s < 3840) (hi : i < 5) : 0 ≤ ((5 * s + i : Nat) : Int) ∧ ((5 * s + i : Nat) : Int) < 19200 := by omega
theorem ct_plain {D : Nat} {x : Int} {M : Mm} {K : Po} (hD : 0 < D) (hx : -2147483648 < x ∧ x ≤ 2147483647) (hK : K (0, (x.natAbs : Int)) GT M) : CallP D 211 [(0, x)] GT M K := by
  refine call_run hD (fun d hd => wp_run 40 cd_12_plainSize [] rfl (by decide) ?_)
  conv => whnf
  refine ⟨fun h => ?_, fun h => ?_⟩
  · conv => whnf
    rw [w32_i (by omega) (by omega), show -x = (x.natAbs : Int) by omega]
    exact hK
  · conv => whnf
    rw [show (x.natAbs : Int) = x by omega] at hK
    exact hK
theorem ct_sizeIn {D n s i : Nat} {M : Mm} {K : Po} (hD : 1 < D) (hT : RefOK n M) (hs : s < allS n) (hi : i < n) (hK : K (0, ((sz n (s / 2 ^ n) i : Nat) : Int)) GT M) : CallP D 212 [(2, 91), (0, (s : Int)), (0, (i : Int))] GT M K := by
  obtain ⟨h1, h2, h3, h4, h5⟩ := hT
  have hf := fct_le n (by omega)
  have hg := sg_in (by omega) hs hi
  refine call_run (by omega) (fun d hd => wp_run 40 cd_12_sizeIn [] rfl (by decide) ?_)
  have hs5 : s < 3840 := by omega
  have hi5 : i < 5 := by omega
  have ei := ix_r (s := s) (i := i) hs5 hi5
  conv => whnf
  refine ⟨?_, ?_⟩
  · rw [ei, gl_91_16, sl_96]
    exact bd_r hs5 hi5
  · conv => whnf
    rw [gl_91_16, ei, h5 _ _ hs hi]
    refine ct_plain (by omega) (by omega) ?_
    rw [sg_abs]
    exact hK
theorem ct_isUpIn {D n s i : Nat} {M : Mm} {K : Po} (hD : 0 < D) (hT : RefOK n M) (hs : s < allS n) (hi : i < n) (hK : K (0, ((sd n (s % 2 ^ n) i : Nat) : Int)) GT M) : CallP D 213 [(2, 91), (0, (s : Int)), (0, (i : Int))] GT M K := by
  obtain ⟨h1, h2, h3, h4, h5⟩ := hT
  have hf := fct_le n (by omega)
  have hg := sg_in (by omega) hs hi
  have hl := sd_lt n (s % 2 ^ n) i
  refine call_run (by omega) (fun d hd => wp_run 40 cd_12_isUpIn [] rfl (by decide) ?_)
  have hs5 : s < 3840 := by omega
  have hi5 : i < 5 := by omega
  have ei := ix_r (s := s) (i := i) hs5 hi5
  conv => whnf
  refine ⟨?_, ?_⟩
  · rw [ei, gl_91_16, sl_96]
    exact bd_r hs5 hi5
  · conv => whnf
    rw [gl_91_16, ei, h5 _ _ hs hi]
    refine ⟨fun h => ?_, fun h => ?_⟩
    · rw [hg.2.2.mp h] at hK
      conv => whnf
      exact ⟨Or.inr rfl, hK⟩
    · rw [show sd n (s % 2 ^ n) i = 0 by have := hg.2.2; omega] at hK
      conv => whnf
      exact ⟨Or.inl rfl, hK⟩
def psm (n d i : Nat) : Nat := ((List.range i).map (sd n d)).sum
theorem psm_succ (n d i : Nat) : psm n d (i + 1) = psm n d i + sd n d i := by
  unfold psm
  rw [List.range_succ, List.map_append, List.sum_append]
  simp
theorem psm_le (n d : Nat) : ∀ i, psm n d i ≤ i
  | 0 => Nat.le_refl _
  | i + 1 => by
    have := psm_le n d i
    have := sd_lt n d i
    rw [psm_succ]
    omega
theorem ct_upsIn {D n s : Nat} {M : Mm} {K : Po} (hD : 1 < D) (hT : RefOK n M) (hs : s < allS n) (hK : K (0, ((upsS n s : Nat) : Int)) GT M) : CallP D 215 [(2, 91), (0, (s : Int))] GT M K := by
  have hT0 := hT
  obtain ⟨h1, h2, h3, h4, h5⟩ := hT
  refine call_run (by omega) (fun d hd => ?_)
  have loop : ∀ j i : Nat, i + j = n → Run d (GT.1 + acs 215) 215 4 [(0, (2, 91)), (1, (0, (s : Int))), (2, (0, ((psm n (s % 2 ^ n) i : Nat) : Int))), (3, (0, (i : Int)))] [] GT M (fun r G' M' => gd (Nat.beq G'.1 (GT.1 + acs 215)) (K r G' M')) := by
    intro j
    induction j with
    | zero =>
      intro i hi
      refine wp_run 40 cd_12_upsIn [(4, [0, 1, 2, 3])] rfl (by decide) ?_
      conv => whnf
      rw [gl_91_1, sl_92]
      refine ⟨by omega, ?_⟩
      conv => whnf
      refine ⟨fun h => absurd h (by omega), fun h => ?_⟩
      conv => whnf
      rw [show i = n by omega]
      exact hK
    | succ j ih =>
      intro i hi
      have hp := psm_le n (s % 2 ^ n) i
      have hl := sd_lt n (s % 2 ^ n) i
      have e := psm_succ n (s % 2 ^ n) i
      refine wp_run 40 cd_12_upsIn [(4, [0, 1, 2, 3])] rfl (by decide) ?_
      conv => whnf
      rw [gl_91_1, sl_92]
      refine ⟨by omega, ?_⟩
      conv => whnf
      refine ⟨fun h => ?_, fun h => absurd h (by omega)⟩
      conv => whnf
      refine ct_isUpIn (by omega) hT0 hs (by omega) ?_
      have ih' := ih (i + 1) (by omega)
      rw [e] at ih'
      conv => whnf
      refine ⟨fun h => ?_, fun h => ?_⟩
      · conv => whnf
        rw [w32_i (x := (i : Int) + 1) (by omega) (by omega), w32_i (by omega) (by omega)]
        rw [show sd n (s % 2 ^ n) i = 0 by omega] at ih'
        exact ih'
      · conv => whnf
        rw [w32_i (x := (i : Int) + 1) (by omega) (by omega), w32_i (by omega) (by omega)]
        rw [show sd n (s % 2 ^ n) i = 1 by omega] at ih'
        exact ih'
  refine wp_run 40 cd_12_upsIn [(4, [0, 1, 2, 3])] rfl (by decide) ?_
  conv => whnf
  exact loop n 0 (by omega)
