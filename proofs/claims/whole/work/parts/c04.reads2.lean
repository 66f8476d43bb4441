/-! CONTRACTS: more of what the class reads of stacks -/
theorem and32_one {x : Nat} (hx : x < 2147483648) : and32 (x : Int) 1 = ((x % 2 : Nat) : Int) := by
  have h := and32_nat hx (y := 1) (by omega)
  rw [Nat.and_one_is_mod] at h
  exact h
theorem ct_sideAt {D n e i : Nat} {M : Mm} {K : Po} (hD : 0 < D) (hT : StkOK n M) (he : e < 2 ^ n) (hi : i < n) (hK : K (0, ((sd n e i : Nat) : Int)) GT M) : CallP D 100 [(2, 19), (0, (e : Int)), (0, (i : Int))] GT M K := by
  obtain ⟨h1, h2, h3, -⟩ := hT
  have hf := fct_le n (by omega)
  refine call_run hD (fun d hd => wp_run 40 cd_9_sideAt [] rfl (by decide) ?_)
  conv => whnf
  have e1 : w32 (w32 (M 19 0 - 1) - (i : Int)) = ((n - 1 - i : Nat) : Int) := by
    rw [h3, w32_i (x := (n : Int) - 1) (by omega) (by omega), w32_i (by omega) (by omega)]
    omega
  have h0 : e / 2 ^ (n - 1 - i) ≤ e := Nat.div_le_self _ _
  rw [e1, shr32_nat (by omega) (by omega), and32_one (by omega)]
  exact hK
theorem ct_upAt {D n s i : Nat} {M : Mm} {K : Po} (hD : 1 < D) (hT : StkOK n M) (hs : s < allS n) (hi : i < n) (hK : K (0, ((upS n s i : Nat) : Int)) GT M) : CallP D 104 [(2, 19), (0, (s : Int)), (0, (i : Int))] GT M K := by
  have hT0 := hT
  obtain ⟨h1, h2, h3, h4, -⟩ := hT
  have hf := fct_le n (by omega)
  refine call_run (by omega) (fun d hd => wp_run 40 cd_9_upAt [] rfl (by decide) ?_)
  conv => whnf
  refine ⟨fun h => absurd h (by omega), fun _ => ?_⟩
  conv => whnf
  refine ⟨fun _ => ?_, fun h => absurd h (by omega)⟩
  conv => whnf
  have e1 : and32 (s : Int) (w32 (M 19 1 - 1)) = ((s % 2 ^ n : Nat) : Int) := by
    rw [h4]
    exact and_mask (by omega) (by omega)
  rw [e1]
  exact ct_sideAt (by omega) hT0 sid_lt hi hK
def bc1 (x : Int) : Int := w32 (x - and32 (ush32 x 1) 1431655765)
def bc2 (x : Int) : Int := w32 (and32 x 858993459 + and32 (ush32 x 2) 858993459)
def bc3 (x : Int) : Int := and32 (w32 (x + ush32 x 4)) 252645135
def bcE (x : Int) : Int := and32 (w32 (w32 (bc3 (bc2 (bc1 x)) + ush32 (bc3 (bc2 (bc1 x))) 8) + ush32 (w32 (bc3 (bc2 (bc1 x)) + ush32 (bc3 (bc2 (bc1 x))) 8)) 16)) 63
theorem bc_all : ∀ n, n < 6 → ∀ d, d < 2 ^ n → bcE ((d : Nat) : Int) = (((sdL n d).sum : Nat) : Int) := by decide +kernel
theorem ct_bits {D : Nat} {x : Int} {M : Mm} {K : Po} (hD : 0 < D) (hK : K (0, bcE x) GT M) : CallP D 309 [(0, x)] GT M K := by
  refine call_run hD (fun d hd => wp_run 80 cd_J6_bitCount_0f7a4 [] rfl (by decide) ?_)
  conv => whnf
  exact hK
theorem ct_upsOf {D n s : Nat} {M : Mm} {K : Po} (hD : 1 < D) (hT : StkOK n M) (hs : s < allS n) (hK : K (0, ((upsS n s : Nat) : Int)) GT M) : CallP D 105 [(2, 19), (0, (s : Int))] GT M K := by
  obtain ⟨h1, h2, h3, h4, h5, h6, h7, h8, h9, h10, h11⟩ := hT
  have hf := fct_le n (by omega)
  have hdl := sid_lt (n := n) (s := s)
  refine call_run (by omega) (fun d hd => wp_run 40 cd_9_upsOf [] rfl (by decide) ?_)
  have e1 : and32 (s : Int) (w32 (M 19 1 - 1)) = ((s % 2 ^ n : Nat) : Int) := by
    rw [h4]
    exact and_mask (by omega) (by omega)
  conv => whnf
  refine ⟨?_, ?_⟩
  · rw [e1]
    show 0 ≤ _ ∧ _ < (32 : Int)
    omega
  · conv => whnf
    rw [gl_19_9, e1, h11 _ hdl]
    exact hK
theorem ct_min {D : Nat} {x y : Int} {M : Mm} {K : Po} (hD : 0 < D) (hK : K (0, min x y) GT M) : CallP D 314 [(0, x), (0, y)] GT M K := by
  refine call_run hD (fun d hd => wp_run 40 cd_J9_min_7cf53 [] rfl (by decide) ?_)
  conv => whnf
  refine ⟨fun h => ?_, fun h => ?_⟩
  · conv => whnf
    rw [Int.min_eq_right (by omega)] at hK
    exact hK
  · conv => whnf
    rw [Int.min_eq_left (by omega)] at hK
    exact hK
theorem ct_rightOf {D n s : Nat} {M : Mm} {K : Po} (hD : 1 < D) (hT : StkOK n M) (hs : s < allS n) (hK : K (0, ((rtS n s : Nat) : Int)) GT M) : CallP D 106 [(2, 19), (0, (s : Int))] GT M K := by
  obtain ⟨h1, h2, h3, h4, h5, h6, h7, h8, h9, h10, -⟩ := hT
  have hf := fct_le n (by omega)
  have ho := ord_lt hs
  have hdl := sid_lt (n := n) (s := s)
  refine call_run (by omega) (fun d hd => wp_run 60 cd_9_rightOf [] rfl (by decide) ?_)
  conv => whnf
  refine ⟨fun h => absurd h (by omega), fun _ => ?_⟩
  conv => whnf
  refine ⟨fun _ => ?_, fun h => absurd h (by omega)⟩
  have e1 : and32 (s : Int) (w32 (M 19 1 - 1)) = ((s % 2 ^ n : Nat) : Int) := by
    rw [h4]
    exact and_mask (by omega) (by omega)
  have e2 : shr32 (s : Int) (M 19 0) = ((s / 2 ^ n : Nat) : Int) := by
    rw [h3]
    exact shr32_nat (by omega) (by omega)
  conv => whnf
  refine ⟨?_, ?_⟩
  · have hh := Int.natCast_nonneg (s / 2 ^ n)
    rw [e2]
    show 0 ≤ _ ∧ _ < (120 : Int)
    omega
  · conv => whnf
    refine ⟨?_, ?_⟩
    · rw [e1]
      show 0 ≤ _ ∧ _ < (32 : Int)
      omega
    · conv => whnf
      rw [gl_19_6, gl_19_8, e1, e2, h8 _ ho, h10 _ hdl]
      refine ct_min (by omega) ?_
      rw [show min ((oR n (s / 2 ^ n) : Nat) : Int) ((sR n (s % 2 ^ n) : Nat) : Int) = ((rtS n s : Nat) : Int) by unfold rtS; omega]
      exact hK
/-- 1 if a stack is at the aim of a sort -/
def aimS (n s : Nat) (t : Int) : Int := if t = 0 then (if s = 0 then 1 else 0) else if t = 1 then (if s / 2 ^ n = 0 then 1 else 0) else if s % 2 ^ n = 0 then 1 else 0
theorem ct_isAtAim {D n s : Nat} {t : Int} {M : Mm} {K : Po} (hD : 0 < D) (hT : StkOK n M) (hs : s < allS n) (hK : K (0, aimS n s t) GT M) : CallP D 109 [(2, 19), (0, (s : Int)), (0, t)] GT M K := by
  obtain ⟨h1, h2, h3, h4, -⟩ := hT
  have hf := fct_le n (by omega)
  have e1 : and32 (s : Int) (w32 (M 19 1 - 1)) = ((s % 2 ^ n : Nat) : Int) := by
    rw [h4]
    exact and_mask (by omega) (by omega)
  have e2 : shr32 (s : Int) (M 19 0) = ((s / 2 ^ n : Nat) : Int) := by
    rw [h3]
    exact shr32_nat (by omega) (by omega)
  unfold aimS at hK
  refine call_run hD (fun d hd => wp_run 60 cd_9_isAtAim [] rfl (by decide) ?_)
  conv => whnf
  refine ⟨fun h => ?_, fun h => ?_⟩
  · rw [if_pos h] at hK
    conv => whnf
    refine ⟨fun h' => ?_, fun h' => ?_⟩
    · rw [if_pos (by omega)] at hK
      conv => whnf
      exact ⟨Or.inr rfl, hK⟩
    · rw [if_neg (by omega)] at hK
      conv => whnf
      exact ⟨Or.inl rfl, hK⟩
  · rw [if_neg h] at hK
    conv => whnf
    refine ⟨fun h' => ?_, fun h' => ?_⟩
    · rw [if_pos h'] at hK
      conv => whnf
      rw [e2]
      refine ⟨fun h' => ?_, fun h' => ?_⟩
      · rw [if_pos (by omega)] at hK
        conv => whnf
        exact ⟨Or.inr rfl, hK⟩
      · rw [if_neg (by omega)] at hK
        conv => whnf
        exact ⟨Or.inl rfl, hK⟩
    · rw [if_neg h'] at hK
      conv => whnf
      rw [e1]
      refine ⟨fun h' => ?_, fun h' => ?_⟩
      · rw [if_pos (by omega)] at hK
        conv => whnf
        exact ⟨Or.inr rfl, hK⟩
      · rw [if_neg (by omega)] at hK
        conv => whnf
        exact ⟨Or.inl rfl, hK⟩
