/-! CONTRACTS: the reference's right ones and its work -/
theorem oR_a : ∀ n, n < 6 → ∀ o, o < fct n → ∀ r, r < n → r < oR n o → sz n o (n - 1 - r) = n - r := by decide +kernel
theorem oR_b : ∀ n, n < 6 → ∀ o, o < fct n → oR n o < n → sz n o (n - 1 - oR n o) ≠ n - oR n o := by decide +kernel
theorem sR_a : ∀ n, n < 6 → ∀ d, d < 2 ^ n → ∀ r, r < n → r < sR n d → sd n d (n - 1 - r) = 0 := by decide +kernel
theorem sR_b : ∀ n, n < 6 → ∀ d, d < 2 ^ n → sR n d < n → sd n d (n - 1 - sR n d) = 1 := by decide +kernel
theorem oW_s : ∀ n, n < 6 → ∀ o, o < fct n → ∀ k, k < n → oW n o (k + 1) = oW n o k + sz n o k := by decide +kernel
theorem rt_le {n s : Nat} (hn : n < 6) (hs : s < allS n) : rtS n s ≤ n := Nat.le_trans (Nat.min_le_left _ _) (oR_in n hn _ (ord_lt hs))
theorem rt_a {n s r : Nat} (hn : n < 6) (hs : s < allS n) (hr : r < rtS n s) : sgS n s (n - 1 - r) = ((n - r : Nat) : Int) := by
  have h0 := rt_le hn hs
  have h1 : r < oR n (s / 2 ^ n) := Nat.lt_of_lt_of_le hr (Nat.min_le_left _ _)
  have h2 : r < sR n (s % 2 ^ n) := Nat.lt_of_lt_of_le hr (Nat.min_le_right _ _)
  have a := oR_a n hn _ (ord_lt hs) r (by omega) h1
  have b := sR_a n hn _ sid_lt r (by omega) h2
  unfold sgS
  rw [if_neg (by omega), a]
theorem rt_b {n s : Nat} (hn : n < 6) (hs : s < allS n) (hr : rtS n s < n) : sgS n s (n - 1 - rtS n s) ≠ ((n - rtS n s : Nat) : Int) := by
  rcases Nat.le_total (oR n (s / 2 ^ n)) (sR n (s % 2 ^ n)) with h | h
  · have e : rtS n s = oR n (s / 2 ^ n) := Nat.min_eq_left h
    rw [e] at hr ⊢
    have a := oR_b n hn _ (ord_lt hs) hr
    have b := sz_in n hn _ (ord_lt hs) (n - 1 - oR n (s / 2 ^ n)) (by omega)
    unfold sgS
    split
    · omega
    · omega
  · have e : rtS n s = sR n (s % 2 ^ n) := Nat.min_eq_right h
    rw [e] at hr ⊢
    have a := sR_b n hn _ sid_lt hr
    unfold sgS
    rw [if_pos a]
    omega
theorem ix_rb {n s r : Nat} {x : Int} (hx : x = (n : Int)) (hs : s < 3840) (hn : n ≤ 5) (hr : r < n) : w32 (w32 (w32 (w32 (5 * (s : Int)) + x) - 1) - (r : Int)) = ((5 * s + (n - 1 - r) : Nat) : Int) := by
  rw [hx, w32_i (x := 5 * (s : Int)) (by omega) (by omega), w32_i (x := 5 * (s : Int) + (n : Int)) (by omega) (by omega), w32_i (x := 5 * (s : Int) + (n : Int) - 1) (by omega) (by omega), w32_i (by omega) (by omega)]
  omega
theorem ct_rightIn {D n s : Nat} {M : Mm} {K : Po} (hD : 0 < D) (hT : RefOK n M) (hs : s < allS n) (hK : K (0, ((rtS n s : Nat) : Int)) GT M) : CallP D 216 [(2, 91), (0, (s : Int))] GT M K := by
  obtain ⟨h1, h2, h3, h4, h5⟩ := hT
  have hn6 : n < 6 := by omega
  have hf := fct_le n hn6
  have hs5 : s < 3840 := by omega
  have hrt := rt_le hn6 hs
  refine call_run (by omega) (fun d hd => ?_)
  have loop : ∀ j r : Nat, r + j = rtS n s → Run d (GT.1 + acs 216) 216 2 [(0, (2, 91)), (1, (0, (s : Int))), (2, (0, (r : Int)))] [] GT M (fun r G' M' => gd (Nat.beq G'.1 (GT.1 + acs 216)) (K r G' M')) := by
    intro j
    induction j with
    | zero =>
      intro r hr
      have hr0 : r = rtS n s := by omega
      refine wp_run 60 cd_12_rightIn [(2, [0, 1, 2])] rfl (by decide) ?_
      conv => whnf
      rw [gl_91_1, sl_92]
      refine ⟨by omega, ?_⟩
      conv => whnf
      refine ⟨fun h => ?_, fun h => ?_⟩
      · have hn : r < n := by omega
        have hb := rt_b hn6 hs (by omega)
        rw [← hr0] at hb
        have ei := ix_rb (s := s) (r := r) h3 hs5 h2 hn
        have hq : n - 1 - r < n := by omega
        have hq5 : n - 1 - r < 5 := by omega
        have ey : w32 (M 92 1 - (r : Int)) = ((n - r : Nat) : Int) := by
          clear ei
          rw [h3, w32_i (by omega) (by omega)]
          omega
        conv => whnf
        rw [gl_91_1, sl_92]
        refine ⟨⟨by decide, by decide⟩, ?_⟩
        conv => whnf
        rw [gl_91_16, sl_96]
        refine ⟨?_, ?_⟩
        · rw [ei]
          exact bd_r hs5 hq5
        · conv => whnf
          rw [gl_91_1, sl_92]
          refine ⟨⟨by decide, by decide⟩, ?_⟩
          conv => whnf
          rw [ei, ey, h5 _ _ hs hq]
          refine ⟨fun h' => absurd h' hb, fun _ => ?_⟩
          conv => whnf
          rw [hr0]
          exact hK
      · conv => whnf
        rw [hr0]
        exact hK
    | succ j ih =>
      intro r hr
      have hn : r < n := by omega
      have ha := rt_a hn6 hs (r := r) (by omega)
      have hq : n - 1 - r < n := by omega
      have hq5 : n - 1 - r < 5 := by omega
      have er : w32 ((r : Int) + 1) = ((r + 1 : Nat) : Int) := by
        rw [w32_i (by omega) (by omega)]
        omega
      have ih' := ih (r + 1) (by clear er; omega)
      have hlt : (r : Int) < M 92 1 := by clear er; omega
      have ey : w32 (M 92 1 - (r : Int)) = ((n - r : Nat) : Int) := by
        clear er
        rw [h3, w32_i (by omega) (by omega)]
        omega
      have ei := ix_rb (s := s) (r := r) h3 hs5 h2 hn
      refine wp_run 60 cd_12_rightIn [(2, [0, 1, 2])] rfl (by decide) ?_
      conv => whnf
      rw [gl_91_1, sl_92]
      refine ⟨⟨by decide, by decide⟩, ?_⟩
      conv => whnf
      refine ⟨fun _ => ?_, fun h => absurd hlt h⟩
      conv => whnf
      rw [gl_91_1, sl_92]
      refine ⟨⟨by decide, by decide⟩, ?_⟩
      conv => whnf
      rw [gl_91_16, sl_96]
      refine ⟨?_, ?_⟩
      · rw [ei]
        exact bd_r hs5 hq5
      · conv => whnf
        rw [gl_91_1, sl_92]
        refine ⟨⟨by decide, by decide⟩, ?_⟩
        conv => whnf
        rw [ei, ey, h5 _ _ hs hq]
        refine ⟨fun _ => ?_, fun h' => absurd ha h'⟩
        conv => whnf
        rw [← er] at ih'
        exact ih'
  refine wp_run 60 cd_12_rightIn [(2, [0, 1, 2])] rfl (by decide) ?_
  conv => whnf
  exact loop (rtS n s) 0 (by omega)
theorem ct_refWork {D n s k : Nat} {M : Mm} {K : Po} (hD : 2 < D) (hT : RefOK n M) (hs : s < allS n) (hk : k ≤ n) (hK : K (0, ((wkS n s k : Nat) : Int)) GT M) : CallP D 223 [(2, 91), (0, (s : Int)), (0, (k : Int))] GT M K := by
  have hT0 := hT
  obtain ⟨h1, h2, h3, h4, h5⟩ := hT
  have hn6 : n < 6 := by omega
  refine call_run (by omega) (fun d hd => ?_)
  have loop : ∀ j i : Nat, i + j = k → Run d (GT.1 + acs 223) 223 5 [(0, (2, 91)), (1, (0, (s : Int))), (2, (0, (k : Int))), (3, (0, ((wkS n s i : Nat) : Int))), (4, (0, (i : Int)))] [] GT M (fun r G' M' => gd (Nat.beq G'.1 (GT.1 + acs 223)) (K r G' M')) := by
    intro j
    induction j with
    | zero =>
      intro i hi
      refine wp_run 40 cd_12_workOf [(5, [0, 1, 2, 3, 4])] rfl (by decide) ?_
      conv => whnf
      refine ⟨fun h => absurd h (by omega), fun h => ?_⟩
      conv => whnf
      rw [show i = k by omega]
      exact hK
    | succ j ih =>
      intro i hi
      have hp := (oW_in n hn6 _ (ord_lt hs) i (by omega)).1
      have hl := sz_in n hn6 _ (ord_lt hs) i (by omega)
      have e : wkS n s (i + 1) = wkS n s i + sz n (s / 2 ^ n) i := oW_s n hn6 _ (ord_lt hs) i (by omega)
      have hw : wkS n s i ≤ 15 := hp
      have ih' := ih (i + 1) (by omega)
      have hd1 : 1 < d := by omega
      have hin : i < n := by omega
      have e1 : w32 ((i : Int) + 1) = ((i + 1 : Nat) : Int) := by
        rw [w32_i (by omega) (by omega)]
        omega
      have e2 : w32 (((wkS n s i : Nat) : Int) + ((sz n (s / 2 ^ n) i : Nat) : Int)) = ((wkS n s (i + 1) : Nat) : Int) := by
        clear e1
        rw [w32_i (by omega) (by omega), e]
        omega
      refine wp_run 40 cd_12_workOf [(5, [0, 1, 2, 3, 4])] rfl (by decide) ?_
      conv => whnf
      refine ⟨fun _ => ?_, fun h => absurd h (by clear e1 e2; omega)⟩
      conv => whnf
      refine ct_sizeIn hd1 hT0 hs hin ?_
      conv => whnf
      rw [← e1, ← e2] at ih'
      exact ih'
  refine wp_run 40 cd_12_workOf [(5, [0, 1, 2, 3, 4])] rfl (by decide) ?_
  conv => whnf
  exact loop k 0 (by omega)
