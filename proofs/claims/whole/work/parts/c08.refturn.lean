/-! CONTRACTS: the reference's turn -/
def tnG (n s k i : Nat) : Int := if i < k then -(sgS n s (k - 1 - i)) else sgS n s i
theorem tn_sz : ∀ n, n < 6 → ∀ o, o < fct n → ∀ k, k < n + 1 → (List.range n).map (fun i => if i < k then sz n o (k - 1 - i) else sz n o i) = tnL (pmL n o) k := by decide +kernel
theorem tn_sd : ∀ n, n < 6 → ∀ d, d < 2 ^ n → ∀ k, k < n + 1 → bitsH 0 ((List.range n).map (fun i => if i < k then 1 - sd n d (k - 1 - i) else sd n d i)) = sT n d k := by decide +kernel
theorem bitsH_add : ∀ (l : List Nat) (a : Nat), bitsH a l = a * 2 ^ l.length + bitsH 0 l
  | [], a => by
    show a = a * 1 + 0
    omega
  | x :: r, a => by
    show bitsH (2 * a + x) r = _ + bitsH (2 * 0 + x) r
    rw [bitsH_add r (2 * a + x), bitsH_add r (2 * 0 + x), List.length_cons, Nat.pow_succ, Nat.add_mul, Nat.add_mul]
    generalize 2 ^ r.length = P
    have e : 2 * a * P = a * (P * 2) := by rw [Nat.mul_comm 2 a, Nat.mul_assoc, Nat.mul_comm 2 P]
    omega
theorem nm_tn {n s k : Nat} (hn : n < 6) (hs : s < allS n) (hk : k ≤ n) : nmL ((List.range n).map (tnG n s k)) = tnS n s k := by
  have e1 : ((List.range n).map (tnG n s k)).map Int.natAbs = tnL (pmL n (s / 2 ^ n)) k := by
    rw [← tn_sz n hn _ (ord_lt hs) k (by omega), List.map_map]
    refine List.map_congr_left fun i hi => ?_
    show (tnG n s k i).natAbs = _
    unfold tnG
    by_cases h : i < k
    · have := sg_abs n s (k - 1 - i)
      rw [if_pos h, if_pos h]
      omega
    · have := sg_abs n s i
      rw [if_neg h, if_neg h]
      omega
  have e2 : ((List.range n).map (tnG n s k)).map upI = (List.range n).map (fun i => if i < k then 1 - sd n (s % 2 ^ n) (k - 1 - i) else sd n (s % 2 ^ n) i) := by
    rw [List.map_map]
    refine List.map_congr_left fun i hi => ?_
    have hin := List.mem_range.mp hi
    show upI (tnG n s k i) = _
    unfold tnG upI
    by_cases h : i < k
    · have a := sg_in hn hs (i := k - 1 - i) (by omega)
      have b := sd_lt n (s % 2 ^ n) (k - 1 - i)
      have c := sg_abs n s (k - 1 - i)
      have c2 := sz_in n hn _ (ord_lt hs) (k - 1 - i) (by omega)
      rw [if_pos h, if_pos h]
      split <;> omega
    · have a := sg_in hn hs (i := i) hin
      have b := sd_lt n (s % 2 ^ n) i
      rw [if_neg h, if_neg h]
      split <;> omega
  unfold nmL
  rw [e1, e2, bitsH_add, tn_sd n hn _ sid_lt k (by omega), List.length_map, List.length_range]
  rfl
theorem tn_in {n s k i : Nat} (hn : n < 6) (hs : s < allS n) (hk : k ≤ n) (hi : i < n) : -5 ≤ tnG n s k i ∧ tnG n s k i ≤ 5 := by
  unfold tnG
  by_cases h : i < k
  · have a := sg_in hn hs (i := k - 1 - i) (by omega)
    rw [if_pos h]
    omega
  · have a := sg_in hn hs (i := i) hi
    rw [if_neg h]
    omega
theorem getD_mr {f : Nat → Int} {n i : Nat} (h : i < n) : ((List.range n).map f).getD i 0 = f i := by simp [h]
theorem up_at (M : Mm) (j v x : Int) : up2 M j v x j v = x := by simp [up2]
theorem up_off {M : Mm} {j v x a b : Int} (h : ¬ a = j) : up2 M j v x a b = M a b := by simp [up2, h]
theorem up_at' {M : Mm} {j v x b : Int} (h : ¬ b = v) : up2 M j v x j b = M j b := by simp [up2, h]
theorem ct_turnTo {D n s k : Nat} {M : Mm} {K : Po} (hD : 2 < D) (hT : RefOK n M) (hs : s < allS n) (hk : k ≤ n) (hK : ∀ M' : Mm, (∀ a b : Int, ¬ a = 97 → M' a b = M a b) → K (0, ((tnS n s k : Nat) : Int)) GT M') : CallP D 222 [(2, 91), (0, (s : Int)), (0, (k : Int))] GT M K := by
  obtain ⟨h1, h2, h3, h4, h5⟩ := hT
  have hn6 : n < 6 := by omega
  have hf := fct_le n hn6
  have hs5 : s < 3840 := by omega
  refine call_run (by omega) (fun d hd => ?_)
  have hd1 : 1 < d := by omega
  have loop : ∀ (j i : Nat) (M' : Mm), i + j = n → (∀ a b : Int, ¬ a = 97 → M' a b = M a b) → (∀ q : Nat, q < i → M' 97 (q : Int) = tnG n s k q) → Run d (GT.1 + acs 222) 222 2 [(0, (2, 91)), (1, (0, (s : Int))), (2, (0, (k : Int))), (3, (0, (i : Int)))] [] GT M' (fun r G' M' => gd (Nat.beq G'.1 (GT.1 + acs 222)) (K r G' M')) := by
    intro j
    induction j with
    | zero =>
      intro i M' hi ho hq
      have e92 : M' 92 1 = (n : Int) := (ho 92 1 (by omega)).trans h3
      have hge : ¬ (i : Int) < (n : Int) := by omega
      refine wp_run 80 cd_12_turnTo [(2, [0, 1, 2, 3])] rfl (by decide) ?_
      conv => whnf
      rw [gl_91_1, sl_92]
      refine ⟨⟨by decide, by decide⟩, ?_⟩
      conv => whnf
      rw [e92]
      refine ⟨fun h => absurd h hge, fun h => ?_⟩
      conv => whnf
      refine ct_numberNow (l := (List.range n).map (tnG n s k)) hd1 h2 e92 (by simp) (fun q hqn => ?_) (fun q hqn => ?_) ?_
      · rw [getD_mr hqn]
        exact hq q (by omega)
      · rw [getD_mr hqn]
        have := tn_in hn6 hs hk hqn
        omega
      · rw [nm_tn hn6 hs hk]
        exact hK M' ho
    | succ j ih =>
      intro i M' hi ho hq
      have e92 : M' 92 1 = (n : Int) := (ho 92 1 (by omega)).trans h3
      have hlt : (i : Int) < (n : Int) := by omega
      have hin : i < n := by omega
      have hi5 : 0 ≤ (i : Int) ∧ (i : Int) < 5 := by omega
      have hiN : i < 5 := by omega
      have htn := tn_in hn6 hs hk hin
      have q := ih (i + 1) (up2 M' 97 (i : Int) (tnG n s k i)) (by omega) (fun a b h => (up_off h).trans (ho a b h)) (fun q hq' => by
        by_cases h : q = i
        · rw [h]
          exact up_at _ _ _ _
        · exact (up_at' (by omega)).trans (hq q (by omega)))
      have e1 : w32 ((i : Int) + 1) = ((i + 1 : Nat) : Int) := by
        rw [w32_i (by omega) (by omega)]
        omega
      rw [← e1] at q
      refine wp_run 80 cd_12_turnTo [(2, [0, 1, 2, 3])] rfl (by decide) ?_
      conv => whnf
      rw [gl_91_1, sl_92]
      refine ⟨⟨by decide, by decide⟩, ?_⟩
      conv => whnf
      rw [e92]
      refine ⟨fun _ => ?_, fun h => absurd hlt h⟩
      conv => whnf
      refine ⟨fun h => ?_, fun h => ?_⟩
      · have hik : i < k := by clear e1 q; omega
        have hq1 : k - 1 - i < n := by clear e1 q; omega
        have hq5 : k - 1 - i < 5 := by clear e1 q; omega
        have hk5 : k ≤ 5 := by clear e1 q; omega
        have ex : tnG n s k i = -(sgS n s (k - 1 - i)) := if_pos hik
        have eg : w32 (-(sgS n s (k - 1 - i))) = tnG n s k i := by
          clear e1 q
          rw [← ex, w32_i (by omega) (by omega)]
        have ei := ix_rb (n := k) (s := s) (r := i) (x := (k : Int)) rfl hs5 hk5 hik
        conv => whnf
        rw [gl_91_16, sl_96]
        refine ⟨?_, ?_⟩
        · rw [ei]
          exact bd_r hs5 hq5
        · conv => whnf
          rw [gl_91_17, sl_97]
          refine ⟨hi5, ?_⟩
          conv => whnf
          rw [ei, ho 96 _ (by decide), h5 _ _ hs hq1, eg]
          exact q
      · have hik : ¬ i < k := by clear e1 q; omega
        have ex : tnG n s k i = sgS n s i := if_neg hik
        have ei := ix_r (s := s) (i := i) hs5 hiN
        conv => whnf
        rw [gl_91_16, sl_96]
        refine ⟨?_, ?_⟩
        · rw [ei]
          exact bd_r hs5 hiN
        · conv => whnf
          rw [gl_91_17, sl_97]
          refine ⟨hi5, ?_⟩
          conv => whnf
          rw [ei, ho 96 _ (by decide), h5 _ _ hs hin, ← ex]
          exact q
  refine wp_run 80 cd_12_turnTo [(2, [0, 1, 2, 3])] rfl (by decide) ?_
  conv => whnf
  exact loop n 0 M (by omega) (fun _ _ _ => rfl) (fun q h => absurd h (by omega))
