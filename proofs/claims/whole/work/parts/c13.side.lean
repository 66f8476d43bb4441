/-! CONTRACTS: the class lays the sides -/
theorem ct_side0 {D n e i : Nat} {M : Mm} {K : Po} (hD : 0 < D) (h2 : n ≤ 5) (h3 : M 19 0 = (n : Int)) (he : e < 2 ^ n) (hi : i < n) (hK : K (0, ((sd n e i : Nat) : Int)) GT M) : CallP D 100 [(2, 19), (0, (e : Int)), (0, (i : Int))] GT M K := by
  have hf := fct_le n (by omega)
  refine call_run hD (fun d hd => wp_run 40 cd_9_sideAt [] rfl (by decide) ?_)
  conv => whnf
  have e1 : w32 (w32 (M 19 0 - 1) - (i : Int)) = ((n - 1 - i : Nat) : Int) := by
    rw [h3, w32_i (x := (n : Int) - 1) (by omega) (by omega), w32_i (by omega) (by omega)]
    omega
  have h0 : e / 2 ^ (n - 1 - i) ≤ e := Nat.div_le_self _ _
  rw [e1, shr32_nat (by clear e1; omega) (by clear e1; omega), and32_one (by clear e1; omega)]
  exact hK
theorem bd_d {e k : Nat} (he : e < 32) (hk : k < 6) : 0 ≤ ((6 * e + k : Nat) : Int) ∧ ((6 * e + k : Nat) : Int) < 192 := by omega
theorem getD_mrN {f : Nat → Nat} {n i : Nat} (h : i < n) : ((List.range n).map f).getD i 0 = f i := by simp [h]
/-- what laySide leaves, as far as k -/
def SideInv (n e k : Nat) (M M' : Mm) : Prop := (∀ a b : Int, ¬ a = 24 → ¬ a = 25 → ¬ a = 1 → M' a b = M a b) ∧ (∀ b : Int, ¬ b = (e : Int) → M' 25 b = M 25 b) ∧ M' 25 (e : Int) = ((sR n e : Nat) : Int)
  ∧ (∀ b : Int, (b < ((6 * e : Nat) : Int) ∨ ((6 * e + 6 : Nat) : Int) ≤ b) → M' 24 b = M 24 b) ∧ (∀ q : Nat, q < k → M' 24 ((6 * e + q : Nat) : Int) = ((sT n e q : Nat) : Int))
  ∧ (∀ b : Int, ¬ b = (e : Int) → M' 1 b = M 1 b) ∧ M' 1 (e : Int) = (((sdL n e).sum : Nat) : Int)
theorem ct_laySide {D n e : Nat} {M : Mm} {K : Po} (hD : 1 < D) (h2 : n ≤ 5) (h3 : M 19 0 = (n : Int)) (he : e < 2 ^ n) (hK : ∀ M' : Mm, SideInv n e (n + 1) M M' → K (9, 0) GT M') : CallP D 99 [(2, 19), (0, (e : Int))] GT M K := by
  have hn6 : n < 6 := by omega
  have hf := fct_le n hn6
  have he5 : e < 32 := by omega
  have hsr := sR_in n hn6 e he
  have heB : 0 ≤ (e : Int) ∧ (e : Int) < 32 := by omega
  refine call_run (by omega) (fun d hd => ?_)
  have hd0 : 0 < d := by omega
  have ks : ∀ (j k : Nat) (M' : Mm), k + j = n + 1 → SideInv n e k M M' → Run d (GT.1 + acs 99) 99 51 [(0, (2, 19)), (1, (0, (e : Int))), (3, (0, ((k : Nat) : Int)))] [] GT M' (fun r G' M' => gd (Nat.beq G'.1 (GT.1 + acs 99)) (K r G' M')) := by
    intro j
    induction j with
    | zero =>
      intro k M' hk hI
      have e19 : M' 19 0 = (n : Int) := (hI.1 19 0 (by omega) (by omega) (by omega)).trans h3
      have hgt : (n : Int) < (k : Int) := by omega
      refine wp_run 80 cd_9_laySide [(2, [0, 1, 2]), (32, [0, 1, 2]), (51, [0, 1, 3]), (65, [0, 1, 3, 4, 5]), (120, [0, 1, 3, 4])] rfl (by decide) ?_
      conv => whnf
      rw [e19]
      refine ⟨fun _ => ?_, fun h => absurd hgt h⟩
      conv => whnf
      rw [show k = n + 1 by omega] at hI
      exact hK M' hI
    | succ j ih =>
      intro k M' hk hI
      have e19 : M' 19 0 = (n : Int) := (hI.1 19 0 (by omega) (by omega) (by omega)).trans h3
      have hng : ¬ (n : Int) < (k : Int) := by omega
      have hkn : k < n + 1 := by omega
      have hk6 : k < 6 := by omega
      have hst := sT_in n hn6 e he k hkn
      have cont : Run d (GT.1 + acs 99) 99 120 [(0, (2, 19)), (1, (0, (e : Int))), (3, (0, ((k : Nat) : Int))), (4, (0, ((sT n e k : Nat) : Int)))] [] GT M' (fun r G' M' => gd (Nat.beq G'.1 (GT.1 + acs 99)) (K r G' M')) := by
        have q := ih (k + 1) (up2 M' 24 ((6 * e + k : Nat) : Int) ((sT n e k : Nat) : Int)) (by omega)
          ⟨fun a b ha hb hc => (up_off ha).trans (hI.1 a b ha hb hc), fun b hb => (up_off (by omega)).trans (hI.2.1 b hb), (up_off (by omega)).trans hI.2.2.1,
            fun b hb => (up_at' (by omega)).trans (hI.2.2.2.1 b hb), fun q hq => by
              by_cases h : q = k
              · rw [h]
                exact up_at _ _ _ _
              · exact (up_at' (by omega)).trans (hI.2.2.2.2.1 q (by omega)), fun b hb => (up_off (by omega)).trans (hI.2.2.2.2.2.1 b hb), (up_off (by omega)).trans hI.2.2.2.2.2.2⟩
        have e1 : w32 ((k : Int) + 1) = ((k + 1 : Nat) : Int) := by
          rw [w32_i (by omega) (by omega)]
          omega
        have ei := ix_d (n := n) (d := e) (i := k) (c := 6) hn6 he (Nat.le_refl _) (Nat.le_of_lt_succ hk6)
        rw [← e1] at q
        refine wp_run 80 cd_9_laySide [(2, [0, 1, 2]), (32, [0, 1, 2]), (51, [0, 1, 3]), (65, [0, 1, 3, 4, 5]), (120, [0, 1, 3, 4])] rfl (by decide) ?_
        conv => whnf
        rw [gl_19_7, sl_24]
        refine ⟨?_, ?_⟩
        · show 0 ≤ w32 (w32 ((e : Int) * ((6 : Nat) : Int)) + (k : Int)) ∧ w32 (w32 ((e : Int) * ((6 : Nat) : Int)) + (k : Int)) < 192
          rw [ei]
          exact bd_d he5 hk6
        · rw [← ei] at q
          conv => whnf
          exact q
      have inner : ∀ j i acc : Nat, i + j = n → acc + 1 ≤ 2 ^ i → bitsH acc (((List.range n).map (fun i => if i < k then 1 - sd n e (k - 1 - i) else sd n e i)).drop i) = sT n e k → Run d (GT.1 + acs 99) 99 65 [(0, (2, 19)), (1, (0, (e : Int))), (3, (0, ((k : Nat) : Int))), (4, (0, ((acc : Nat) : Int))), (5, (0, ((i : Nat) : Int)))] [] GT M' (fun r G' M' => gd (Nat.beq G'.1 (GT.1 + acs 99)) (K r G' M')) := by
        intro j
        induction j with
        | zero =>
          intro i acc hi hb1 hb2
          have hge : ¬ (i : Int) < (n : Int) := by omega
          refine wp_run 80 cd_9_laySide [(2, [0, 1, 2]), (32, [0, 1, 2]), (51, [0, 1, 3]), (65, [0, 1, 3, 4, 5]), (120, [0, 1, 3, 4])] rfl (by decide) ?_
          conv => whnf
          rw [e19]
          refine ⟨fun h => absurd h hge, fun _ => ?_⟩
          conv => whnf
          rw [List.drop_eq_nil_of_le (by rw [List.length_map, List.length_range]; omega)] at hb2
          have hb3 : acc = sT n e k := hb2
          rw [hb3]
          exact cont
        | succ j ih2 =>
          intro i acc hi hb1 hb2
          have hin : i < n := by omega
          have hp : 2 ^ i ≤ 32 := Nat.le_trans (Nat.pow_le_pow_right (by omega) (show i ≤ 5 by omega)) (by decide)
          have hpp : 2 ^ (i + 1) = 2 ^ i * 2 := Nat.pow_succ _ _
          have hlt : (i : Int) < (n : Int) := by omega
          rw [drop_get (by rw [List.length_map, List.length_range]; omega), getD_mrN hin] at hb2
          by_cases hik : i < k
          · have s1 := sd_lt n e (k - 1 - i)
            rw [if_pos hik] at hb2
            have q := ih2 (i + 1) (2 * acc + (1 - sd n e (k - 1 - i))) (by omega) (by omega) hb2
            have hikI : (i : Int) < (k : Int) := by omega
            have hq1 : k - 1 - i < n := by omega
            have e1 : w32 ((i : Int) + 1) = ((i + 1 : Nat) : Int) := by
              rw [w32_i (by omega) (by omega)]
              omega
            have e2 : w32 (w32 ((k : Int) - 1) - (i : Int)) = ((k - 1 - i : Nat) : Int) := by
              clear e1
              rw [w32_i (x := (k : Int) - 1) (by omega) (by omega), w32_i (by omega) (by omega)]
              omega
            have e3 : w32 (w32 ((acc : Int) * 2) + w32 (1 - ((sd n e (k - 1 - i) : Nat) : Int))) = ((2 * acc + (1 - sd n e (k - 1 - i)) : Nat) : Int) := by
              clear e1 e2
              rw [w32_i (x := (acc : Int) * 2) (by omega) (by omega), w32_i (x := 1 - ((sd n e (k - 1 - i) : Nat) : Int)) (by omega) (by omega), w32_i (by omega) (by omega)]
              omega
            rw [← e3, ← e1] at q
            refine wp_run 80 cd_9_laySide [(2, [0, 1, 2]), (32, [0, 1, 2]), (51, [0, 1, 3]), (65, [0, 1, 3, 4, 5]), (120, [0, 1, 3, 4])] rfl (by decide) ?_
            conv => whnf
            rw [e19]
            refine ⟨fun _ => ?_, fun h => absurd hlt h⟩
            conv => whnf
            refine ⟨fun _ => ?_, fun h => absurd hikI h⟩
            conv => whnf
            rw [e2]
            refine ct_side0 hd0 h2 e19 he hq1 ?_
            conv => whnf
            exact q
          · have s1 := sd_lt n e i
            rw [if_neg hik] at hb2
            have q := ih2 (i + 1) (2 * acc + sd n e i) (by omega) (by omega) hb2
            have hikI : ¬ (i : Int) < (k : Int) := by omega
            have e1 : w32 ((i : Int) + 1) = ((i + 1 : Nat) : Int) := by
              rw [w32_i (by omega) (by omega)]
              omega
            have e3 : w32 (w32 ((acc : Int) * 2) + ((sd n e i : Nat) : Int)) = ((2 * acc + sd n e i : Nat) : Int) := by
              clear e1
              rw [w32_i (x := (acc : Int) * 2) (by omega) (by omega), w32_i (by omega) (by omega)]
              omega
            rw [← e3, ← e1] at q
            refine wp_run 80 cd_9_laySide [(2, [0, 1, 2]), (32, [0, 1, 2]), (51, [0, 1, 3]), (65, [0, 1, 3, 4, 5]), (120, [0, 1, 3, 4])] rfl (by decide) ?_
            conv => whnf
            rw [e19]
            refine ⟨fun _ => ?_, fun h => absurd hlt h⟩
            conv => whnf
            refine ⟨fun h => absurd h hikI, fun _ => ?_⟩
            conv => whnf
            refine ct_side0 hd0 h2 e19 he hin ?_
            conv => whnf
            exact q
      refine wp_run 80 cd_9_laySide [(2, [0, 1, 2]), (32, [0, 1, 2]), (51, [0, 1, 3]), (65, [0, 1, 3, 4, 5]), (120, [0, 1, 3, 4])] rfl (by decide) ?_
      conv => whnf
      rw [e19]
      refine ⟨fun h => absurd h hng, fun _ => ?_⟩
      conv => whnf
      exact inner n 0 0 (by omega) (by decide) (tn_sd n hn6 e he k hkn)
  have fin : ∀ r : Nat, r = sR n e → Run d (GT.1 + acs 99) 99 32 [(0, (2, 19)), (1, (0, (e : Int))), (2, (0, ((r : Nat) : Int)))] [] GT M (fun r G' M' => gd (Nat.beq G'.1 (GT.1 + acs 99)) (K r G' M')) := by
    intro r hr
    refine wp_run 80 cd_9_laySide [(2, [0, 1, 2]), (32, [0, 1, 2]), (51, [0, 1, 3]), (65, [0, 1, 3, 4, 5]), (120, [0, 1, 3, 4])] rfl (by decide) ?_
    conv => whnf
    rw [gl_19_8, sl_25]
    refine ⟨heB, ?_⟩
    conv => whnf
    refine ct_bits hd0 ?_
    rw [bc_all n hn6 e he]
    conv => whnf
    rw [gl_19_9, sl_1]
    refine ⟨heB, ?_⟩
    conv => whnf
    rw [hr]
    exact ks (n + 1) 0 _ (by omega) ⟨fun a b ha hb hc => (up_off hc).trans (up_off hb), fun b hb => (up_off (by omega)).trans (up_at' hb), (up_off (by omega)).trans (up_at _ _ _ _), fun b _ => (up_off (by omega)).trans (up_off (by omega)), fun q hq => absurd hq (by omega), fun b hb => (up_at' hb).trans (up_off (by omega)), up_at _ _ _ _⟩
  have loop : ∀ j r : Nat, r + j = sR n e → Run d (GT.1 + acs 99) 99 2 [(0, (2, 19)), (1, (0, (e : Int))), (2, (0, ((r : Nat) : Int)))] [] GT M (fun r G' M' => gd (Nat.beq G'.1 (GT.1 + acs 99)) (K r G' M')) := by
    intro j
    induction j with
    | zero =>
      intro r hr
      have hr0 : r = sR n e := by omega
      refine wp_run 80 cd_9_laySide [(2, [0, 1, 2]), (32, [0, 1, 2]), (51, [0, 1, 3]), (65, [0, 1, 3, 4, 5]), (120, [0, 1, 3, 4])] rfl (by decide) ?_
      conv => whnf
      rw [h3]
      refine ⟨fun h => ?_, fun h => ?_⟩
      · have hn : r < n := by omega
        have hb := sR_b n hn6 e he (by omega)
        rw [← hr0] at hb
        have hq : n - 1 - r < n := by omega
        have ey : w32 (w32 (M 19 0 - 1) - (r : Int)) = ((n - 1 - r : Nat) : Int) := by
          rw [h3, w32_i (x := (n : Int) - 1) (by omega) (by omega), w32_i (by omega) (by omega)]
          omega
        conv => whnf
        rw [ey]
        refine ct_side0 hd0 h2 h3 he hq ?_
        rw [hb]
        conv => whnf
        refine ⟨fun h' => absurd h' (by decide), fun _ => ?_⟩
        conv => whnf
        exact fin r hr0
      · conv => whnf
        exact fin r hr0
    | succ j ih =>
      intro r hr
      have hn : r < n := by omega
      have ha := sR_a n hn6 e he r hn (by omega)
      have hq : n - 1 - r < n := by omega
      have hlt : (r : Int) < (n : Int) := by omega
      have ih' := ih (r + 1) (by omega)
      have er : w32 ((r : Int) + 1) = ((r + 1 : Nat) : Int) := by
        rw [w32_i (by omega) (by omega)]
        omega
      have ey : w32 (w32 (M 19 0 - 1) - (r : Int)) = ((n - 1 - r : Nat) : Int) := by
        clear er
        rw [h3, w32_i (x := (n : Int) - 1) (by omega) (by omega), w32_i (by omega) (by omega)]
        omega
      rw [← er] at ih'
      refine wp_run 80 cd_9_laySide [(2, [0, 1, 2]), (32, [0, 1, 2]), (51, [0, 1, 3]), (65, [0, 1, 3, 4, 5]), (120, [0, 1, 3, 4])] rfl (by decide) ?_
      conv => whnf
      rw [h3]
      refine ⟨fun _ => ?_, fun h => absurd hlt h⟩
      conv => whnf
      rw [ey]
      refine ct_side0 hd0 h2 h3 he hq ?_
      rw [ha]
      conv => whnf
      refine ⟨fun _ => ?_, fun h => absurd rfl h⟩
      conv => whnf
      exact ih'
  refine wp_run 80 cd_9_laySide [(2, [0, 1, 2]), (32, [0, 1, 2]), (51, [0, 1, 3]), (65, [0, 1, 3, 4, 5]), (120, [0, 1, 3, 4])] rfl (by decide) ?_
  conv => whnf
  exact loop (sR n e) 0 (by omega)
