/-! CONTRACTS: the class's number of an order -/
theorem drop_get {A : List Nat} {k : Nat} (h : k < A.length) : A.drop k = A.getD k 0 :: A.drop (k + 1) := by
  rw [List.drop_eq_getElem_cons h]
  simp [h]
theorem ct_orderOf26 {D n : Nat} {A : List Nat} {M : Mm} {K : Po} (hD : 0 < D) (h2 : n ≤ 5) (h3 : M 19 0 = (n : Int)) (hl : A.length = n) (hM : ∀ i : Nat, i < n → M 26 (i : Int) = ((A.getD i 0 : Nat) : Int)) (hK : K (0, ((rk A : Nat) : Int)) GT M) : CallP D 101 [(2, 19), (2, 26)] GT M K := by
  have hlm : ∀ (k : Nat), k < n → A.drop k = A.getD k 0 :: A.drop (k + 1) := fun k hk => drop_get (by omega)
  refine call_run (by omega) (fun d hd => ?_)
  have inner : ∀ i acc tot : Nat, i < n → Run d (GT.1 + acs 101) 101 61 [(0, (2, 19)), (1, (2, 26)), (2, (0, ((acc : Nat) : Int))), (3, (0, ((i : Nat) : Int))), (4, (0, ((tot : Nat) : Int)))] [] GT M (fun r G' M' => gd (Nat.beq G'.1 (GT.1 + acs 101)) (K r G' M')) → ∀ j k less : Nat, k + j = n → i < k → less ≤ k → less + ((A.drop k).filter (fun z => Nat.blt z (A.getD i 0))).length = tot → Run d (GT.1 + acs 101) 101 26 [(0, (2, 19)), (1, (2, 26)), (2, (0, ((acc : Nat) : Int))), (3, (0, ((i : Nat) : Int))), (4, (0, ((less : Nat) : Int))), (5, (0, ((k : Nat) : Int)))] [] GT M (fun r G' M' => gd (Nat.beq G'.1 (GT.1 + acs 101)) (K r G' M')) := by
    intro i acc tot hin cont j
    induction j with
    | zero =>
      intro k less hk hik hlk hs
      have hge : ¬ (k : Int) < (n : Int) := by omega
      refine wp_run 80 cd_9_orderOf [(4, [0, 1, 2, 3]), (26, [0, 1, 2, 3, 4, 5]), (61, [0, 1, 2, 3, 4])] rfl (by decide) ?_
      conv => whnf
      rw [h3]
      refine ⟨fun h => absurd h hge, fun h => ?_⟩
      conv => whnf
      rw [List.drop_eq_nil_of_le (by omega)] at hs
      have hs2 : less = tot := hs
      rw [hs2]
      exact cont
    | succ j ih =>
      intro k less hk hik hlk hs
      have hkn : k < n := by omega
      rw [hlm k hkn, flt_cons] at hs
      have hlt : (k : Int) < (n : Int) := by omega
      have hk5 : 0 ≤ (k : Int) ∧ (k : Int) < 5 := by omega
      have hi5 : 0 ≤ (i : Int) ∧ (i : Int) < 5 := by omega
      have ih1 := ih (k + 1) (less + 1) (by omega) (by omega) (by omega)
      have ih0 := ih (k + 1) (less + 0) (by omega) (by omega) (by omega)
      have e1 : w32 ((k : Int) + 1) = ((k + 1 : Nat) : Int) := by
        rw [w32_i (by omega) (by omega)]
        omega
      have e3 : w32 ((less : Int) + 1) = ((less + 1 : Nat) : Int) := by
        clear e1
        rw [w32_i (by omega) (by omega)]
        omega
      refine wp_run 80 cd_9_orderOf [(4, [0, 1, 2, 3]), (26, [0, 1, 2, 3, 4, 5]), (61, [0, 1, 2, 3, 4])] rfl (by decide) ?_
      conv => whnf
      rw [h3]
      refine ⟨fun _ => ?_, fun h => absurd hlt h⟩
      conv => whnf
      rw [sl_26]
      refine ⟨fun _ => ?_, fun h => absurd hk5.2 h⟩
      conv => whnf
      rw [sl_26]
      refine ⟨hk5, ?_⟩
      conv => whnf
      rw [sl_26]
      refine ⟨hi5, ?_⟩
      conv => whnf
      rw [hM k hkn, hM i hin]
      refine ⟨fun h => ?_, fun h => ?_⟩
      · conv => whnf
        rw [if_pos (Int.ofNat_lt.mp h)] at hs
        have q := ih1 (by rw [← hs]; exact Nat.add_assoc _ _ _)
        rw [← e3, ← e1] at q
        exact q
      · conv => whnf
        rw [if_neg (fun h' => h (Int.ofNat_lt.mpr h'))] at hs
        have q := ih0 (by rw [← hs]; exact Nat.add_assoc _ _ _)
        rw [← e1] at q
        exact q
  have outer : ∀ j i acc : Nat, i + j = n → acc + 1 ≤ 6 ^ i → rkH acc (A.drop i) = rk A → Run d (GT.1 + acs 101) 101 4 [(0, (2, 19)), (1, (2, 26)), (2, (0, ((acc : Nat) : Int))), (3, (0, ((i : Nat) : Int)))] [] GT M (fun r G' M' => gd (Nat.beq G'.1 (GT.1 + acs 101)) (K r G' M')) := by
    intro j
    induction j with
    | zero =>
      intro i acc hi hb1 hb2
      have hge : ¬ (i : Int) < (n : Int) := by omega
      refine wp_run 80 cd_9_orderOf [(4, [0, 1, 2, 3]), (26, [0, 1, 2, 3, 4, 5]), (61, [0, 1, 2, 3, 4])] rfl (by decide) ?_
      conv => whnf
      rw [h3]
      refine ⟨fun h => absurd h hge, fun h => ?_⟩
      conv => whnf
      rw [List.drop_eq_nil_of_le (by omega)] at hb2
      have hb3 : acc = rk A := hb2
      rw [hb3]
      exact hK
    | succ j ih =>
      intro i acc hi hb1 hb2
      have hin : i < n := by omega
      have hp : 6 ^ i ≤ 7776 := Nat.le_trans (Nat.pow_le_pow_right (by omega) (show i ≤ 5 by omega)) (by decide)
      have hpp : 6 ^ (i + 1) = 6 ^ i * 6 := Nat.pow_succ _ _
      rw [hlm i hin] at hb2
      have hlen : (A.drop (i + 1)).length + 1 = n - i := by
        rw [List.length_drop]
        omega
      have htot : ((A.drop (i + 1)).filter (fun z => Nat.blt z (A.getD i 0))).length ≤ 4 := by
        refine Nat.le_trans (List.length_filter_le _ _) ?_
        omega
      have hb3 : rkH (acc * ((A.drop (i + 1)).length + 1) + ((A.drop (i + 1)).filter (fun z => Nat.blt z (A.getD i 0))).length) (A.drop (i + 1)) = rk A := hb2
      rw [hlen] at hb3
      have hm : acc * (n - i) ≤ acc * 5 := Nat.mul_le_mul_left _ (by omega)
      have hlt : (i : Int) < (n : Int) := by omega
      have hi5 : (i : Int) < 5 := by omega
      generalize htt : ((A.drop (i + 1)).filter (fun z => Nat.blt z (A.getD i 0))).length = tot at htot hb3
      have q := ih (i + 1) (acc * (n - i) + tot) (by omega) (by omega) hb3
      have e1 : w32 ((i : Int) + 1) = ((i + 1 : Nat) : Int) := by
        rw [w32_i (by omega) (by omega)]
        omega
      have e2 : w32 (w32 ((acc : Int) * w32 (M 19 0 - (i : Int))) + (tot : Int)) = ((acc * (n - i) + tot : Nat) : Int) := by
        clear e1
        rw [h3, w32_i (x := (n : Int) - (i : Int)) (by omega) (by omega), show (n : Int) - (i : Int) = ((n - i : Nat) : Int) by omega, ← Int.natCast_mul, w32_i (x := ((acc * (n - i) : Nat) : Int)) (by omega) (by omega), w32_i (by omega) (by omega)]
        omega
      refine wp_run 80 cd_9_orderOf [(4, [0, 1, 2, 3]), (26, [0, 1, 2, 3, 4, 5]), (61, [0, 1, 2, 3, 4])] rfl (by decide) ?_
      conv => whnf
      rw [h3]
      refine ⟨fun _ => ?_, fun h => absurd hlt h⟩
      conv => whnf
      rw [sl_26]
      refine ⟨fun _ => ?_, fun h => absurd hi5 h⟩
      conv => whnf
      have r := inner i acc tot hin ?_ (n - (i + 1)) (i + 1) 0 (by clear e1 e2; omega) (by clear e1 e2; omega) (by clear e1 e2; omega) (by rw [htt]; exact Nat.zero_add _)
      · rw [← e1] at r
        exact r
      · refine wp_run 80 cd_9_orderOf [(4, [0, 1, 2, 3]), (26, [0, 1, 2, 3, 4, 5]), (61, [0, 1, 2, 3, 4])] rfl (by decide) ?_
        conv => whnf
        rw [← e2, ← e1] at q
        exact q
  refine wp_run 80 cd_9_orderOf [(4, [0, 1, 2, 3]), (26, [0, 1, 2, 3, 4, 5]), (61, [0, 1, 2, 3, 4])] rfl (by decide) ?_
  conv => whnf
  exact outer n 0 0 (by omega) (by decide) rfl
theorem ct_orderOf13 {D n : Nat} {A : List Nat} {M : Mm} {K : Po} (hD : 0 < D) (h2 : n ≤ 5) (h3 : M 19 0 = (n : Int)) (hl : A.length = n) (hM : ∀ i : Nat, i < n → M 13 (i : Int) = ((A.getD i 0 : Nat) : Int)) (hK : K (0, ((rk A : Nat) : Int)) GT M) : CallP D 101 [(2, 19), (2, 13)] GT M K := by
  have hlm : ∀ (k : Nat), k < n → A.drop k = A.getD k 0 :: A.drop (k + 1) := fun k hk => drop_get (by omega)
  refine call_run (by omega) (fun d hd => ?_)
  have inner : ∀ i acc tot : Nat, i < n → Run d (GT.1 + acs 101) 101 61 [(0, (2, 19)), (1, (2, 13)), (2, (0, ((acc : Nat) : Int))), (3, (0, ((i : Nat) : Int))), (4, (0, ((tot : Nat) : Int)))] [] GT M (fun r G' M' => gd (Nat.beq G'.1 (GT.1 + acs 101)) (K r G' M')) → ∀ j k less : Nat, k + j = n → i < k → less ≤ k → less + ((A.drop k).filter (fun z => Nat.blt z (A.getD i 0))).length = tot → Run d (GT.1 + acs 101) 101 26 [(0, (2, 19)), (1, (2, 13)), (2, (0, ((acc : Nat) : Int))), (3, (0, ((i : Nat) : Int))), (4, (0, ((less : Nat) : Int))), (5, (0, ((k : Nat) : Int)))] [] GT M (fun r G' M' => gd (Nat.beq G'.1 (GT.1 + acs 101)) (K r G' M')) := by
    intro i acc tot hin cont j
    induction j with
    | zero =>
      intro k less hk hik hlk hs
      have hge : ¬ (k : Int) < (n : Int) := by omega
      refine wp_run 80 cd_9_orderOf [(4, [0, 1, 2, 3]), (26, [0, 1, 2, 3, 4, 5]), (61, [0, 1, 2, 3, 4])] rfl (by decide) ?_
      conv => whnf
      rw [h3]
      refine ⟨fun h => absurd h hge, fun h => ?_⟩
      conv => whnf
      rw [List.drop_eq_nil_of_le (by omega)] at hs
      have hs2 : less = tot := hs
      rw [hs2]
      exact cont
    | succ j ih =>
      intro k less hk hik hlk hs
      have hkn : k < n := by omega
      rw [hlm k hkn, flt_cons] at hs
      have hlt : (k : Int) < (n : Int) := by omega
      have hk5 : 0 ≤ (k : Int) ∧ (k : Int) < 5 := by omega
      have hi5 : 0 ≤ (i : Int) ∧ (i : Int) < 5 := by omega
      have ih1 := ih (k + 1) (less + 1) (by omega) (by omega) (by omega)
      have ih0 := ih (k + 1) (less + 0) (by omega) (by omega) (by omega)
      have e1 : w32 ((k : Int) + 1) = ((k + 1 : Nat) : Int) := by
        rw [w32_i (by omega) (by omega)]
        omega
      have e3 : w32 ((less : Int) + 1) = ((less + 1 : Nat) : Int) := by
        clear e1
        rw [w32_i (by omega) (by omega)]
        omega
      refine wp_run 80 cd_9_orderOf [(4, [0, 1, 2, 3]), (26, [0, 1, 2, 3, 4, 5]), (61, [0, 1, 2, 3, 4])] rfl (by decide) ?_
      conv => whnf
      rw [h3]
      refine ⟨fun _ => ?_, fun h => absurd hlt h⟩
      conv => whnf
      rw [sl_13]
      refine ⟨fun _ => ?_, fun h => absurd hk5.2 h⟩
      conv => whnf
      rw [sl_13]
      refine ⟨hk5, ?_⟩
      conv => whnf
      rw [sl_13]
      refine ⟨hi5, ?_⟩
      conv => whnf
      rw [hM k hkn, hM i hin]
      refine ⟨fun h => ?_, fun h => ?_⟩
      · conv => whnf
        rw [if_pos (Int.ofNat_lt.mp h)] at hs
        have q := ih1 (by rw [← hs]; exact Nat.add_assoc _ _ _)
        rw [← e3, ← e1] at q
        exact q
      · conv => whnf
        rw [if_neg (fun h' => h (Int.ofNat_lt.mpr h'))] at hs
        have q := ih0 (by rw [← hs]; exact Nat.add_assoc _ _ _)
        rw [← e1] at q
        exact q
  have outer : ∀ j i acc : Nat, i + j = n → acc + 1 ≤ 6 ^ i → rkH acc (A.drop i) = rk A → Run d (GT.1 + acs 101) 101 4 [(0, (2, 19)), (1, (2, 13)), (2, (0, ((acc : Nat) : Int))), (3, (0, ((i : Nat) : Int)))] [] GT M (fun r G' M' => gd (Nat.beq G'.1 (GT.1 + acs 101)) (K r G' M')) := by
    intro j
    induction j with
    | zero =>
      intro i acc hi hb1 hb2
      have hge : ¬ (i : Int) < (n : Int) := by omega
      refine wp_run 80 cd_9_orderOf [(4, [0, 1, 2, 3]), (26, [0, 1, 2, 3, 4, 5]), (61, [0, 1, 2, 3, 4])] rfl (by decide) ?_
      conv => whnf
      rw [h3]
      refine ⟨fun h => absurd h hge, fun h => ?_⟩
      conv => whnf
      rw [List.drop_eq_nil_of_le (by omega)] at hb2
      have hb3 : acc = rk A := hb2
      rw [hb3]
      exact hK
    | succ j ih =>
      intro i acc hi hb1 hb2
      have hin : i < n := by omega
      have hp : 6 ^ i ≤ 7776 := Nat.le_trans (Nat.pow_le_pow_right (by omega) (show i ≤ 5 by omega)) (by decide)
      have hpp : 6 ^ (i + 1) = 6 ^ i * 6 := Nat.pow_succ _ _
      rw [hlm i hin] at hb2
      have hlen : (A.drop (i + 1)).length + 1 = n - i := by
        rw [List.length_drop]
        omega
      have htot : ((A.drop (i + 1)).filter (fun z => Nat.blt z (A.getD i 0))).length ≤ 4 := by
        refine Nat.le_trans (List.length_filter_le _ _) ?_
        omega
      have hb3 : rkH (acc * ((A.drop (i + 1)).length + 1) + ((A.drop (i + 1)).filter (fun z => Nat.blt z (A.getD i 0))).length) (A.drop (i + 1)) = rk A := hb2
      rw [hlen] at hb3
      have hm : acc * (n - i) ≤ acc * 5 := Nat.mul_le_mul_left _ (by omega)
      have hlt : (i : Int) < (n : Int) := by omega
      have hi5 : (i : Int) < 5 := by omega
      generalize htt : ((A.drop (i + 1)).filter (fun z => Nat.blt z (A.getD i 0))).length = tot at htot hb3
      have q := ih (i + 1) (acc * (n - i) + tot) (by omega) (by omega) hb3
      have e1 : w32 ((i : Int) + 1) = ((i + 1 : Nat) : Int) := by
        rw [w32_i (by omega) (by omega)]
        omega
      have e2 : w32 (w32 ((acc : Int) * w32 (M 19 0 - (i : Int))) + (tot : Int)) = ((acc * (n - i) + tot : Nat) : Int) := by
        clear e1
        rw [h3, w32_i (x := (n : Int) - (i : Int)) (by omega) (by omega), show (n : Int) - (i : Int) = ((n - i : Nat) : Int) by omega, ← Int.natCast_mul, w32_i (x := ((acc * (n - i) : Nat) : Int)) (by omega) (by omega), w32_i (by omega) (by omega)]
        omega
      refine wp_run 80 cd_9_orderOf [(4, [0, 1, 2, 3]), (26, [0, 1, 2, 3, 4, 5]), (61, [0, 1, 2, 3, 4])] rfl (by decide) ?_
      conv => whnf
      rw [h3]
      refine ⟨fun _ => ?_, fun h => absurd hlt h⟩
      conv => whnf
      rw [sl_13]
      refine ⟨fun _ => ?_, fun h => absurd hi5 h⟩
      conv => whnf
      have r := inner i acc tot hin ?_ (n - (i + 1)) (i + 1) 0 (by clear e1 e2; omega) (by clear e1 e2; omega) (by clear e1 e2; omega) (by rw [htt]; exact Nat.zero_add _)
      · rw [← e1] at r
        exact r
      · refine wp_run 80 cd_9_orderOf [(4, [0, 1, 2, 3]), (26, [0, 1, 2, 3, 4, 5]), (61, [0, 1, 2, 3, 4])] rfl (by decide) ?_
        conv => whnf
        rw [← e2, ← e1] at q
        exact q
  refine wp_run 80 cd_9_orderOf [(4, [0, 1, 2, 3]), (26, [0, 1, 2, 3, 4, 5]), (61, [0, 1, 2, 3, 4])] rfl (by decide) ?_
  conv => whnf
  exact outer n 0 0 (by omega) (by decide) rfl
