/-! CONTRACTS: the reference's number of pancakes that lie so -/
def upI (x : Int) : Nat := if x < 0 then 1 else 0
def nmL (l : List Int) : Nat := bitsH (rk (l.map Int.natAbs)) (l.map upI)
theorem drop_map {f : Int → Nat} {l : List Int} {k : Nat} (h : k < l.length) : (l.map f).drop k = f (l.getD k 0) :: (l.map f).drop (k + 1) := by
  rw [List.drop_eq_getElem_cons (by rw [List.length_map]; exact h), List.getElem_map]
  simp [h]
theorem flt_cons (y x : Nat) (r : List Nat) : ((y :: r).filter (fun z => Nat.blt z x)).length = (if y < x then 1 else 0) + (r.filter (fun z => Nat.blt z x)).length := by
  by_cases h : y < x
  · rw [if_pos h, List.filter_cons_of_pos (p := fun z => Nat.blt z x) (a := y) (show Nat.blt y x = true by rw [Nat.blt_eq]; exact h), List.length_cons]
    omega
  · rw [if_neg h, List.filter_cons_of_neg (p := fun z => Nat.blt z x) (a := y) (show ¬ Nat.blt y x = true by rw [Nat.blt_eq]; exact h)]
    omega
theorem ct_numberNow {D n : Nat} {l : List Int} {M : Mm} {K : Po} (hD : 1 < D) (h2 : n ≤ 5) (h3 : M 92 1 = (n : Int)) (hl : l.length = n) (hM : ∀ i : Nat, i < n → M 97 (i : Int) = l.getD i 0) (hb : ∀ i : Nat, i < n → -2147483648 < l.getD i 0 ∧ l.getD i 0 ≤ 2147483647) (hK : K (0, ((nmL l : Nat) : Int)) GT M) : CallP D 214 [(2, 91)] GT M K := by
  have hlm : ∀ (f : Int → Nat) (k : Nat), k < n → (l.map f).drop k = f (l.getD k 0) :: (l.map f).drop (k + 1) := fun f k hk => drop_map (by omega)
  refine call_run (by omega) (fun d hd => ?_)
  have hd0 : 0 < d := by omega
  have bits : ∀ j i acc : Nat, i + j = n → acc + 1 ≤ 7776 * 2 ^ i → bitsH acc ((l.map upI).drop i) = nmL l → Run d (GT.1 + acs 214) 214 85 [(0, (2, 91)), (1, (0, (n : Int))), (2, (0, ((acc : Nat) : Int))), (3, (0, ((i : Nat) : Int)))] [] GT M (fun r G' M' => gd (Nat.beq G'.1 (GT.1 + acs 214)) (K r G' M')) := by
    intro j
    induction j with
    | zero =>
      intro i acc hi hb1 hb2
      refine wp_run 80 cd_12_numberNow [(11, [0, 1, 2, 3]), (24, [0, 1, 2, 3, 4, 5]), (68, [0, 1, 2, 3, 4]), (85, [0, 1, 2, 3])] rfl (by decide) ?_
      conv => whnf
      refine ⟨fun h => absurd h (by omega), fun h => ?_⟩
      conv => whnf
      rw [List.drop_eq_nil_of_le (by rw [List.length_map]; omega)] at hb2
      have hb3 : acc = nmL l := hb2
      rw [hb3]
      exact hK
    | succ j ih =>
      intro i acc hi hb1 hb2
      have hin : i < n := by omega
      have hp : 2 ^ i ≤ 32 := Nat.le_trans (Nat.pow_le_pow_right (by omega) (show i ≤ 5 by omega)) (by decide)
      have hpp : 2 ^ (i + 1) = 2 ^ i * 2 := Nat.pow_succ _ _
      rw [hlm upI i hin] at hb2
      have hlt : (i : Int) < (n : Int) := by omega
      have hi5 : 0 ≤ (i : Int) ∧ (i : Int) < 5 := by omega
      have ih1 := ih (i + 1) (2 * acc + 1) (by omega) (by omega)
      have ih0 := ih (i + 1) (2 * acc + 0) (by omega) (by omega)
      have e1 : w32 ((i : Int) + 1) = ((i + 1 : Nat) : Int) := by
        rw [w32_i (by omega) (by omega)]
        omega
      have e3 : w32 (w32 (2 * (acc : Int)) + 1) = ((2 * acc + 1 : Nat) : Int) := by
        clear e1
        rw [w32_i (x := 2 * (acc : Int)) (by omega) (by omega), w32_i (by omega) (by omega)]
        omega
      have e4 : w32 (w32 (2 * (acc : Int)) + 0) = ((2 * acc + 0 : Nat) : Int) := by
        clear e1 e3
        rw [w32_i (x := 2 * (acc : Int)) (by omega) (by omega), w32_i (by omega) (by omega)]
        omega
      refine wp_run 80 cd_12_numberNow [(11, [0, 1, 2, 3]), (24, [0, 1, 2, 3, 4, 5]), (68, [0, 1, 2, 3, 4]), (85, [0, 1, 2, 3])] rfl (by decide) ?_
      conv => whnf
      refine ⟨fun _ => ?_, fun h => absurd hlt h⟩
      conv => whnf
      rw [gl_91_17, sl_97]
      refine ⟨hi5, ?_⟩
      conv => whnf
      rw [hM i hin]
      refine ⟨fun h => ?_, fun h => ?_⟩
      · conv => whnf
        have hu : upI (l.getD i 0) = 1 := if_pos h
        rw [hu] at hb2
        have q := ih1 hb2
        rw [← e3, ← e1] at q
        exact q
      · conv => whnf
        have hu : upI (l.getD i 0) = 0 := if_neg h
        rw [hu] at hb2
        have q := ih0 hb2
        rw [← e4, ← e1] at q
        exact q
  have inner : ∀ i acc tot : Nat, i < n → Run d (GT.1 + acs 214) 214 68 [(0, (2, 91)), (1, (0, (n : Int))), (2, (0, ((acc : Nat) : Int))), (3, (0, ((i : Nat) : Int))), (4, (0, ((tot : Nat) : Int)))] [] GT M (fun r G' M' => gd (Nat.beq G'.1 (GT.1 + acs 214)) (K r G' M')) → ∀ j k less : Nat, k + j = n → i < k → less ≤ k → less + (((l.map Int.natAbs).drop k).filter (fun z => Nat.blt z (l.getD i 0).natAbs)).length = tot → Run d (GT.1 + acs 214) 214 24 [(0, (2, 91)), (1, (0, (n : Int))), (2, (0, ((acc : Nat) : Int))), (3, (0, ((i : Nat) : Int))), (4, (0, ((less : Nat) : Int))), (5, (0, ((k : Nat) : Int)))] [] GT M (fun r G' M' => gd (Nat.beq G'.1 (GT.1 + acs 214)) (K r G' M')) := by
    intro i acc tot hin cont j
    induction j with
    | zero =>
      intro k less hk hik hlk hs
      refine wp_run 80 cd_12_numberNow [(11, [0, 1, 2, 3]), (24, [0, 1, 2, 3, 4, 5]), (68, [0, 1, 2, 3, 4]), (85, [0, 1, 2, 3])] rfl (by decide) ?_
      conv => whnf
      refine ⟨fun h => absurd h (by omega), fun h => ?_⟩
      conv => whnf
      rw [List.drop_eq_nil_of_le (by rw [List.length_map]; omega)] at hs
      have hs2 : less = tot := hs
      rw [hs2]
      exact cont
    | succ j ih =>
      intro k less hk hik hlk hs
      have hkn : k < n := by omega
      rw [hlm Int.natAbs k hkn, flt_cons] at hs
      have hlt : (k : Int) < (n : Int) := by omega
      have hk5 : 0 ≤ (k : Int) ∧ (k : Int) < 5 := by omega
      have hi5 : 0 ≤ (i : Int) ∧ (i : Int) < 5 := by omega
      have ih1 := ih (k + 1) (less + 1) (by omega) (by omega) (by omega)
      have ih0 := ih (k + 1) (less + 0) (by omega) (by omega) (by omega)
      have e1 : w32 ((k : Int) + 1) = ((k + 1 : Nat) : Int) := by
        rw [w32_i (by omega) (by omega)]
        omega
      have e3 : w32 ((less : Int) + 1) = ((less + 1 : Nat) : Int) := by
        clear e1
        rw [w32_i (by omega) (by omega)]
        omega
      have e4 : w32 ((less : Int) + 0) = ((less + 0 : Nat) : Int) := by
        clear e1 e3
        rw [w32_i (by omega) (by omega)]
        omega
      refine wp_run 80 cd_12_numberNow [(11, [0, 1, 2, 3]), (24, [0, 1, 2, 3, 4, 5]), (68, [0, 1, 2, 3, 4]), (85, [0, 1, 2, 3])] rfl (by decide) ?_
      conv => whnf
      refine ⟨fun _ => ?_, fun h => absurd hlt h⟩
      conv => whnf
      rw [gl_91_17, sl_97]
      refine ⟨hk5, ?_⟩
      conv => whnf
      rw [hM k hkn]
      refine ct_plain hd0 (hb k hkn) ?_
      conv => whnf
      rw [gl_91_17, sl_97]
      refine ⟨hi5, ?_⟩
      conv => whnf
      rw [hM i hin]
      refine ct_plain hd0 (hb i hin) ?_
      conv => whnf
      refine ⟨fun h => ?_, fun h => ?_⟩
      · conv => whnf
        rw [if_pos (Int.ofNat_lt.mp h)] at hs
        have q := ih1 (by rw [← hs]; exact Nat.add_assoc _ _ _)
        rw [← e3, ← e1] at q
        exact q
      · conv => whnf
        rw [if_neg (fun h' => h (Int.ofNat_lt.mpr h'))] at hs
        have q := ih0 (by rw [← hs]; exact Nat.add_assoc _ _ _)
        rw [← e4, ← e1] at q
        exact q
  have outer : ∀ j i acc : Nat, i + j = n → acc + 1 ≤ 6 ^ i → rkH acc ((l.map Int.natAbs).drop i) = rk (l.map Int.natAbs) → Run d (GT.1 + acs 214) 214 11 [(0, (2, 91)), (1, (0, (n : Int))), (2, (0, ((acc : Nat) : Int))), (3, (0, ((i : Nat) : Int)))] [] GT M (fun r G' M' => gd (Nat.beq G'.1 (GT.1 + acs 214)) (K r G' M')) := by
    intro j
    induction j with
    | zero =>
      intro i acc hi hb1 hb2
      have hp : 6 ^ i ≤ 7776 := Nat.le_trans (Nat.pow_le_pow_right (by omega) (show i ≤ 5 by omega)) (by decide)
      refine wp_run 80 cd_12_numberNow [(11, [0, 1, 2, 3]), (24, [0, 1, 2, 3, 4, 5]), (68, [0, 1, 2, 3, 4]), (85, [0, 1, 2, 3])] rfl (by decide) ?_
      conv => whnf
      refine ⟨fun h => absurd h (by omega), fun h => ?_⟩
      conv => whnf
      rw [List.drop_eq_nil_of_le (by rw [List.length_map]; omega)] at hb2
      have hb3 : acc = rk (l.map Int.natAbs) := hb2
      refine bits n 0 acc (by omega) (by omega) ?_
      rw [hb3]
      rfl
    | succ j ih =>
      intro i acc hi hb1 hb2
      have hin : i < n := by omega
      have hp : 6 ^ i ≤ 7776 := Nat.le_trans (Nat.pow_le_pow_right (by omega) (show i ≤ 5 by omega)) (by decide)
      have hpp : 6 ^ (i + 1) = 6 ^ i * 6 := Nat.pow_succ _ _
      rw [hlm Int.natAbs i hin] at hb2
      have hlen : ((l.map Int.natAbs).drop (i + 1)).length + 1 = n - i := by
        rw [List.length_drop, List.length_map]
        omega
      have htot : (((l.map Int.natAbs).drop (i + 1)).filter (fun z => Nat.blt z (l.getD i 0).natAbs)).length ≤ 4 := by
        refine Nat.le_trans (List.length_filter_le _ _) ?_
        omega
      have hb3 : rkH (acc * (((l.map Int.natAbs).drop (i + 1)).length + 1) + (((l.map Int.natAbs).drop (i + 1)).filter (fun z => Nat.blt z (l.getD i 0).natAbs)).length) ((l.map Int.natAbs).drop (i + 1)) = rk (l.map Int.natAbs) := hb2
      rw [hlen] at hb3
      have hm : acc * (n - i) ≤ acc * 5 := Nat.mul_le_mul_left _ (by omega)
      have hlt : (i : Int) < (n : Int) := by omega
      generalize htt : (((l.map Int.natAbs).drop (i + 1)).filter (fun z => Nat.blt z (l.getD i 0).natAbs)).length = tot at htot hb3
      have q := ih (i + 1) (acc * (n - i) + tot) (by omega) (by omega) hb3
      have e1 : w32 ((i : Int) + 1) = ((i + 1 : Nat) : Int) := by
        rw [w32_i (by omega) (by omega)]
        omega
      have e2 : w32 (w32 ((acc : Int) * w32 ((n : Int) - (i : Int))) + (tot : Int)) = ((acc * (n - i) + tot : Nat) : Int) := by
        clear e1
        rw [w32_i (x := (n : Int) - (i : Int)) (by omega) (by omega), show (n : Int) - (i : Int) = ((n - i : Nat) : Int) by omega, ← Int.natCast_mul, w32_i (x := ((acc * (n - i) : Nat) : Int)) (by omega) (by omega), w32_i (by omega) (by omega)]
        omega
      refine wp_run 80 cd_12_numberNow [(11, [0, 1, 2, 3]), (24, [0, 1, 2, 3, 4, 5]), (68, [0, 1, 2, 3, 4]), (85, [0, 1, 2, 3])] rfl (by decide) ?_
      conv => whnf
      refine ⟨fun _ => ?_, fun h => absurd hlt h⟩
      conv => whnf
      have r := inner i acc tot hin ?_ (n - (i + 1)) (i + 1) 0 (by clear e1 e2; omega) (by clear e1 e2; omega) (by clear e1 e2; omega) (by rw [htt]; exact Nat.zero_add _)
      · rw [← e1] at r
        exact r
      · refine wp_run 80 cd_12_numberNow [(11, [0, 1, 2, 3]), (24, [0, 1, 2, 3, 4, 5]), (68, [0, 1, 2, 3, 4]), (85, [0, 1, 2, 3])] rfl (by decide) ?_
        conv => whnf
        rw [← e2, ← e1] at q
        exact q
  refine wp_run 80 cd_12_numberNow [(11, [0, 1, 2, 3]), (24, [0, 1, 2, 3, 4, 5]), (68, [0, 1, 2, 3, 4]), (85, [0, 1, 2, 3])] rfl (by decide) ?_
  conv => whnf
  rw [gl_91_1, sl_92]
  refine ⟨⟨by decide, by decide⟩, ?_⟩
  conv => whnf
  rw [h3]
  exact outer n 0 0 (by omega) (by decide) rfl
