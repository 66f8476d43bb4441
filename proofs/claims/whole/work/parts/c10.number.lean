/-! CONTRACTS: the class's number of how a plate's pancakes lie -/
theorem bitsH_lt : ∀ (l : List Nat) (a : Nat), (∀ x ∈ l, x ≤ 1) → bitsH a l + 1 ≤ (a + 1) * 2 ^ l.length
  | [], a, _ => by
    show a + 1 ≤ (a + 1) * 1
    omega
  | x :: r, a, h => by
    have h1 := bitsH_lt r (2 * a + x) (fun y hy => h y (List.mem_cons_of_mem _ hy))
    have h2 := h x List.mem_cons_self
    have h3 : (2 * a + x + 1) * 2 ^ r.length ≤ (2 * a + 2) * 2 ^ r.length := Nat.mul_le_mul_right _ (by omega)
    show bitsH (2 * a + x) r + 1 ≤ (a + 1) * 2 ^ (r.length + 1)
    have h4 : (a + 1) * 2 ^ (r.length + 1) = (2 * a + 2) * 2 ^ r.length := by
      rw [Nat.pow_succ, Nat.mul_comm (2 ^ r.length) 2, ← Nat.mul_assoc]
      congr 1
      omega
    omega
theorem ct_numberOf {D n : Nat} {A B : List Nat} {M : Mm} {K : Po} (hD : 1 < D) (h2 : n ≤ 5) (h3 : M 19 0 = (n : Int)) (h4 : M 19 1 = ((2 ^ n : Nat) : Int)) (hl : A.length = n) (hr : rk A < 120) (hM : ∀ i : Nat, i < n → M 13 (i : Int) = ((A.getD i 0 : Nat) : Int)) (hl2 : B.length = n) (hB : ∀ x ∈ B, x ≤ 1) (hM2 : ∀ i : Nat, i < n → M 14 (i : Int) = ((B.getD i 0 : Nat) : Int)) (hK : K (0, ((rk A * 2 ^ n + bitsH 0 B : Nat) : Int)) GT M) : CallP D 102 [(2, 19), (2, 13), (2, 14)] GT M K := by
  have hlm : ∀ (k : Nat), k < n → B.drop k = B.getD k 0 :: B.drop (k + 1) := fun k hk => drop_get (by omega)
  have hf := fct_le n (by omega)
  have hbl := bitsH_lt B 0 hB
  rw [hl2] at hbl
  refine call_run (by omega) (fun d hd => ?_)
  have hd0 : 0 < d := by omega
  have fin : Run d (GT.1 + acs 102) 102 36 [(0, (2, 19)), (1, (2, 13)), (2, (2, 14)), (3, (0, ((bitsH 0 B : Nat) : Int)))] [] GT M (fun r G' M' => gd (Nat.beq G'.1 (GT.1 + acs 102)) (K r G' M')) := by
    have hm : rk A * 2 ^ n ≤ 119 * 32 := Nat.mul_le_mul (by omega) (by omega)
    have e2 : w32 (w32 (((rk A : Nat) : Int) * M 19 1) + ((bitsH 0 B : Nat) : Int)) = ((rk A * 2 ^ n + bitsH 0 B : Nat) : Int) := by
      rw [h4, ← Int.natCast_mul, w32_i (x := ((rk A * 2 ^ n : Nat) : Int)) (by omega) (by omega), w32_i (by omega) (by omega)]
      omega
    refine wp_run 80 cd_9_numberOf [(5, [0, 1, 2, 3, 4]), (36, [0, 1, 2, 3])] rfl (by decide) ?_
    conv => whnf
    refine ct_orderOf13 hd0 h2 h3 hl hM ?_
    conv => whnf
    rw [e2]
    exact hK
  have loop : ∀ j i acc : Nat, i + j = n → acc + 1 ≤ 2 ^ i → bitsH acc (B.drop i) = bitsH 0 B → Run d (GT.1 + acs 102) 102 5 [(0, (2, 19)), (1, (2, 13)), (2, (2, 14)), (3, (0, ((acc : Nat) : Int))), (4, (0, ((i : Nat) : Int)))] [] GT M (fun r G' M' => gd (Nat.beq G'.1 (GT.1 + acs 102)) (K r G' M')) := by
    intro j
    induction j with
    | zero =>
      intro i acc hi hb1 hb2
      have hge : ¬ (i : Int) < (n : Int) := by omega
      refine wp_run 80 cd_9_numberOf [(5, [0, 1, 2, 3, 4]), (36, [0, 1, 2, 3])] rfl (by decide) ?_
      conv => whnf
      rw [h3]
      refine ⟨fun h => absurd h hge, fun h => ?_⟩
      conv => whnf
      rw [List.drop_eq_nil_of_le (by omega)] at hb2
      have hb3 : acc = bitsH 0 B := hb2
      rw [hb3]
      exact fin
    | succ j ih =>
      intro i acc hi hb1 hb2
      have hin : i < n := by omega
      have hp : 2 ^ i ≤ 32 := Nat.le_trans (Nat.pow_le_pow_right (by omega) (show i ≤ 5 by omega)) (by decide)
      have hpp : 2 ^ (i + 1) = 2 ^ i * 2 := Nat.pow_succ _ _
      rw [hlm i hin] at hb2
      have hlt : (i : Int) < (n : Int) := by omega
      have hi5 : 0 ≤ (i : Int) ∧ (i : Int) < 5 := by omega
      have hx : B.getD i 0 ≤ 1 := by
        refine hB _ ?_
        rw [show B.getD i 0 = B[i]'(by omega) by simp [show i < B.length by omega]]
        exact List.getElem_mem _
      have q := ih (i + 1) (2 * acc + B.getD i 0) (by omega) (by omega) hb2
      have e1 : w32 ((i : Int) + 1) = ((i + 1 : Nat) : Int) := by
        rw [w32_i (by omega) (by omega)]
        omega
      have e3 : w32 (w32 ((acc : Int) * 2) + M 14 (i : Int)) = ((2 * acc + B.getD i 0 : Nat) : Int) := by
        clear e1
        rw [hM2 i hin]
        generalize B.getD i 0 = x at hx
        rw [w32_i (x := (acc : Int) * 2) (by omega) (by omega), w32_i (by omega) (by omega)]
        omega
      refine wp_run 80 cd_9_numberOf [(5, [0, 1, 2, 3, 4]), (36, [0, 1, 2, 3])] rfl (by decide) ?_
      conv => whnf
      rw [h3]
      refine ⟨fun _ => ?_, fun h => absurd hlt h⟩
      conv => whnf
      rw [sl_14]
      refine ⟨fun _ => ?_, fun h => absurd hi5.2 h⟩
      conv => whnf
      rw [sl_14]
      refine ⟨hi5, ?_⟩
      conv => whnf
      rw [← e3, ← e1] at q
      exact q
  refine wp_run 80 cd_9_numberOf [(5, [0, 1, 2, 3, 4]), (36, [0, 1, 2, 3])] rfl (by decide) ?_
  conv => whnf
  exact loop n 0 0 (by omega) (by decide) rfl
