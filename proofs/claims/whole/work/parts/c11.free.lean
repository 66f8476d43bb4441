/-! CONTRACTS: the class's size not yet laid -/
def frF (laid : Nat) : Nat → Nat → Nat → Nat
  | 0, _, _ => 0
  | j + 1, z, left => if laid / 2 ^ z % 2 = 0 then (if left = 0 then z else frF laid j (z + 1) (left - 1)) else frF laid j (z + 1) left
theorem ct_freeSize {D n laid place : Nat} {M : Mm} {K : Po} (hD : 0 < D) (h2 : n ≤ 5) (h3 : M 19 0 = (n : Int)) (hla : laid < 2147483648) (hpl : place ≤ 100) (hK : K (0, ((frF laid n 1 place : Nat) : Int)) GT M) : CallP D 96 [(2, 19), (0, (laid : Int)), (0, (place : Int))] GT M K := by
  refine call_run hD (fun d hd => ?_)
  have loop : ∀ j z left : Nat, z + j = n + 1 → left ≤ 100 → frF laid j z left = frF laid n 1 place → Run d (GT.1 + acs 96) 96 5 [(0, (2, 19)), (1, (0, (laid : Int))), (3, (0, (left : Int))), (4, (0, (z : Int)))] [] GT M (fun r G' M' => gd (Nat.beq G'.1 (GT.1 + acs 96)) (K r G' M')) := by
    intro j
    induction j with
    | zero =>
      intro z left hz hl hf
      have hgt : (n : Int) < (z : Int) := by omega
      refine wp_run 60 cd_9_freeSize [(5, [0, 1, 3, 4])] rfl (by decide) ?_
      conv => whnf
      rw [h3]
      refine ⟨fun _ => ?_, fun h => absurd hgt h⟩
      conv => whnf
      rw [← hf] at hK
      exact hK
    | succ j ih =>
      intro z left hz hl hf
      have hng : ¬ (n : Int) < (z : Int) := by omega
      have hz5 : z < 32 := by omega
      have h0 : laid / 2 ^ z ≤ laid := Nat.div_le_self _ _
      have e : and32 (shr32 (laid : Int) (z : Int)) 1 = ((laid / 2 ^ z % 2 : Nat) : Int) := by
        rw [shr32_nat hz5 hla]
        exact and32_one (Nat.lt_of_le_of_lt h0 hla)
      have i0 := ih (z + 1) left (by omega) hl
      have i1 := ih (z + 1) (left - 1) (by omega) (by omega)
      have e1 : w32 ((z : Int) + 1) = ((z + 1 : Nat) : Int) := by
        clear e
        rw [w32_i (by omega) (by omega)]
        omega
      refine wp_run 60 cd_9_freeSize [(5, [0, 1, 3, 4])] rfl (by decide) ?_
      conv => whnf
      rw [h3]
      refine ⟨fun h => absurd h hng, fun _ => ?_⟩
      conv => whnf
      rw [e]
      refine ⟨fun h => ?_, fun h => ?_⟩
      · have hb : laid / 2 ^ z % 2 = 0 := Int.ofNat.inj h
        have hf2 : (if left = 0 then z else frF laid j (z + 1) (left - 1)) = frF laid n 1 place := (if_pos hb).symm.trans hf
        conv => whnf
        refine ⟨fun h' => ?_, fun h' => ?_⟩
        · have hl0 : left = 0 := Int.ofNat.inj h'
          rw [if_pos hl0] at hf2
          conv => whnf
          rw [hf2]
          exact hK
        · have hl0 : ¬ left = 0 := fun q => h' (by rw [q]; rfl)
          rw [if_neg hl0] at hf2
          have e5 : w32 ((left : Int) + -1) = ((left - 1 : Nat) : Int) := by
            clear e e1
            rw [w32_i (by omega) (by omega)]
            omega
          have q := i1 hf2
          rw [← e5, ← e1] at q
          conv => whnf
          exact q
      · have hb : ¬ laid / 2 ^ z % 2 = 0 := fun q => h (by rw [q]; rfl)
        have q := i0 ((if_neg hb).symm.trans hf)
        rw [← e1] at q
        conv => whnf
        exact q
  refine wp_run 60 cd_9_freeSize [(5, [0, 1, 3, 4])] rfl (by decide) ?_
  conv => whnf
  exact loop n 1 place (by omega) hpl rfl
