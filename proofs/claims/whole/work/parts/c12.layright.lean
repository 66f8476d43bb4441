/-! CONTRACTS: the class lays how many of an order lie right -/
theorem bd_o {o i : Nat} (ho : o < 120) (hi : i < 5) : 0 ≤ ((5 * o + i : Nat) : Int) ∧ ((5 * o + i : Nat) : Int) < 600 := by omega
theorem ix_ob {n o r : Nat} {x : Int} (hx : x = (n : Int)) (ho : o < 120) (hn : n ≤ 5) (hr : r < n) : w32 (w32 (w32 (w32 ((o : Int) * 5) + x) - 1) - (r : Int)) = ((5 * o + (n - 1 - r) : Nat) : Int) := by
  rw [hx, w32_i (x := (o : Int) * 5) (by omega) (by omega), w32_i (x := (o : Int) * 5 + (n : Int)) (by omega) (by omega), w32_i (x := (o : Int) * 5 + (n : Int) - 1) (by omega) (by omega), w32_i (by omega) (by omega)]
  omega
theorem ct_layRight {D n o : Nat} {M : Mm} {K : Po} (hD : 0 < D) (h2 : n ≤ 5) (h3 : M 19 0 = (n : Int)) (ho : o < fct n) (hZ : ∀ i : Nat, i < n → M 20 ((5 * o + i : Nat) : Int) = ((sz n o i : Nat) : Int)) (hK : K (9, 0) GT (up2 M 23 (o : Int) ((oR n o : Nat) : Int))) : CallP D 97 [(2, 19), (0, (o : Int))] GT M K := by
  have hn6 : n < 6 := by omega
  have hf := fct_le n hn6
  have ho5 : o < 120 := by omega
  have hor := oR_in n hn6 o ho
  have hoB : 0 ≤ (o : Int) ∧ (o : Int) < 120 := by omega
  refine call_run hD (fun d hd => ?_)
  have loop : ∀ j r : Nat, r + j = oR n o → Run d (GT.1 + acs 97) 97 2 [(0, (2, 19)), (1, (0, (o : Int))), (2, (0, (r : Int)))] [] GT M (fun r G' M' => gd (Nat.beq G'.1 (GT.1 + acs 97)) (K r G' M')) := by
    intro j
    induction j with
    | zero =>
      intro r hr
      have hr0 : r = oR n o := by omega
      refine wp_run 60 cd_9_layRight [(2, [0, 1, 2])] rfl (by decide) ?_
      conv => whnf
      rw [h3]
      refine ⟨fun h => ?_, fun h => ?_⟩
      · have hn : r < n := by omega
        have hb := oR_b n hn6 o ho (by omega)
        rw [← hr0] at hb
        have hq : n - 1 - r < n := by omega
        have hq5 : n - 1 - r < 5 := by omega
        have hne : ¬ ((sz n o (n - 1 - r) : Nat) : Int) = ((n - r : Nat) : Int) := fun q => hb (Int.ofNat.inj q)
        have ey : w32 (M 19 0 - (r : Int)) = ((n - r : Nat) : Int) := by
          rw [h3, w32_i (by omega) (by omega)]
          omega
        have ei := ix_ob (o := o) (r := r) h3 ho5 h2 hn
        conv => whnf
        rw [gl_19_3, sl_20]
        refine ⟨?_, ?_⟩
        · rw [ei]
          exact bd_o ho5 hq5
        · conv => whnf
          rw [ei, ey, hZ _ hq]
          refine ⟨fun h' => absurd h' hne, fun _ => ?_⟩
          conv => whnf
          rw [gl_19_6, sl_23]
          refine ⟨hoB, ?_⟩
          conv => whnf
          rw [hr0]
          exact hK
      · conv => whnf
        rw [gl_19_6, sl_23]
        refine ⟨hoB, ?_⟩
        conv => whnf
        rw [hr0]
        exact hK
    | succ j ih =>
      intro r hr
      have hn : r < n := by omega
      have ha := oR_a n hn6 o ho r hn (by omega)
      have hae : ((sz n o (n - 1 - r) : Nat) : Int) = ((n - r : Nat) : Int) := by rw [ha]
      have hq : n - 1 - r < n := by omega
      have hq5 : n - 1 - r < 5 := by omega
      have hlt : (r : Int) < (n : Int) := by omega
      have ih' := ih (r + 1) (by omega)
      have er : w32 ((r : Int) + 1) = ((r + 1 : Nat) : Int) := by
        rw [w32_i (by omega) (by omega)]
        omega
      have ey : w32 (M 19 0 - (r : Int)) = ((n - r : Nat) : Int) := by
        clear er
        rw [h3, w32_i (by omega) (by omega)]
        omega
      have ei := ix_ob (o := o) (r := r) h3 ho5 h2 hn
      refine wp_run 60 cd_9_layRight [(2, [0, 1, 2])] rfl (by decide) ?_
      conv => whnf
      rw [h3]
      refine ⟨fun _ => ?_, fun h => absurd hlt h⟩
      conv => whnf
      rw [gl_19_3, sl_20]
      refine ⟨?_, ?_⟩
      · rw [ei]
        exact bd_o ho5 hq5
      · conv => whnf
        rw [ei, ey, hZ _ hq]
        refine ⟨fun _ => ?_, fun h' => absurd hae h'⟩
        conv => whnf
        rw [← er] at ih'
        exact ih'
  refine wp_run 60 cd_9_layRight [(2, [0, 1, 2])] rfl (by decide) ?_
  conv => whnf
  exact loop (oR n o) 0 (by omega)
