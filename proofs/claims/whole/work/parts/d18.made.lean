/-! THE CONSTRUCTORS: of the class, whole -/
def FC (M : Mm) : Prop := M 3 1 = 0 ∧ M 3 11 = 0 ∧ M 3 12 = -1 ∧ M 12 4 = 1 ∧ M 12 6 = 0 ∧ M 15 1 = 0 ∧ M 15 2 = 0 ∧ M 17 1 = 0 ∧ M 17 2 = 0 ∧ M 2 11 = 0 ∧ M 2 15 = 0 ∧ M 27 4 = -1 ∧ M 37 2 = 34 ∧ M 37 3 = 35 ∧ M 41 0 = 42 ∧ M 41 1 = 45 ∧ M 41 2 = 48 ∧ M 42 2 = 0 ∧ M 42 7 = -1 ∧ M 45 2 = 1 ∧ M 45 7 = -1 ∧ M 48 2 = 2 ∧ M 48 7 = -1 ∧ M 51 0 = 0 ∧ M 51 1 = 0 ∧ M 51 2 = 0 ∧ M 53 0 = 54 ∧ M 53 1 = 55 ∧ M 53 2 = 56 ∧ M 53 3 = 57 ∧ M 53 4 = 58 ∧ M 53 5 = 59 ∧ M 53 6 = 60 ∧ M 53 7 = 61 ∧ M 53 8 = 62 ∧ M 53 9 = 63 ∧ M 64 0 = 65 ∧ M 64 1 = 67 ∧ M 64 2 = 69 ∧ M 64 3 = 71 ∧ M 65 1 = -1 ∧ M 65 2 = 0 ∧ M 67 1 = -1 ∧ M 67 2 = 0 ∧ M 69 1 = -1 ∧ M 69 2 = 0 ∧ M 71 1 = -1 ∧ M 71 2 = 0 ∧ M 73 0 = 75 ∧ M 73 1 = 83 ∧ M 74 0 = 82 ∧ M 74 1 = 90
def chA (M : Mm) : Mm := (upR (upR (upR (upR (upR (upR (upR (upR (upR (up2 (upR (upR (upR (upR (upR (upR (upR (up2 (up2 (up2 (up2 (upR (upR (upR (upR (upR (upR (upR (upR (upR (upR M 2 fun _ => 0) 3 fun _ => 0) 4 fun _ => 0) 5 fun _ => 0) 6 fun _ => 0) 7 fun _ => 0) 8 fun _ => 0) 9 fun _ => 0) 10 fun _ => 0) 11 fun _ => 0) 5 4 1) 3 8 8) 3 9 265) 3 12 (-1)) 12 fun _ => 0) 13 fun _ => 0) 14 fun _ => 0) 15 fun _ => 0) 16 fun _ => 0) 17 fun _ => 0) 18 fun _ => 0) 12 4 1) 19 fun _ => 0) 20 fun _ => 0) 21 fun _ => 0) 22 fun _ => 0) 23 fun _ => 0) 24 fun _ => 0) 25 fun _ => 0) 1 fun _ => 0) 26 fun _ => 0)
def chB (M : Mm) : Mm := (up2 (upR (up2 (up2 (upR (upR (upR (upR (upR (upR (upR (up2 (upR (up2 (up2 (upR (upR (upR (upR (upR (upR (upR (upR (upR (up2 (up2 (upR (upR (up2 (up2 (upR (upR (up2 (up2 (upR (upR (up2 (up2 (upR (upR (upR (up2 (upR (up2 (upR (up2 (upR (up2 (upR (up2 (upR (up2 (upR (up2 (upR (up2 (upR (up2 (upR (up2 (upR (upR (upR (upR (up2 (up2 (up2 (upR (upR (upR (up2 (up2 (up2 (upR (upR (upR (up2 (up2 (up2 (upR (upR (upR (upR (upR (upR (upR (up2 (up2 (upR (upR (upR (upR (upR (upR (upR (upR (up2 (upR (upR (upR M 27 fun _ => 0) 28 fun _ => 0) 29 fun _ => 0) 27 4 (-1)) 30 fun _ => 0) 31 fun _ => 0) 32 fun _ => 0) 33 fun _ => 0) 34 fun _ => 0) 35 fun _ => 0) 36 fun _ => 0) 37 fun _ => 0) 37 2 34) 37 3 35) 38 fun _ => 0) 39 fun _ => 0) 40 fun _ => 0) 41 fun _ => 0) 42 fun _ => 0) 43 fun _ => 0) 44 fun _ => 0) 42 7 (-1)) 42 2 0) 41 0 42) 45 fun _ => 0) 46 fun _ => 0) 47 fun _ => 0) 45 7 (-1)) 45 2 1) 41 1 45) 48 fun _ => 0) 49 fun _ => 0) 50 fun _ => 0) 48 7 (-1)) 48 2 2) 41 2 48) 51 fun _ => 0) 52 fun _ => 0) 53 fun _ => 0) 54 fun _ => 0) 53 0 54) 55 fun _ => 0) 53 1 55) 56 fun _ => 0) 53 2 56) 57 fun _ => 0) 53 3 57) 58 fun _ => 0) 53 4 58) 59 fun _ => 0) 53 5 59) 60 fun _ => 0) 53 6 60) 61 fun _ => 0) 53 7 61) 62 fun _ => 0) 53 8 62) 63 fun _ => 0) 53 9 63) 64 fun _ => 0) 65 fun _ => 0) 66 fun _ => 0) 65 1 (-1)) 64 0 65) 67 fun _ => 0) 68 fun _ => 0) 67 1 (-1)) 64 1 67) 69 fun _ => 0) 70 fun _ => 0) 69 1 (-1)) 64 2 69) 71 fun _ => 0) 72 fun _ => 0) 71 1 (-1)) 64 3 71) 73 fun _ => 0) 74 fun _ => 0) 75 fun _ => 0) 76 fun _ => 0) 77 fun _ => 0) 78 fun _ => 0) 79 fun _ => 0) 80 fun _ => 0) 81 fun _ => 0) 75 4 1) 73 0 75) 82 fun _ => 0) 74 0 82) 83 fun _ => 0) 84 fun _ => 0) 85 fun _ => 0) 86 fun _ => 0) 87 fun _ => 0) 88 fun _ => 0) 89 fun _ => 0) 83 4 1) 73 1 83) 90 fun _ => 0) 74 1 90)
theorem fA_3_1 (M : Mm) : chA M 3 1 = 0 := rfl
theorem fB_3_1 (M : Mm) : chB M 3 1 = M 3 1 := rfl
theorem fA_3_11 (M : Mm) : chA M 3 11 = 0 := rfl
theorem fB_3_11 (M : Mm) : chB M 3 11 = M 3 11 := rfl
theorem fA_3_12 (M : Mm) : chA M 3 12 = -1 := rfl
theorem fB_3_12 (M : Mm) : chB M 3 12 = M 3 12 := rfl
theorem fA_12_4 (M : Mm) : chA M 12 4 = 1 := rfl
theorem fB_12_4 (M : Mm) : chB M 12 4 = M 12 4 := rfl
theorem fA_12_6 (M : Mm) : chA M 12 6 = 0 := rfl
theorem fB_12_6 (M : Mm) : chB M 12 6 = M 12 6 := rfl
theorem fA_15_1 (M : Mm) : chA M 15 1 = 0 := rfl
theorem fB_15_1 (M : Mm) : chB M 15 1 = M 15 1 := rfl
theorem fA_15_2 (M : Mm) : chA M 15 2 = 0 := rfl
theorem fB_15_2 (M : Mm) : chB M 15 2 = M 15 2 := rfl
theorem fA_17_1 (M : Mm) : chA M 17 1 = 0 := rfl
theorem fB_17_1 (M : Mm) : chB M 17 1 = M 17 1 := rfl
theorem fA_17_2 (M : Mm) : chA M 17 2 = 0 := rfl
theorem fB_17_2 (M : Mm) : chB M 17 2 = M 17 2 := rfl
theorem fA_2_11 (M : Mm) : chA M 2 11 = 0 := rfl
theorem fB_2_11 (M : Mm) : chB M 2 11 = M 2 11 := rfl
theorem fA_2_15 (M : Mm) : chA M 2 15 = 0 := rfl
theorem fB_2_15 (M : Mm) : chB M 2 15 = M 2 15 := rfl
theorem fB_27_4 (M : Mm) : chB M 27 4 = -1 := rfl
theorem fB_37_2 (M : Mm) : chB M 37 2 = 34 := rfl
theorem fB_37_3 (M : Mm) : chB M 37 3 = 35 := rfl
theorem fB_41_0 (M : Mm) : chB M 41 0 = 42 := rfl
theorem fB_41_1 (M : Mm) : chB M 41 1 = 45 := rfl
theorem fB_41_2 (M : Mm) : chB M 41 2 = 48 := rfl
theorem fB_42_2 (M : Mm) : chB M 42 2 = 0 := rfl
theorem fB_42_7 (M : Mm) : chB M 42 7 = -1 := rfl
theorem fB_45_2 (M : Mm) : chB M 45 2 = 1 := rfl
theorem fB_45_7 (M : Mm) : chB M 45 7 = -1 := rfl
theorem fB_48_2 (M : Mm) : chB M 48 2 = 2 := rfl
theorem fB_48_7 (M : Mm) : chB M 48 7 = -1 := rfl
theorem fB_51_0 (M : Mm) : chB M 51 0 = 0 := rfl
theorem fB_51_1 (M : Mm) : chB M 51 1 = 0 := rfl
theorem fB_51_2 (M : Mm) : chB M 51 2 = 0 := rfl
theorem fB_53_0 (M : Mm) : chB M 53 0 = 54 := rfl
theorem fB_53_1 (M : Mm) : chB M 53 1 = 55 := rfl
theorem fB_53_2 (M : Mm) : chB M 53 2 = 56 := rfl
theorem fB_53_3 (M : Mm) : chB M 53 3 = 57 := rfl
theorem fB_53_4 (M : Mm) : chB M 53 4 = 58 := rfl
theorem fB_53_5 (M : Mm) : chB M 53 5 = 59 := rfl
theorem fB_53_6 (M : Mm) : chB M 53 6 = 60 := rfl
theorem fB_53_7 (M : Mm) : chB M 53 7 = 61 := rfl
theorem fB_53_8 (M : Mm) : chB M 53 8 = 62 := rfl
theorem fB_53_9 (M : Mm) : chB M 53 9 = 63 := rfl
theorem fB_64_0 (M : Mm) : chB M 64 0 = 65 := rfl
theorem fB_64_1 (M : Mm) : chB M 64 1 = 67 := rfl
theorem fB_64_2 (M : Mm) : chB M 64 2 = 69 := rfl
theorem fB_64_3 (M : Mm) : chB M 64 3 = 71 := rfl
theorem fB_65_1 (M : Mm) : chB M 65 1 = -1 := rfl
theorem fB_65_2 (M : Mm) : chB M 65 2 = 0 := rfl
theorem fB_67_1 (M : Mm) : chB M 67 1 = -1 := rfl
theorem fB_67_2 (M : Mm) : chB M 67 2 = 0 := rfl
theorem fB_69_1 (M : Mm) : chB M 69 1 = -1 := rfl
theorem fB_69_2 (M : Mm) : chB M 69 2 = 0 := rfl
theorem fB_71_1 (M : Mm) : chB M 71 1 = -1 := rfl
theorem fB_71_2 (M : Mm) : chB M 71 2 = 0 := rfl
theorem fB_73_0 (M : Mm) : chB M 73 0 = 75 := rfl
theorem fB_73_1 (M : Mm) : chB M 73 1 = 83 := rfl
theorem fB_74_0 (M : Mm) : chB M 74 0 = 82 := rfl
theorem fB_74_1 (M : Mm) : chB M 74 1 = 90 := rfl
theorem fBx_0 (M : Mm) (b : Int) : chB M 0 b = M 0 b := rfl
theorem fBx_1 (M : Mm) (b : Int) : chB M 1 b = M 1 b := rfl
theorem fBx_19 (M : Mm) (b : Int) : chB M 19 b = M 19 b := rfl
theorem fBx_20 (M : Mm) (b : Int) : chB M 20 b = M 20 b := rfl
theorem fBx_21 (M : Mm) (b : Int) : chB M 21 b = M 21 b := rfl
theorem fBx_22 (M : Mm) (b : Int) : chB M 22 b = M 22 b := rfl
theorem fBx_23 (M : Mm) (b : Int) : chB M 23 b = M 23 b := rfl
theorem fBx_24 (M : Mm) (b : Int) : chB M 24 b = M 24 b := rfl
theorem fBx_25 (M : Mm) (b : Int) : chB M 25 b = M 25 b := rfl
theorem fBx_m (M : Mm) (b : Int) : chB M (-1) b = M (-1) b := rfl
theorem fAx_0 (M : Mm) (b : Int) : chA M 0 b = M 0 b := rfl
theorem fAx_m (M : Mm) (b : Int) : chA M (-1) b = M (-1) b := rfl
theorem fc_B {M M1 : Mm} (a1 : ∀ a b : Int, ¬ (19 ≤ a ∧ a ≤ 26) → ¬ a = 1 → M1 a b = chA M a b) : FC (chB M1) := ⟨(fB_3_1 M1).trans ((a1 3 1 (by omega) (by omega)).trans (fA_3_1 M)), (fB_3_11 M1).trans ((a1 3 11 (by omega) (by omega)).trans (fA_3_11 M)), (fB_3_12 M1).trans ((a1 3 12 (by omega) (by omega)).trans (fA_3_12 M)), (fB_12_4 M1).trans ((a1 12 4 (by omega) (by omega)).trans (fA_12_4 M)), (fB_12_6 M1).trans ((a1 12 6 (by omega) (by omega)).trans (fA_12_6 M)), (fB_15_1 M1).trans ((a1 15 1 (by omega) (by omega)).trans (fA_15_1 M)), (fB_15_2 M1).trans ((a1 15 2 (by omega) (by omega)).trans (fA_15_2 M)), (fB_17_1 M1).trans ((a1 17 1 (by omega) (by omega)).trans (fA_17_1 M)), (fB_17_2 M1).trans ((a1 17 2 (by omega) (by omega)).trans (fA_17_2 M)), (fB_2_11 M1).trans ((a1 2 11 (by omega) (by omega)).trans (fA_2_11 M)), (fB_2_15 M1).trans ((a1 2 15 (by omega) (by omega)).trans (fA_2_15 M)), fB_27_4 M1, fB_37_2 M1, fB_37_3 M1, fB_41_0 M1, fB_41_1 M1, fB_41_2 M1, fB_42_2 M1, fB_42_7 M1, fB_45_2 M1, fB_45_7 M1, fB_48_2 M1, fB_48_7 M1, fB_51_0 M1, fB_51_1 M1, fB_51_2 M1, fB_53_0 M1, fB_53_1 M1, fB_53_2 M1, fB_53_3 M1, fB_53_4 M1, fB_53_5 M1, fB_53_6 M1, fB_53_7 M1, fB_53_8 M1, fB_53_9 M1, fB_64_0 M1, fB_64_1 M1, fB_64_2 M1, fB_64_3 M1, fB_65_1 M1, fB_65_2 M1, fB_67_1 M1, fB_67_2 M1, fB_69_1 M1, fB_69_2 M1, fB_71_1 M1, fB_71_2 M1, fB_73_0 M1, fB_73_1 M1, fB_74_0 M1, fB_74_1 M1⟩
theorem st_B {M1 : Mm} (s1 : StkOK 1 M1) : StkOK 1 (chB M1) := stk_fr s1 (fun a b g1 g2 => by
  have hc : a = 1 ∨ a = 19 ∨ a = 20 ∨ a = 21 ∨ a = 22 ∨ a = 23 ∨ a = 24 ∨ a = 25 := by omega
  rcases hc with rfl | rfl | rfl | rfl | rfl | rfl | rfl | rfl
  · exact fBx_1 M1 b
  · exact fBx_19 M1 b
  · exact fBx_20 M1 b
  · exact fBx_21 M1 b
  · exact fBx_22 M1 b
  · exact fBx_23 M1 b
  · exact fBx_24 M1 b
  · exact fBx_25 M1 b)
set_option maxRecDepth 100000 in
theorem i_class {D : Nat} {M : Mm} {K : Po} (hD : 9 < D) (hK : ∀ M' : Mm, FC M' → StkOK 1 M' → (∀ b : Int, M' 0 b = M 0 b) → (∀ b : Int, M' (-1) b = M (-1) b) → K (9, 0) (92, [[], [], [3, 12, 19, 27, 36, 41, 37, 38, 51, 52, 53, 0, 64, 73, 74, 0], [4, 0, 0, 0, 0, 0, 0, 5, 0, 0, 0, 0, 0], [], [6, 7, 8, 10, 0, 0, 0], [], [], [9, 0, 0], [], [11, 0, 0], [], [13, 14, 15, 17, 0, 0, 0], [], [], [16, 0, 0], [], [18, 0, 0], [], [0, 0, 0, 20, 21, 22, 23, 24, 25, 1, 26], [], [], [], [], [], [], [], [19, 12, 28, 29, 0, 30, 31, 32, 33], [], [], [], [], [], [], [], [], [19, 27, 34, 0, 0], [19, 27, 0, 0], [19, 27, 34, 35, 39, 40, 0], [], [], [], [19, 27, 0, 43, 44, 34, 35, 0], [], [], [19, 27, 0, 46, 47, 34, 35, 0], [], [], [19, 27, 0, 49, 50, 34, 35, 0], [], [], [0, 0, 0], [0, 0, 0], [], [0, 0, 0], [0, 0, 0], [0, 0, 0], [0, 0, 0], [0, 0, 0], [0, 0, 0], [0, 0, 0], [0, 0, 0], [0, 0, 0], [0, 0, 0], [], [66, 0, 0], [], [68, 0, 0], [], [70, 0, 0], [], [72, 0, 0], [], [], [], [76, 77, 78, 80, 0, 0, 0], [], [], [79, 0, 0], [], [81, 0, 0], [], [0, 0, 0], [84, 85, 86, 88, 0, 0, 0], [], [], [87, 0, 0], [], [89, 0, 0], [], [0, 0, 0], [], [], [], [], [], [], [], [], [], [], [], [], [], [], [], [], [], [], [], [], [], [], [], [], []]) M') : CallP D 119 [(2, 2)] (3, [[], [], [0, 0, 0, 0, 0, 0, 0, 0, 0, 0, 0, 0, 0, 0, 0, 0], [], [], [], [], [], [], [], [], [], [], [], [], [], [], [], [], [], [], [], [], [], [], [], [], [], [], [], [], [], [], [], [], [], [], [], [], [], [], [], [], [], [], [], [], [], [], [], [], [], [], [], [], [], [], [], [], [], [], [], [], [], [], [], [], [], [], [], [], [], [], [], [], [], [], [], [], [], [], [], [], [], [], [], [], [], [], [], [], [], [], [], [], [], [], [], [], [], [], [], [], [], [], [], [], [], [], [], [], [], [], [], [], []]) (upR M 2 fun _ => 0) K := by
  refine call_run (by omega) (fun d hd => ?_)
  refine ic_1 (by omega) ?_
  refine ic_2 (by omega) ?_
  refine ic_3 (by omega) (fun M1 a1 s1 => ?_)
  refine ic_4 (by omega) ?_
  refine ic_5 (by omega) ?_
  refine ic_6 (by omega) ?_
  refine ic_7 (by omega) ?_
  refine ic_8 (by omega) ?_
  refine ic_9 (by omega) ?_
  refine ic_10 (by omega) ?_
  refine ic_11 (by omega) ?_
  refine ic_12 (by omega) ?_
  refine ic_13 (by omega) ?_
  refine ic_14 (by omega) ?_
  refine ic_15 (by omega) ?_
  refine ic_16 (by omega) ?_
  refine ic_17 (by omega) ?_
  refine ic_18 (by omega) ?_
  refine ic_19 (by omega) ?_
  refine ic_20 (by omega) ?_
  refine ic_21 (by omega) ?_
  refine ic_22 (by omega) ?_
  refine ic_23 (by omega) ?_
  refine ic_24 (by omega) ?_
  refine ic_25 (by omega) ?_
  refine ic_26 (by omega) ?_
  refine ic_27 (by omega) ?_
  refine ic_28 (by omega) ?_
  refine ic_29 (by omega) ?_
  refine ic_30 (by omega) ?_
  refine ic_31 (by omega) ?_
  refine ic_32 (by omega) ?_
  refine ic_33 (by omega) ?_
  refine ic_34 (by omega) ?_
  refine ic_35 (by omega) ?_
  refine ic_36 (by omega) ?_
  refine ic_37 (by omega) ?_
  refine ic_end ?_
  have a2 : ∀ a b : Int, ¬ (19 ≤ a ∧ a ≤ 26) → ¬ a = 1 → M1 a b = chA M a b := a1
  exact hK (chB M1) (fc_B a2) (st_B s1) (fun b => (fBx_0 M1 b).trans ((a2 0 b (by omega) (by omega)).trans (fAx_0 M b))) (fun b => (fBx_m M1 b).trans ((a2 (-1) b (by omega) (by omega)).trans (fAx_m M b)))
theorem ct_plain92 {D : Nat} {M : Mm} {K : Po} (hD : 0 < D) (hK : K (9, 0) GT (filM M 92 948 0)) : CallP D 180 [(2, 92)] GT M K := by
  refine call_run (by omega) (fun d hd => ?_)
  have loop : ∀ i : Nat, i ≤ 948 → Run d (GT.1 + acs 180) 180 2 [(0, (2, 92)), (1, (0, (i : Int)))] [] GT (filM M 92 i 0) (fun r G' M' => gd (Nat.beq G'.1 (GT.1 + acs 180)) (K r G' M')) := by
    refine for_up fun i hi ih => ?_
    by_cases c : i < 948
    · have q := ih c
      rw [← fil_s, show ((i + 1 : Nat) : Int) = (i : Int) + 1 by omega] at q
      refine wt_run 40 cd_12_plain [(2, [0, 1])] rfl (by decide) ?_
      repeat ((conv => whnf); (try simp (disch := omega) only [gl_2_0, gl_2_1, gl_2_2, gl_2_3, gl_2_4, gl_2_5, gl_2_6, gl_2_7, gl_2_8, gl_2_9, gl_2_10, gl_2_12, gl_2_13, gl_2_14, gl_3_0, gl_3_7, gl_5_0, gl_5_1, gl_5_2, gl_5_3, gl_8_0, gl_10_0, gl_12_0, gl_12_1, gl_12_2, gl_12_3, gl_15_0, gl_17_0, gl_19_3, gl_19_4, gl_19_5, gl_19_6, gl_19_7, gl_19_8, gl_19_9, gl_19_10, gl_27_0, gl_27_1, gl_27_2, gl_27_3, gl_27_5, gl_27_6, gl_27_7, gl_27_8, gl_36_0, gl_36_1, gl_36_2, gl_37_0, gl_37_1, gl_38_0, gl_38_1, gl_38_2, gl_38_3, gl_38_4, gl_38_5, gl_42_0, gl_42_1, gl_42_3, gl_42_4, gl_42_5, gl_42_6, gl_45_0, gl_45_1, gl_45_3, gl_45_4, gl_45_5, gl_45_6, gl_48_0, gl_48_1, gl_48_3, gl_48_4, gl_48_5, gl_48_6, gl_65_0, gl_67_0, gl_69_0, gl_71_0, gl_75_0, gl_75_1, gl_75_2, gl_75_3, gl_78_0, gl_80_0, gl_83_0, gl_83_1, gl_83_2, gl_83_3, gl_86_0, gl_88_0, gl_91_1, gl_91_2, gl_91_3, gl_91_4, gl_91_16, gl_91_17, gl_91_18, gl_91_20, gl_91_21, gl_91_22, gl_91_25, gl_91_26, gl_91_27, gl_91_28, gl_91_29, gl_91_30, gl_91_31, gl_91_32, gl_91_33, gl_91_36, gl_91_37, gl_91_38, gl_91_39, gl_91_40, sl_1, sl_4, sl_6, sl_7, sl_9, sl_11, sl_13, sl_14, sl_16, sl_18, sl_20, sl_21, sl_22, sl_23, sl_24, sl_25, sl_26, sl_28, sl_29, sl_30, sl_31, sl_32, sl_33, sl_34, sl_35, sl_39, sl_40, sl_41, sl_43, sl_44, sl_46, sl_47, sl_49, sl_50, sl_53, sl_64, sl_66, sl_68, sl_70, sl_72, sl_73, sl_74, sl_76, sl_77, sl_79, sl_81, sl_84, sl_85, sl_87, sl_89, sl_92, sl_93, sl_94, sl_95, sl_96, sl_97, sl_98, sl_99, sl_100, sl_101, sl_102, sl_103, sl_104, sl_105, sl_106, sl_107, sl_108, sl_109, sl_110, sl_111, sl_112, sl_113, sl_114, sl_115, up_off, up_at, cm_lt, cm_gt, cq_eq, and1, dv_n, ml_n, ml_1, b01_t, b01_f]); (first | refine And.intro (fun _ => ?_) (fun hc => absurd trivial hc) | refine And.intro (fun hc => False.elim hc) (fun _ => ?_) | refine And.intro (fun hc => absurd hc (by omega)) (fun _ => ?_) | refine And.intro (fun _ => ?_) (fun hc => absurd (by omega) hc) | refine And.intro (by omega) ?_ | refine And.intro (Or.inl trivial) ?_ | refine And.intro (Or.inr trivial) ?_))
      conv => whnf
      try simp (disch := omega) only [gl_2_0, gl_2_1, gl_2_2, gl_2_3, gl_2_4, gl_2_5, gl_2_6, gl_2_7, gl_2_8, gl_2_9, gl_2_10, gl_2_12, gl_2_13, gl_2_14, gl_3_0, gl_3_7, gl_5_0, gl_5_1, gl_5_2, gl_5_3, gl_8_0, gl_10_0, gl_12_0, gl_12_1, gl_12_2, gl_12_3, gl_15_0, gl_17_0, gl_19_3, gl_19_4, gl_19_5, gl_19_6, gl_19_7, gl_19_8, gl_19_9, gl_19_10, gl_27_0, gl_27_1, gl_27_2, gl_27_3, gl_27_5, gl_27_6, gl_27_7, gl_27_8, gl_36_0, gl_36_1, gl_36_2, gl_37_0, gl_37_1, gl_38_0, gl_38_1, gl_38_2, gl_38_3, gl_38_4, gl_38_5, gl_42_0, gl_42_1, gl_42_3, gl_42_4, gl_42_5, gl_42_6, gl_45_0, gl_45_1, gl_45_3, gl_45_4, gl_45_5, gl_45_6, gl_48_0, gl_48_1, gl_48_3, gl_48_4, gl_48_5, gl_48_6, gl_65_0, gl_67_0, gl_69_0, gl_71_0, gl_75_0, gl_75_1, gl_75_2, gl_75_3, gl_78_0, gl_80_0, gl_83_0, gl_83_1, gl_83_2, gl_83_3, gl_86_0, gl_88_0, gl_91_1, gl_91_2, gl_91_3, gl_91_4, gl_91_16, gl_91_17, gl_91_18, gl_91_20, gl_91_21, gl_91_22, gl_91_25, gl_91_26, gl_91_27, gl_91_28, gl_91_29, gl_91_30, gl_91_31, gl_91_32, gl_91_33, gl_91_36, gl_91_37, gl_91_38, gl_91_39, gl_91_40, sl_1, sl_4, sl_6, sl_7, sl_9, sl_11, sl_13, sl_14, sl_16, sl_18, sl_20, sl_21, sl_22, sl_23, sl_24, sl_25, sl_26, sl_28, sl_29, sl_30, sl_31, sl_32, sl_33, sl_34, sl_35, sl_39, sl_40, sl_41, sl_43, sl_44, sl_46, sl_47, sl_49, sl_50, sl_53, sl_64, sl_66, sl_68, sl_70, sl_72, sl_73, sl_74, sl_76, sl_77, sl_79, sl_81, sl_84, sl_85, sl_87, sl_89, sl_92, sl_93, sl_94, sl_95, sl_96, sl_97, sl_98, sl_99, sl_100, sl_101, sl_102, sl_103, sl_104, sl_105, sl_106, sl_107, sl_108, sl_109, sl_110, sl_111, sl_112, sl_113, sl_114, sl_115, up_off, up_at, cm_lt, cm_gt, cq_eq, and1, dv_n, ml_n, ml_1, b01_t, b01_f]
      exact q
    · have e : i = 948 := by omega
      subst e
      refine wt_run 40 cd_12_plain [(2, [0, 1])] rfl (by decide) ?_
      repeat ((conv => whnf); (try simp (disch := omega) only [gl_2_0, gl_2_1, gl_2_2, gl_2_3, gl_2_4, gl_2_5, gl_2_6, gl_2_7, gl_2_8, gl_2_9, gl_2_10, gl_2_12, gl_2_13, gl_2_14, gl_3_0, gl_3_7, gl_5_0, gl_5_1, gl_5_2, gl_5_3, gl_8_0, gl_10_0, gl_12_0, gl_12_1, gl_12_2, gl_12_3, gl_15_0, gl_17_0, gl_19_3, gl_19_4, gl_19_5, gl_19_6, gl_19_7, gl_19_8, gl_19_9, gl_19_10, gl_27_0, gl_27_1, gl_27_2, gl_27_3, gl_27_5, gl_27_6, gl_27_7, gl_27_8, gl_36_0, gl_36_1, gl_36_2, gl_37_0, gl_37_1, gl_38_0, gl_38_1, gl_38_2, gl_38_3, gl_38_4, gl_38_5, gl_42_0, gl_42_1, gl_42_3, gl_42_4, gl_42_5, gl_42_6, gl_45_0, gl_45_1, gl_45_3, gl_45_4, gl_45_5, gl_45_6, gl_48_0, gl_48_1, gl_48_3, gl_48_4, gl_48_5, gl_48_6, gl_65_0, gl_67_0, gl_69_0, gl_71_0, gl_75_0, gl_75_1, gl_75_2, gl_75_3, gl_78_0, gl_80_0, gl_83_0, gl_83_1, gl_83_2, gl_83_3, gl_86_0, gl_88_0, gl_91_1, gl_91_2, gl_91_3, gl_91_4, gl_91_16, gl_91_17, gl_91_18, gl_91_20, gl_91_21, gl_91_22, gl_91_25, gl_91_26, gl_91_27, gl_91_28, gl_91_29, gl_91_30, gl_91_31, gl_91_32, gl_91_33, gl_91_36, gl_91_37, gl_91_38, gl_91_39, gl_91_40, sl_1, sl_4, sl_6, sl_7, sl_9, sl_11, sl_13, sl_14, sl_16, sl_18, sl_20, sl_21, sl_22, sl_23, sl_24, sl_25, sl_26, sl_28, sl_29, sl_30, sl_31, sl_32, sl_33, sl_34, sl_35, sl_39, sl_40, sl_41, sl_43, sl_44, sl_46, sl_47, sl_49, sl_50, sl_53, sl_64, sl_66, sl_68, sl_70, sl_72, sl_73, sl_74, sl_76, sl_77, sl_79, sl_81, sl_84, sl_85, sl_87, sl_89, sl_92, sl_93, sl_94, sl_95, sl_96, sl_97, sl_98, sl_99, sl_100, sl_101, sl_102, sl_103, sl_104, sl_105, sl_106, sl_107, sl_108, sl_109, sl_110, sl_111, sl_112, sl_113, sl_114, sl_115, up_off, up_at, cm_lt, cm_gt, cq_eq, and1, dv_n, ml_n, ml_1, b01_t, b01_f]); (first | refine And.intro (fun _ => ?_) (fun hc => absurd trivial hc) | refine And.intro (fun hc => False.elim hc) (fun _ => ?_) | refine And.intro (fun hc => absurd hc (by omega)) (fun _ => ?_) | refine And.intro (fun _ => ?_) (fun hc => absurd (by omega) hc) | refine And.intro (by omega) ?_ | refine And.intro (Or.inl trivial) ?_ | refine And.intro (Or.inr trivial) ?_))
      conv => whnf
      try simp (disch := omega) only [gl_2_0, gl_2_1, gl_2_2, gl_2_3, gl_2_4, gl_2_5, gl_2_6, gl_2_7, gl_2_8, gl_2_9, gl_2_10, gl_2_12, gl_2_13, gl_2_14, gl_3_0, gl_3_7, gl_5_0, gl_5_1, gl_5_2, gl_5_3, gl_8_0, gl_10_0, gl_12_0, gl_12_1, gl_12_2, gl_12_3, gl_15_0, gl_17_0, gl_19_3, gl_19_4, gl_19_5, gl_19_6, gl_19_7, gl_19_8, gl_19_9, gl_19_10, gl_27_0, gl_27_1, gl_27_2, gl_27_3, gl_27_5, gl_27_6, gl_27_7, gl_27_8, gl_36_0, gl_36_1, gl_36_2, gl_37_0, gl_37_1, gl_38_0, gl_38_1, gl_38_2, gl_38_3, gl_38_4, gl_38_5, gl_42_0, gl_42_1, gl_42_3, gl_42_4, gl_42_5, gl_42_6, gl_45_0, gl_45_1, gl_45_3, gl_45_4, gl_45_5, gl_45_6, gl_48_0, gl_48_1, gl_48_3, gl_48_4, gl_48_5, gl_48_6, gl_65_0, gl_67_0, gl_69_0, gl_71_0, gl_75_0, gl_75_1, gl_75_2, gl_75_3, gl_78_0, gl_80_0, gl_83_0, gl_83_1, gl_83_2, gl_83_3, gl_86_0, gl_88_0, gl_91_1, gl_91_2, gl_91_3, gl_91_4, gl_91_16, gl_91_17, gl_91_18, gl_91_20, gl_91_21, gl_91_22, gl_91_25, gl_91_26, gl_91_27, gl_91_28, gl_91_29, gl_91_30, gl_91_31, gl_91_32, gl_91_33, gl_91_36, gl_91_37, gl_91_38, gl_91_39, gl_91_40, sl_1, sl_4, sl_6, sl_7, sl_9, sl_11, sl_13, sl_14, sl_16, sl_18, sl_20, sl_21, sl_22, sl_23, sl_24, sl_25, sl_26, sl_28, sl_29, sl_30, sl_31, sl_32, sl_33, sl_34, sl_35, sl_39, sl_40, sl_41, sl_43, sl_44, sl_46, sl_47, sl_49, sl_50, sl_53, sl_64, sl_66, sl_68, sl_70, sl_72, sl_73, sl_74, sl_76, sl_77, sl_79, sl_81, sl_84, sl_85, sl_87, sl_89, sl_92, sl_93, sl_94, sl_95, sl_96, sl_97, sl_98, sl_99, sl_100, sl_101, sl_102, sl_103, sl_104, sl_105, sl_106, sl_107, sl_108, sl_109, sl_110, sl_111, sl_112, sl_113, sl_114, sl_115, up_off, up_at, cm_lt, cm_gt, cq_eq, and1, dv_n, ml_n, ml_1, b01_t, b01_f]
      exact hK
  have q := loop 0 (by omega)
  rw [fil_0] at q
  refine wt_run 40 cd_12_plain [(2, [0, 1])] rfl (by decide) ?_
  repeat ((conv => whnf); (try simp (disch := omega) only [gl_2_0, gl_2_1, gl_2_2, gl_2_3, gl_2_4, gl_2_5, gl_2_6, gl_2_7, gl_2_8, gl_2_9, gl_2_10, gl_2_12, gl_2_13, gl_2_14, gl_3_0, gl_3_7, gl_5_0, gl_5_1, gl_5_2, gl_5_3, gl_8_0, gl_10_0, gl_12_0, gl_12_1, gl_12_2, gl_12_3, gl_15_0, gl_17_0, gl_19_3, gl_19_4, gl_19_5, gl_19_6, gl_19_7, gl_19_8, gl_19_9, gl_19_10, gl_27_0, gl_27_1, gl_27_2, gl_27_3, gl_27_5, gl_27_6, gl_27_7, gl_27_8, gl_36_0, gl_36_1, gl_36_2, gl_37_0, gl_37_1, gl_38_0, gl_38_1, gl_38_2, gl_38_3, gl_38_4, gl_38_5, gl_42_0, gl_42_1, gl_42_3, gl_42_4, gl_42_5, gl_42_6, gl_45_0, gl_45_1, gl_45_3, gl_45_4, gl_45_5, gl_45_6, gl_48_0, gl_48_1, gl_48_3, gl_48_4, gl_48_5, gl_48_6, gl_65_0, gl_67_0, gl_69_0, gl_71_0, gl_75_0, gl_75_1, gl_75_2, gl_75_3, gl_78_0, gl_80_0, gl_83_0, gl_83_1, gl_83_2, gl_83_3, gl_86_0, gl_88_0, gl_91_1, gl_91_2, gl_91_3, gl_91_4, gl_91_16, gl_91_17, gl_91_18, gl_91_20, gl_91_21, gl_91_22, gl_91_25, gl_91_26, gl_91_27, gl_91_28, gl_91_29, gl_91_30, gl_91_31, gl_91_32, gl_91_33, gl_91_36, gl_91_37, gl_91_38, gl_91_39, gl_91_40, sl_1, sl_4, sl_6, sl_7, sl_9, sl_11, sl_13, sl_14, sl_16, sl_18, sl_20, sl_21, sl_22, sl_23, sl_24, sl_25, sl_26, sl_28, sl_29, sl_30, sl_31, sl_32, sl_33, sl_34, sl_35, sl_39, sl_40, sl_41, sl_43, sl_44, sl_46, sl_47, sl_49, sl_50, sl_53, sl_64, sl_66, sl_68, sl_70, sl_72, sl_73, sl_74, sl_76, sl_77, sl_79, sl_81, sl_84, sl_85, sl_87, sl_89, sl_92, sl_93, sl_94, sl_95, sl_96, sl_97, sl_98, sl_99, sl_100, sl_101, sl_102, sl_103, sl_104, sl_105, sl_106, sl_107, sl_108, sl_109, sl_110, sl_111, sl_112, sl_113, sl_114, sl_115, up_off, up_at, cm_lt, cm_gt, cq_eq, and1, dv_n, ml_n, ml_1, b01_t, b01_f]); (first | refine And.intro (fun _ => ?_) (fun hc => absurd trivial hc) | refine And.intro (fun hc => False.elim hc) (fun _ => ?_) | refine And.intro (fun hc => absurd hc (by omega)) (fun _ => ?_) | refine And.intro (fun _ => ?_) (fun hc => absurd (by omega) hc) | refine And.intro (by omega) ?_ | refine And.intro (Or.inl trivial) ?_ | refine And.intro (Or.inr trivial) ?_))
  conv => whnf
  try simp (disch := omega) only [gl_2_0, gl_2_1, gl_2_2, gl_2_3, gl_2_4, gl_2_5, gl_2_6, gl_2_7, gl_2_8, gl_2_9, gl_2_10, gl_2_12, gl_2_13, gl_2_14, gl_3_0, gl_3_7, gl_5_0, gl_5_1, gl_5_2, gl_5_3, gl_8_0, gl_10_0, gl_12_0, gl_12_1, gl_12_2, gl_12_3, gl_15_0, gl_17_0, gl_19_3, gl_19_4, gl_19_5, gl_19_6, gl_19_7, gl_19_8, gl_19_9, gl_19_10, gl_27_0, gl_27_1, gl_27_2, gl_27_3, gl_27_5, gl_27_6, gl_27_7, gl_27_8, gl_36_0, gl_36_1, gl_36_2, gl_37_0, gl_37_1, gl_38_0, gl_38_1, gl_38_2, gl_38_3, gl_38_4, gl_38_5, gl_42_0, gl_42_1, gl_42_3, gl_42_4, gl_42_5, gl_42_6, gl_45_0, gl_45_1, gl_45_3, gl_45_4, gl_45_5, gl_45_6, gl_48_0, gl_48_1, gl_48_3, gl_48_4, gl_48_5, gl_48_6, gl_65_0, gl_67_0, gl_69_0, gl_71_0, gl_75_0, gl_75_1, gl_75_2, gl_75_3, gl_78_0, gl_80_0, gl_83_0, gl_83_1, gl_83_2, gl_83_3, gl_86_0, gl_88_0, gl_91_1, gl_91_2, gl_91_3, gl_91_4, gl_91_16, gl_91_17, gl_91_18, gl_91_20, gl_91_21, gl_91_22, gl_91_25, gl_91_26, gl_91_27, gl_91_28, gl_91_29, gl_91_30, gl_91_31, gl_91_32, gl_91_33, gl_91_36, gl_91_37, gl_91_38, gl_91_39, gl_91_40, sl_1, sl_4, sl_6, sl_7, sl_9, sl_11, sl_13, sl_14, sl_16, sl_18, sl_20, sl_21, sl_22, sl_23, sl_24, sl_25, sl_26, sl_28, sl_29, sl_30, sl_31, sl_32, sl_33, sl_34, sl_35, sl_39, sl_40, sl_41, sl_43, sl_44, sl_46, sl_47, sl_49, sl_50, sl_53, sl_64, sl_66, sl_68, sl_70, sl_72, sl_73, sl_74, sl_76, sl_77, sl_79, sl_81, sl_84, sl_85, sl_87, sl_89, sl_92, sl_93, sl_94, sl_95, sl_96, sl_97, sl_98, sl_99, sl_100, sl_101, sl_102, sl_103, sl_104, sl_105, sl_106, sl_107, sl_108, sl_109, sl_110, sl_111, sl_112, sl_113, sl_114, sl_115, up_off, up_at, cm_lt, cm_gt, cq_eq, and1, dv_n, ml_n, ml_1, b01_t, b01_f]
  exact q
set_option maxRecDepth 100000 in
set_option maxHeartbeats 16000000 in
theorem ir_1 {d : Nat} {M : Mm} {Q : Po} (hd : 8 < d) (h : Run d 117 179 226 [(0, (2, 91))] [] GT (upR (upR (up2 (up2 (up2 (up2 (upR (upR (upR (upR (upR (upR (upR (upR (upR (upR (upR (upR (upR (upR (upR (upR (upR (upR (up2 (upR (upR (upR (upR M 92 fun _ => 0) 93 fun _ => 0) 94 fun _ => 0) 95 fun _ => 0) 91 14 (-1)) 96 fun _ => 0) 97 fun _ => 0) 98 fun _ => 0) 99 fun _ => 0) 100 fun _ => 0) 101 fun _ => 0) 102 fun _ => 0) 103 fun _ => 0) 104 fun _ => 0) 105 fun _ => 0) 106 fun _ => 0) 107 fun _ => 0) 108 fun _ => 0) 109 fun _ => 0) 110 fun _ => 0) 111 fun _ => 0) 112 fun _ => 0) 113 fun _ => 0) 113 0 (-1)) 113 1 (-1)) 113 2 (-1)) 113 3 (-1)) 114 fun _ => 0) 115 fun _ => 0) Q) : Run d 117 179 0 [(0, (2, 91))] [] (93, [[], [], [3, 12, 19, 27, 36, 41, 37, 38, 51, 52, 53, 0, 64, 73, 74, 0], [4, 0, 0, 0, 0, 0, 0, 5, 0, 0, 0, 0, 0], [], [6, 7, 8, 10, 0, 0, 0], [], [], [9, 0, 0], [], [11, 0, 0], [], [13, 14, 15, 17, 0, 0, 0], [], [], [16, 0, 0], [], [18, 0, 0], [], [0, 0, 0, 20, 21, 22, 23, 24, 25, 1, 26], [], [], [], [], [], [], [], [19, 12, 28, 29, 0, 30, 31, 32, 33], [], [], [], [], [], [], [], [], [19, 27, 34, 0, 0], [19, 27, 0, 0], [19, 27, 34, 35, 39, 40, 0], [], [], [], [19, 27, 0, 43, 44, 34, 35, 0], [], [], [19, 27, 0, 46, 47, 34, 35, 0], [], [], [19, 27, 0, 49, 50, 34, 35, 0], [], [], [0, 0, 0], [0, 0, 0], [], [0, 0, 0], [0, 0, 0], [0, 0, 0], [0, 0, 0], [0, 0, 0], [0, 0, 0], [0, 0, 0], [0, 0, 0], [0, 0, 0], [0, 0, 0], [], [66, 0, 0], [], [68, 0, 0], [], [70, 0, 0], [], [72, 0, 0], [], [], [], [76, 77, 78, 80, 0, 0, 0], [], [], [79, 0, 0], [], [81, 0, 0], [], [0, 0, 0], [84, 85, 86, 88, 0, 0, 0], [], [], [87, 0, 0], [], [89, 0, 0], [], [0, 0, 0], [0, 0, 0, 0, 0, 0, 0, 0, 0, 0, 0, 0, 0, 0, 0, 0, 0, 0, 0, 0, 0, 0, 0, 0, 0, 0, 0, 0, 0, 0, 0, 0, 0, 0, 0, 0, 0, 0, 0, 0, 0], [], [], [], [], [], [], [], [], [], [], [], [], [], [], [], [], [], [], [], [], [], [], [], []]) M Q := by
  refine wt_run 160 cd_12_init [(226, [0])] rfl (by decide) ?_
  repeat ((conv => whnf); (first | refine And.intro (fun _ => ?_) (fun hc => absurd (by decide) hc) | refine And.intro (fun hc => absurd hc (by decide)) (fun _ => ?_) | refine And.intro (by decide) ?_ | refine And.intro rfl ?_))
  conv => whnf
  exact h
def chR (M : Mm) : Mm := up2 (filM (upR (upR (up2 (up2 (up2 (up2 (upR (upR (upR (upR (upR (upR (upR (upR (upR (upR (upR (upR (upR (upR (upR (upR (upR (upR (up2 (upR (upR (upR (upR (upR M 91 fun _ => 0) 92 fun _ => 0) 93 fun _ => 0) 94 fun _ => 0) 95 fun _ => 0) 91 14 (-1)) 96 fun _ => 0) 97 fun _ => 0) 98 fun _ => 0) 99 fun _ => 0) 100 fun _ => 0) 101 fun _ => 0) 102 fun _ => 0) 103 fun _ => 0) 104 fun _ => 0) 105 fun _ => 0) 106 fun _ => 0) 107 fun _ => 0) 108 fun _ => 0) 109 fun _ => 0) 110 fun _ => 0) 111 fun _ => 0) 112 fun _ => 0) 113 fun _ => 0) 113 0 (-1)) 113 1 (-1)) 113 2 (-1)) 113 3 (-1)) 114 fun _ => 0) 115 fun _ => 0) 92 948 0) 92 1 1
theorem fR_91_5 (M : Mm) : chR M 91 5 = 0 := rfl
theorem fR_91_13 (M : Mm) : chR M 91 13 = 0 := rfl
theorem fR_91_14 (M : Mm) : chR M 91 14 = -1 := rfl
theorem fR_92_0 (M : Mm) : chR M 92 0 = 0 := rfl
theorem fR_92_1 (M : Mm) : chR M 92 1 = 1 := rfl
theorem fR_92_2 (M : Mm) : chR M 92 2 = 0 := rfl
theorem fR_92_3 (M : Mm) : chR M 92 3 = 0 := rfl
theorem fR_92_13 (M : Mm) : chR M 92 13 = 0 := rfl
theorem fR_92_14 (M : Mm) : chR M 92 14 = 0 := rfl
theorem fR_92_15 (M : Mm) : chR M 92 15 = 0 := rfl
theorem fR_92_16 (M : Mm) : chR M 92 16 = 0 := rfl
theorem fR_93_0 (M : Mm) : chR M 93 0 = 0 := rfl
theorem fR_93_1 (M : Mm) : chR M 93 1 = 0 := rfl
theorem fR_113_0 (M : Mm) : chR M 113 0 = -1 := rfl
theorem fR_113_1 (M : Mm) : chR M 113 1 = -1 := rfl
theorem fR_113_2 (M : Mm) : chR M 113 2 = -1 := rfl
theorem fR_113_3 (M : Mm) : chR M 113 3 = -1 := rfl
theorem fR_114_0 (M : Mm) : chR M 114 0 = 0 := rfl
theorem fR_114_1 (M : Mm) : chR M 114 1 = 0 := rfl
theorem fR_114_2 (M : Mm) : chR M 114 2 = 0 := rfl
theorem fR_114_3 (M : Mm) : chR M 114 3 = 0 := rfl
theorem fS_3_1 (M : Mm) : chR M 3 1 = M 3 1 := rfl
theorem fS_3_11 (M : Mm) : chR M 3 11 = M 3 11 := rfl
theorem fS_3_12 (M : Mm) : chR M 3 12 = M 3 12 := rfl
theorem fS_12_4 (M : Mm) : chR M 12 4 = M 12 4 := rfl
theorem fS_12_6 (M : Mm) : chR M 12 6 = M 12 6 := rfl
theorem fS_15_1 (M : Mm) : chR M 15 1 = M 15 1 := rfl
theorem fS_15_2 (M : Mm) : chR M 15 2 = M 15 2 := rfl
theorem fS_17_1 (M : Mm) : chR M 17 1 = M 17 1 := rfl
theorem fS_17_2 (M : Mm) : chR M 17 2 = M 17 2 := rfl
theorem fS_2_11 (M : Mm) : chR M 2 11 = M 2 11 := rfl
theorem fS_2_15 (M : Mm) : chR M 2 15 = M 2 15 := rfl
theorem fS_27_4 (M : Mm) : chR M 27 4 = M 27 4 := rfl
theorem fS_37_2 (M : Mm) : chR M 37 2 = M 37 2 := rfl
theorem fS_37_3 (M : Mm) : chR M 37 3 = M 37 3 := rfl
theorem fS_41_0 (M : Mm) : chR M 41 0 = M 41 0 := rfl
theorem fS_41_1 (M : Mm) : chR M 41 1 = M 41 1 := rfl
theorem fS_41_2 (M : Mm) : chR M 41 2 = M 41 2 := rfl
theorem fS_42_2 (M : Mm) : chR M 42 2 = M 42 2 := rfl
theorem fS_42_7 (M : Mm) : chR M 42 7 = M 42 7 := rfl
theorem fS_45_2 (M : Mm) : chR M 45 2 = M 45 2 := rfl
theorem fS_45_7 (M : Mm) : chR M 45 7 = M 45 7 := rfl
theorem fS_48_2 (M : Mm) : chR M 48 2 = M 48 2 := rfl
theorem fS_48_7 (M : Mm) : chR M 48 7 = M 48 7 := rfl
theorem fS_51_0 (M : Mm) : chR M 51 0 = M 51 0 := rfl
theorem fS_51_1 (M : Mm) : chR M 51 1 = M 51 1 := rfl
theorem fS_51_2 (M : Mm) : chR M 51 2 = M 51 2 := rfl
theorem fS_53_0 (M : Mm) : chR M 53 0 = M 53 0 := rfl
theorem fS_53_1 (M : Mm) : chR M 53 1 = M 53 1 := rfl
theorem fS_53_2 (M : Mm) : chR M 53 2 = M 53 2 := rfl
theorem fS_53_3 (M : Mm) : chR M 53 3 = M 53 3 := rfl
theorem fS_53_4 (M : Mm) : chR M 53 4 = M 53 4 := rfl
theorem fS_53_5 (M : Mm) : chR M 53 5 = M 53 5 := rfl
theorem fS_53_6 (M : Mm) : chR M 53 6 = M 53 6 := rfl
theorem fS_53_7 (M : Mm) : chR M 53 7 = M 53 7 := rfl
theorem fS_53_8 (M : Mm) : chR M 53 8 = M 53 8 := rfl
theorem fS_53_9 (M : Mm) : chR M 53 9 = M 53 9 := rfl
theorem fS_64_0 (M : Mm) : chR M 64 0 = M 64 0 := rfl
theorem fS_64_1 (M : Mm) : chR M 64 1 = M 64 1 := rfl
theorem fS_64_2 (M : Mm) : chR M 64 2 = M 64 2 := rfl
theorem fS_64_3 (M : Mm) : chR M 64 3 = M 64 3 := rfl
theorem fS_65_1 (M : Mm) : chR M 65 1 = M 65 1 := rfl
theorem fS_65_2 (M : Mm) : chR M 65 2 = M 65 2 := rfl
theorem fS_67_1 (M : Mm) : chR M 67 1 = M 67 1 := rfl
theorem fS_67_2 (M : Mm) : chR M 67 2 = M 67 2 := rfl
theorem fS_69_1 (M : Mm) : chR M 69 1 = M 69 1 := rfl
theorem fS_69_2 (M : Mm) : chR M 69 2 = M 69 2 := rfl
theorem fS_71_1 (M : Mm) : chR M 71 1 = M 71 1 := rfl
theorem fS_71_2 (M : Mm) : chR M 71 2 = M 71 2 := rfl
theorem fS_73_0 (M : Mm) : chR M 73 0 = M 73 0 := rfl
theorem fS_73_1 (M : Mm) : chR M 73 1 = M 73 1 := rfl
theorem fS_74_0 (M : Mm) : chR M 74 0 = M 74 0 := rfl
theorem fS_74_1 (M : Mm) : chR M 74 1 = M 74 1 := rfl
theorem fSx_0 (M : Mm) (b : Int) : chR M 0 b = M 0 b := rfl
theorem fSx_1 (M : Mm) (b : Int) : chR M 1 b = M 1 b := rfl
theorem fSx_19 (M : Mm) (b : Int) : chR M 19 b = M 19 b := rfl
theorem fSx_20 (M : Mm) (b : Int) : chR M 20 b = M 20 b := rfl
theorem fSx_21 (M : Mm) (b : Int) : chR M 21 b = M 21 b := rfl
theorem fSx_22 (M : Mm) (b : Int) : chR M 22 b = M 22 b := rfl
theorem fSx_23 (M : Mm) (b : Int) : chR M 23 b = M 23 b := rfl
theorem fSx_24 (M : Mm) (b : Int) : chR M 24 b = M 24 b := rfl
theorem fSx_25 (M : Mm) (b : Int) : chR M 25 b = M 25 b := rfl
theorem fSx_m (M : Mm) (b : Int) : chR M (-1) b = M (-1) b := rfl
theorem fc_R {M M2 : Mm} (h : FC M) (a2 : ∀ a b : Int, ¬ a = 96 → ¬ a = 98 → ¬ (a = 91 ∧ b = 19) → M2 a b = chR M a b) : FC M2 := by
  obtain ⟨h0, h1, h2, h3, h4, h5, h6, h7, h8, h9, h10, h11, h12, h13, h14, h15, h16, h17, h18, h19, h20, h21, h22, h23, h24, h25, h26, h27, h28, h29, h30, h31, h32, h33, h34, h35, h36, h37, h38, h39, h40, h41, h42, h43, h44, h45, h46, h47, h48, h49, h50, h51⟩ := h
  exact ⟨(a2 3 1 (by omega) (by omega) (by omega)).trans ((fS_3_1 M).trans h0), (a2 3 11 (by omega) (by omega) (by omega)).trans ((fS_3_11 M).trans h1), (a2 3 12 (by omega) (by omega) (by omega)).trans ((fS_3_12 M).trans h2), (a2 12 4 (by omega) (by omega) (by omega)).trans ((fS_12_4 M).trans h3), (a2 12 6 (by omega) (by omega) (by omega)).trans ((fS_12_6 M).trans h4), (a2 15 1 (by omega) (by omega) (by omega)).trans ((fS_15_1 M).trans h5), (a2 15 2 (by omega) (by omega) (by omega)).trans ((fS_15_2 M).trans h6), (a2 17 1 (by omega) (by omega) (by omega)).trans ((fS_17_1 M).trans h7), (a2 17 2 (by omega) (by omega) (by omega)).trans ((fS_17_2 M).trans h8), (a2 2 11 (by omega) (by omega) (by omega)).trans ((fS_2_11 M).trans h9), (a2 2 15 (by omega) (by omega) (by omega)).trans ((fS_2_15 M).trans h10), (a2 27 4 (by omega) (by omega) (by omega)).trans ((fS_27_4 M).trans h11), (a2 37 2 (by omega) (by omega) (by omega)).trans ((fS_37_2 M).trans h12), (a2 37 3 (by omega) (by omega) (by omega)).trans ((fS_37_3 M).trans h13), (a2 41 0 (by omega) (by omega) (by omega)).trans ((fS_41_0 M).trans h14), (a2 41 1 (by omega) (by omega) (by omega)).trans ((fS_41_1 M).trans h15), (a2 41 2 (by omega) (by omega) (by omega)).trans ((fS_41_2 M).trans h16), (a2 42 2 (by omega) (by omega) (by omega)).trans ((fS_42_2 M).trans h17), (a2 42 7 (by omega) (by omega) (by omega)).trans ((fS_42_7 M).trans h18), (a2 45 2 (by omega) (by omega) (by omega)).trans ((fS_45_2 M).trans h19), (a2 45 7 (by omega) (by omega) (by omega)).trans ((fS_45_7 M).trans h20), (a2 48 2 (by omega) (by omega) (by omega)).trans ((fS_48_2 M).trans h21), (a2 48 7 (by omega) (by omega) (by omega)).trans ((fS_48_7 M).trans h22), (a2 51 0 (by omega) (by omega) (by omega)).trans ((fS_51_0 M).trans h23), (a2 51 1 (by omega) (by omega) (by omega)).trans ((fS_51_1 M).trans h24), (a2 51 2 (by omega) (by omega) (by omega)).trans ((fS_51_2 M).trans h25), (a2 53 0 (by omega) (by omega) (by omega)).trans ((fS_53_0 M).trans h26), (a2 53 1 (by omega) (by omega) (by omega)).trans ((fS_53_1 M).trans h27), (a2 53 2 (by omega) (by omega) (by omega)).trans ((fS_53_2 M).trans h28), (a2 53 3 (by omega) (by omega) (by omega)).trans ((fS_53_3 M).trans h29), (a2 53 4 (by omega) (by omega) (by omega)).trans ((fS_53_4 M).trans h30), (a2 53 5 (by omega) (by omega) (by omega)).trans ((fS_53_5 M).trans h31), (a2 53 6 (by omega) (by omega) (by omega)).trans ((fS_53_6 M).trans h32), (a2 53 7 (by omega) (by omega) (by omega)).trans ((fS_53_7 M).trans h33), (a2 53 8 (by omega) (by omega) (by omega)).trans ((fS_53_8 M).trans h34), (a2 53 9 (by omega) (by omega) (by omega)).trans ((fS_53_9 M).trans h35), (a2 64 0 (by omega) (by omega) (by omega)).trans ((fS_64_0 M).trans h36), (a2 64 1 (by omega) (by omega) (by omega)).trans ((fS_64_1 M).trans h37), (a2 64 2 (by omega) (by omega) (by omega)).trans ((fS_64_2 M).trans h38), (a2 64 3 (by omega) (by omega) (by omega)).trans ((fS_64_3 M).trans h39), (a2 65 1 (by omega) (by omega) (by omega)).trans ((fS_65_1 M).trans h40), (a2 65 2 (by omega) (by omega) (by omega)).trans ((fS_65_2 M).trans h41), (a2 67 1 (by omega) (by omega) (by omega)).trans ((fS_67_1 M).trans h42), (a2 67 2 (by omega) (by omega) (by omega)).trans ((fS_67_2 M).trans h43), (a2 69 1 (by omega) (by omega) (by omega)).trans ((fS_69_1 M).trans h44), (a2 69 2 (by omega) (by omega) (by omega)).trans ((fS_69_2 M).trans h45), (a2 71 1 (by omega) (by omega) (by omega)).trans ((fS_71_1 M).trans h46), (a2 71 2 (by omega) (by omega) (by omega)).trans ((fS_71_2 M).trans h47), (a2 73 0 (by omega) (by omega) (by omega)).trans ((fS_73_0 M).trans h48), (a2 73 1 (by omega) (by omega) (by omega)).trans ((fS_73_1 M).trans h49), (a2 74 0 (by omega) (by omega) (by omega)).trans ((fS_74_0 M).trans h50), (a2 74 1 (by omega) (by omega) (by omega)).trans ((fS_74_1 M).trans h51)⟩
theorem st_R {M M2 : Mm} (s1 : StkOK 1 M) (a2 : ∀ a b : Int, ¬ a = 96 → ¬ a = 98 → ¬ (a = 91 ∧ b = 19) → M2 a b = chR M a b) : StkOK 1 M2 := stk_fr s1 (fun a b g1 g2 => by
  rw [a2 a b (by omega) (by omega) (by omega)]
  have hc : a = 1 ∨ a = 19 ∨ a = 20 ∨ a = 21 ∨ a = 22 ∨ a = 23 ∨ a = 24 ∨ a = 25 := by omega
  rcases hc with rfl | rfl | rfl | rfl | rfl | rfl | rfl | rfl
  · exact fSx_1 M b
  · exact fSx_19 M b
  · exact fSx_20 M b
  · exact fSx_21 M b
  · exact fSx_22 M b
  · exact fSx_23 M b
  · exact fSx_24 M b
  · exact fSx_25 M b)
set_option maxRecDepth 100000 in
theorem i_ref {D : Nat} {M : Mm} {K : Po} (hD : 9 < D) (hK : ∀ M' : Mm, (∀ a b : Int, ¬ a = 96 → ¬ a = 98 → ¬ (a = 91 ∧ b = 19) → M' a b = chR M a b) → RefOK 1 M' → K (9, 0) GT M') : CallP D 179 [(2, 91)] (93, [[], [], [3, 12, 19, 27, 36, 41, 37, 38, 51, 52, 53, 0, 64, 73, 74, 0], [4, 0, 0, 0, 0, 0, 0, 5, 0, 0, 0, 0, 0], [], [6, 7, 8, 10, 0, 0, 0], [], [], [9, 0, 0], [], [11, 0, 0], [], [13, 14, 15, 17, 0, 0, 0], [], [], [16, 0, 0], [], [18, 0, 0], [], [0, 0, 0, 20, 21, 22, 23, 24, 25, 1, 26], [], [], [], [], [], [], [], [19, 12, 28, 29, 0, 30, 31, 32, 33], [], [], [], [], [], [], [], [], [19, 27, 34, 0, 0], [19, 27, 0, 0], [19, 27, 34, 35, 39, 40, 0], [], [], [], [19, 27, 0, 43, 44, 34, 35, 0], [], [], [19, 27, 0, 46, 47, 34, 35, 0], [], [], [19, 27, 0, 49, 50, 34, 35, 0], [], [], [0, 0, 0], [0, 0, 0], [], [0, 0, 0], [0, 0, 0], [0, 0, 0], [0, 0, 0], [0, 0, 0], [0, 0, 0], [0, 0, 0], [0, 0, 0], [0, 0, 0], [0, 0, 0], [], [66, 0, 0], [], [68, 0, 0], [], [70, 0, 0], [], [72, 0, 0], [], [], [], [76, 77, 78, 80, 0, 0, 0], [], [], [79, 0, 0], [], [81, 0, 0], [], [0, 0, 0], [84, 85, 86, 88, 0, 0, 0], [], [], [87, 0, 0], [], [89, 0, 0], [], [0, 0, 0], [0, 0, 0, 0, 0, 0, 0, 0, 0, 0, 0, 0, 0, 0, 0, 0, 0, 0, 0, 0, 0, 0, 0, 0, 0, 0, 0, 0, 0, 0, 0, 0, 0, 0, 0, 0, 0, 0, 0, 0, 0], [], [], [], [], [], [], [], [], [], [], [], [], [], [], [], [], [], [], [], [], [], [], [], []]) (upR M 91 fun _ => 0) K := by
  refine call_run (by omega) (fun d hd => ?_)
  refine ir_1 (by omega) ?_
  refine wt_run 60 cd_12_init [] rfl (by decide) ?_
  repeat ((conv => whnf); (try simp (disch := omega) only [gl_2_0, gl_2_1, gl_2_2, gl_2_3, gl_2_4, gl_2_5, gl_2_6, gl_2_7, gl_2_8, gl_2_9, gl_2_10, gl_2_12, gl_2_13, gl_2_14, gl_3_0, gl_3_7, gl_5_0, gl_5_1, gl_5_2, gl_5_3, gl_8_0, gl_10_0, gl_12_0, gl_12_1, gl_12_2, gl_12_3, gl_15_0, gl_17_0, gl_19_3, gl_19_4, gl_19_5, gl_19_6, gl_19_7, gl_19_8, gl_19_9, gl_19_10, gl_27_0, gl_27_1, gl_27_2, gl_27_3, gl_27_5, gl_27_6, gl_27_7, gl_27_8, gl_36_0, gl_36_1, gl_36_2, gl_37_0, gl_37_1, gl_38_0, gl_38_1, gl_38_2, gl_38_3, gl_38_4, gl_38_5, gl_42_0, gl_42_1, gl_42_3, gl_42_4, gl_42_5, gl_42_6, gl_45_0, gl_45_1, gl_45_3, gl_45_4, gl_45_5, gl_45_6, gl_48_0, gl_48_1, gl_48_3, gl_48_4, gl_48_5, gl_48_6, gl_65_0, gl_67_0, gl_69_0, gl_71_0, gl_75_0, gl_75_1, gl_75_2, gl_75_3, gl_78_0, gl_80_0, gl_83_0, gl_83_1, gl_83_2, gl_83_3, gl_86_0, gl_88_0, gl_91_1, gl_91_2, gl_91_3, gl_91_4, gl_91_16, gl_91_17, gl_91_18, gl_91_20, gl_91_21, gl_91_22, gl_91_25, gl_91_26, gl_91_27, gl_91_28, gl_91_29, gl_91_30, gl_91_31, gl_91_32, gl_91_33, gl_91_36, gl_91_37, gl_91_38, gl_91_39, gl_91_40, sl_1, sl_4, sl_6, sl_7, sl_9, sl_11, sl_13, sl_14, sl_16, sl_18, sl_20, sl_21, sl_22, sl_23, sl_24, sl_25, sl_26, sl_28, sl_29, sl_30, sl_31, sl_32, sl_33, sl_34, sl_35, sl_39, sl_40, sl_41, sl_43, sl_44, sl_46, sl_47, sl_49, sl_50, sl_53, sl_64, sl_66, sl_68, sl_70, sl_72, sl_73, sl_74, sl_76, sl_77, sl_79, sl_81, sl_84, sl_85, sl_87, sl_89, sl_92, sl_93, sl_94, sl_95, sl_96, sl_97, sl_98, sl_99, sl_100, sl_101, sl_102, sl_103, sl_104, sl_105, sl_106, sl_107, sl_108, sl_109, sl_110, sl_111, sl_112, sl_113, sl_114, sl_115, up_off, up_at, cm_lt, cm_gt, cq_eq, and1, dv_n, ml_n, ml_1, b01_t, b01_f]); (first | refine And.intro (fun _ => ?_) (fun hc => absurd trivial hc) | refine And.intro (fun hc => False.elim hc) (fun _ => ?_) | refine And.intro (fun hc => absurd hc (by omega)) (fun _ => ?_) | refine And.intro (fun _ => ?_) (fun hc => absurd (by omega) hc) | refine And.intro (by omega) ?_ | refine And.intro (Or.inl trivial) ?_ | refine And.intro (Or.inr trivial) ?_))
  conv => whnf
  try simp (disch := omega) only [gl_2_0, gl_2_1, gl_2_2, gl_2_3, gl_2_4, gl_2_5, gl_2_6, gl_2_7, gl_2_8, gl_2_9, gl_2_10, gl_2_12, gl_2_13, gl_2_14, gl_3_0, gl_3_7, gl_5_0, gl_5_1, gl_5_2, gl_5_3, gl_8_0, gl_10_0, gl_12_0, gl_12_1, gl_12_2, gl_12_3, gl_15_0, gl_17_0, gl_19_3, gl_19_4, gl_19_5, gl_19_6, gl_19_7, gl_19_8, gl_19_9, gl_19_10, gl_27_0, gl_27_1, gl_27_2, gl_27_3, gl_27_5, gl_27_6, gl_27_7, gl_27_8, gl_36_0, gl_36_1, gl_36_2, gl_37_0, gl_37_1, gl_38_0, gl_38_1, gl_38_2, gl_38_3, gl_38_4, gl_38_5, gl_42_0, gl_42_1, gl_42_3, gl_42_4, gl_42_5, gl_42_6, gl_45_0, gl_45_1, gl_45_3, gl_45_4, gl_45_5, gl_45_6, gl_48_0, gl_48_1, gl_48_3, gl_48_4, gl_48_5, gl_48_6, gl_65_0, gl_67_0, gl_69_0, gl_71_0, gl_75_0, gl_75_1, gl_75_2, gl_75_3, gl_78_0, gl_80_0, gl_83_0, gl_83_1, gl_83_2, gl_83_3, gl_86_0, gl_88_0, gl_91_1, gl_91_2, gl_91_3, gl_91_4, gl_91_16, gl_91_17, gl_91_18, gl_91_20, gl_91_21, gl_91_22, gl_91_25, gl_91_26, gl_91_27, gl_91_28, gl_91_29, gl_91_30, gl_91_31, gl_91_32, gl_91_33, gl_91_36, gl_91_37, gl_91_38, gl_91_39, gl_91_40, sl_1, sl_4, sl_6, sl_7, sl_9, sl_11, sl_13, sl_14, sl_16, sl_18, sl_20, sl_21, sl_22, sl_23, sl_24, sl_25, sl_26, sl_28, sl_29, sl_30, sl_31, sl_32, sl_33, sl_34, sl_35, sl_39, sl_40, sl_41, sl_43, sl_44, sl_46, sl_47, sl_49, sl_50, sl_53, sl_64, sl_66, sl_68, sl_70, sl_72, sl_73, sl_74, sl_76, sl_77, sl_79, sl_81, sl_84, sl_85, sl_87, sl_89, sl_92, sl_93, sl_94, sl_95, sl_96, sl_97, sl_98, sl_99, sl_100, sl_101, sl_102, sl_103, sl_104, sl_105, sl_106, sl_107, sl_108, sl_109, sl_110, sl_111, sl_112, sl_113, sl_114, sl_115, up_off, up_at, cm_lt, cm_gt, cq_eq, and1, dv_n, ml_n, ml_1, b01_t, b01_f]
  refine ct_plain92 (D := d) (by omega) ?_
  repeat ((conv => whnf); (try simp (disch := omega) only [gl_2_0, gl_2_1, gl_2_2, gl_2_3, gl_2_4, gl_2_5, gl_2_6, gl_2_7, gl_2_8, gl_2_9, gl_2_10, gl_2_12, gl_2_13, gl_2_14, gl_3_0, gl_3_7, gl_5_0, gl_5_1, gl_5_2, gl_5_3, gl_8_0, gl_10_0, gl_12_0, gl_12_1, gl_12_2, gl_12_3, gl_15_0, gl_17_0, gl_19_3, gl_19_4, gl_19_5, gl_19_6, gl_19_7, gl_19_8, gl_19_9, gl_19_10, gl_27_0, gl_27_1, gl_27_2, gl_27_3, gl_27_5, gl_27_6, gl_27_7, gl_27_8, gl_36_0, gl_36_1, gl_36_2, gl_37_0, gl_37_1, gl_38_0, gl_38_1, gl_38_2, gl_38_3, gl_38_4, gl_38_5, gl_42_0, gl_42_1, gl_42_3, gl_42_4, gl_42_5, gl_42_6, gl_45_0, gl_45_1, gl_45_3, gl_45_4, gl_45_5, gl_45_6, gl_48_0, gl_48_1, gl_48_3, gl_48_4, gl_48_5, gl_48_6, gl_65_0, gl_67_0, gl_69_0, gl_71_0, gl_75_0, gl_75_1, gl_75_2, gl_75_3, gl_78_0, gl_80_0, gl_83_0, gl_83_1, gl_83_2, gl_83_3, gl_86_0, gl_88_0, gl_91_1, gl_91_2, gl_91_3, gl_91_4, gl_91_16, gl_91_17, gl_91_18, gl_91_20, gl_91_21, gl_91_22, gl_91_25, gl_91_26, gl_91_27, gl_91_28, gl_91_29, gl_91_30, gl_91_31, gl_91_32, gl_91_33, gl_91_36, gl_91_37, gl_91_38, gl_91_39, gl_91_40, sl_1, sl_4, sl_6, sl_7, sl_9, sl_11, sl_13, sl_14, sl_16, sl_18, sl_20, sl_21, sl_22, sl_23, sl_24, sl_25, sl_26, sl_28, sl_29, sl_30, sl_31, sl_32, sl_33, sl_34, sl_35, sl_39, sl_40, sl_41, sl_43, sl_44, sl_46, sl_47, sl_49, sl_50, sl_53, sl_64, sl_66, sl_68, sl_70, sl_72, sl_73, sl_74, sl_76, sl_77, sl_79, sl_81, sl_84, sl_85, sl_87, sl_89, sl_92, sl_93, sl_94, sl_95, sl_96, sl_97, sl_98, sl_99, sl_100, sl_101, sl_102, sl_103, sl_104, sl_105, sl_106, sl_107, sl_108, sl_109, sl_110, sl_111, sl_112, sl_113, sl_114, sl_115, up_off, up_at, cm_lt, cm_gt, cq_eq, and1, dv_n, ml_n, ml_1, b01_t, b01_f]); (first | refine And.intro (fun _ => ?_) (fun hc => absurd trivial hc) | refine And.intro (fun hc => False.elim hc) (fun _ => ?_) | refine And.intro (fun hc => absurd hc (by omega)) (fun _ => ?_) | refine And.intro (fun _ => ?_) (fun hc => absurd (by omega) hc) | refine And.intro (by omega) ?_ | refine And.intro (Or.inl trivial) ?_ | refine And.intro (Or.inr trivial) ?_))
  conv => whnf
  try simp (disch := omega) only [gl_2_0, gl_2_1, gl_2_2, gl_2_3, gl_2_4, gl_2_5, gl_2_6, gl_2_7, gl_2_8, gl_2_9, gl_2_10, gl_2_12, gl_2_13, gl_2_14, gl_3_0, gl_3_7, gl_5_0, gl_5_1, gl_5_2, gl_5_3, gl_8_0, gl_10_0, gl_12_0, gl_12_1, gl_12_2, gl_12_3, gl_15_0, gl_17_0, gl_19_3, gl_19_4, gl_19_5, gl_19_6, gl_19_7, gl_19_8, gl_19_9, gl_19_10, gl_27_0, gl_27_1, gl_27_2, gl_27_3, gl_27_5, gl_27_6, gl_27_7, gl_27_8, gl_36_0, gl_36_1, gl_36_2, gl_37_0, gl_37_1, gl_38_0, gl_38_1, gl_38_2, gl_38_3, gl_38_4, gl_38_5, gl_42_0, gl_42_1, gl_42_3, gl_42_4, gl_42_5, gl_42_6, gl_45_0, gl_45_1, gl_45_3, gl_45_4, gl_45_5, gl_45_6, gl_48_0, gl_48_1, gl_48_3, gl_48_4, gl_48_5, gl_48_6, gl_65_0, gl_67_0, gl_69_0, gl_71_0, gl_75_0, gl_75_1, gl_75_2, gl_75_3, gl_78_0, gl_80_0, gl_83_0, gl_83_1, gl_83_2, gl_83_3, gl_86_0, gl_88_0, gl_91_1, gl_91_2, gl_91_3, gl_91_4, gl_91_16, gl_91_17, gl_91_18, gl_91_20, gl_91_21, gl_91_22, gl_91_25, gl_91_26, gl_91_27, gl_91_28, gl_91_29, gl_91_30, gl_91_31, gl_91_32, gl_91_33, gl_91_36, gl_91_37, gl_91_38, gl_91_39, gl_91_40, sl_1, sl_4, sl_6, sl_7, sl_9, sl_11, sl_13, sl_14, sl_16, sl_18, sl_20, sl_21, sl_22, sl_23, sl_24, sl_25, sl_26, sl_28, sl_29, sl_30, sl_31, sl_32, sl_33, sl_34, sl_35, sl_39, sl_40, sl_41, sl_43, sl_44, sl_46, sl_47, sl_49, sl_50, sl_53, sl_64, sl_66, sl_68, sl_70, sl_72, sl_73, sl_74, sl_76, sl_77, sl_79, sl_81, sl_84, sl_85, sl_87, sl_89, sl_92, sl_93, sl_94, sl_95, sl_96, sl_97, sl_98, sl_99, sl_100, sl_101, sl_102, sl_103, sl_104, sl_105, sl_106, sl_107, sl_108, sl_109, sl_110, sl_111, sl_112, sl_113, sl_114, sl_115, up_off, up_at, cm_lt, cm_gt, cq_eq, and1, dv_n, ml_n, ml_1, b01_t, b01_f]
  refine ct_laysAll (D := d) (n := 1) (by omega) (by omega) (by omega) (by rw [up_at]; rfl) (fun M2 a2 b2 => ?_)
  have q := hK M2 a2 b2
  repeat ((conv => whnf); (try simp (disch := omega) only [gl_2_0, gl_2_1, gl_2_2, gl_2_3, gl_2_4, gl_2_5, gl_2_6, gl_2_7, gl_2_8, gl_2_9, gl_2_10, gl_2_12, gl_2_13, gl_2_14, gl_3_0, gl_3_7, gl_5_0, gl_5_1, gl_5_2, gl_5_3, gl_8_0, gl_10_0, gl_12_0, gl_12_1, gl_12_2, gl_12_3, gl_15_0, gl_17_0, gl_19_3, gl_19_4, gl_19_5, gl_19_6, gl_19_7, gl_19_8, gl_19_9, gl_19_10, gl_27_0, gl_27_1, gl_27_2, gl_27_3, gl_27_5, gl_27_6, gl_27_7, gl_27_8, gl_36_0, gl_36_1, gl_36_2, gl_37_0, gl_37_1, gl_38_0, gl_38_1, gl_38_2, gl_38_3, gl_38_4, gl_38_5, gl_42_0, gl_42_1, gl_42_3, gl_42_4, gl_42_5, gl_42_6, gl_45_0, gl_45_1, gl_45_3, gl_45_4, gl_45_5, gl_45_6, gl_48_0, gl_48_1, gl_48_3, gl_48_4, gl_48_5, gl_48_6, gl_65_0, gl_67_0, gl_69_0, gl_71_0, gl_75_0, gl_75_1, gl_75_2, gl_75_3, gl_78_0, gl_80_0, gl_83_0, gl_83_1, gl_83_2, gl_83_3, gl_86_0, gl_88_0, gl_91_1, gl_91_2, gl_91_3, gl_91_4, gl_91_16, gl_91_17, gl_91_18, gl_91_20, gl_91_21, gl_91_22, gl_91_25, gl_91_26, gl_91_27, gl_91_28, gl_91_29, gl_91_30, gl_91_31, gl_91_32, gl_91_33, gl_91_36, gl_91_37, gl_91_38, gl_91_39, gl_91_40, sl_1, sl_4, sl_6, sl_7, sl_9, sl_11, sl_13, sl_14, sl_16, sl_18, sl_20, sl_21, sl_22, sl_23, sl_24, sl_25, sl_26, sl_28, sl_29, sl_30, sl_31, sl_32, sl_33, sl_34, sl_35, sl_39, sl_40, sl_41, sl_43, sl_44, sl_46, sl_47, sl_49, sl_50, sl_53, sl_64, sl_66, sl_68, sl_70, sl_72, sl_73, sl_74, sl_76, sl_77, sl_79, sl_81, sl_84, sl_85, sl_87, sl_89, sl_92, sl_93, sl_94, sl_95, sl_96, sl_97, sl_98, sl_99, sl_100, sl_101, sl_102, sl_103, sl_104, sl_105, sl_106, sl_107, sl_108, sl_109, sl_110, sl_111, sl_112, sl_113, sl_114, sl_115, up_off, up_at, cm_lt, cm_gt, cq_eq, and1, dv_n, ml_n, ml_1, b01_t, b01_f]); (first | refine And.intro (fun _ => ?_) (fun hc => absurd trivial hc) | refine And.intro (fun hc => False.elim hc) (fun _ => ?_) | refine And.intro (fun hc => absurd hc (by omega)) (fun _ => ?_) | refine And.intro (fun _ => ?_) (fun hc => absurd (by omega) hc) | refine And.intro (by omega) ?_ | refine And.intro (Or.inl trivial) ?_ | refine And.intro (Or.inr trivial) ?_))
  conv => whnf
  try simp (disch := omega) only [gl_2_0, gl_2_1, gl_2_2, gl_2_3, gl_2_4, gl_2_5, gl_2_6, gl_2_7, gl_2_8, gl_2_9, gl_2_10, gl_2_12, gl_2_13, gl_2_14, gl_3_0, gl_3_7, gl_5_0, gl_5_1, gl_5_2, gl_5_3, gl_8_0, gl_10_0, gl_12_0, gl_12_1, gl_12_2, gl_12_3, gl_15_0, gl_17_0, gl_19_3, gl_19_4, gl_19_5, gl_19_6, gl_19_7, gl_19_8, gl_19_9, gl_19_10, gl_27_0, gl_27_1, gl_27_2, gl_27_3, gl_27_5, gl_27_6, gl_27_7, gl_27_8, gl_36_0, gl_36_1, gl_36_2, gl_37_0, gl_37_1, gl_38_0, gl_38_1, gl_38_2, gl_38_3, gl_38_4, gl_38_5, gl_42_0, gl_42_1, gl_42_3, gl_42_4, gl_42_5, gl_42_6, gl_45_0, gl_45_1, gl_45_3, gl_45_4, gl_45_5, gl_45_6, gl_48_0, gl_48_1, gl_48_3, gl_48_4, gl_48_5, gl_48_6, gl_65_0, gl_67_0, gl_69_0, gl_71_0, gl_75_0, gl_75_1, gl_75_2, gl_75_3, gl_78_0, gl_80_0, gl_83_0, gl_83_1, gl_83_2, gl_83_3, gl_86_0, gl_88_0, gl_91_1, gl_91_2, gl_91_3, gl_91_4, gl_91_16, gl_91_17, gl_91_18, gl_91_20, gl_91_21, gl_91_22, gl_91_25, gl_91_26, gl_91_27, gl_91_28, gl_91_29, gl_91_30, gl_91_31, gl_91_32, gl_91_33, gl_91_36, gl_91_37, gl_91_38, gl_91_39, gl_91_40, sl_1, sl_4, sl_6, sl_7, sl_9, sl_11, sl_13, sl_14, sl_16, sl_18, sl_20, sl_21, sl_22, sl_23, sl_24, sl_25, sl_26, sl_28, sl_29, sl_30, sl_31, sl_32, sl_33, sl_34, sl_35, sl_39, sl_40, sl_41, sl_43, sl_44, sl_46, sl_47, sl_49, sl_50, sl_53, sl_64, sl_66, sl_68, sl_70, sl_72, sl_73, sl_74, sl_76, sl_77, sl_79, sl_81, sl_84, sl_85, sl_87, sl_89, sl_92, sl_93, sl_94, sl_95, sl_96, sl_97, sl_98, sl_99, sl_100, sl_101, sl_102, sl_103, sl_104, sl_105, sl_106, sl_107, sl_108, sl_109, sl_110, sl_111, sl_112, sl_113, sl_114, sl_115, up_off, up_at, cm_lt, cm_gt, cq_eq, and1, dv_n, ml_n, ml_1, b01_t, b01_f]
  exact q
