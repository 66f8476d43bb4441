/-! THE CONSTRUCTORS: of the class, statement by statement -/
theorem upR_off {M : Mm} {j a b : Int} {f : Int → Int} (h : ¬ a = j) : upR M j f a b = M a b := if_neg h
set_option maxRecDepth 100000 in
set_option maxHeartbeats 16000000 in
theorem ic_1 {d : Nat} {M : Mm} {Q : Po} (hd : 8 < d) (h : Run d 91 119 15 [(0, (2, 2))] [] (12, [[], [], [3, 0, 0, 0, 0, 0, 0, 0, 0, 0, 0, 0, 0, 0, 0, 0], [4, 0, 0, 0, 0, 0, 0, 5, 0, 0, 0, 0, 0], [], [6, 7, 8, 10, 0, 0, 0], [], [], [9, 0, 0], [], [11, 0, 0], []]) (up2 (up2 (up2 (up2 (upR (upR (upR (upR (upR (upR (upR (upR (upR M 3 fun _ => 0) 4 fun _ => 0) 5 fun _ => 0) 6 fun _ => 0) 7 fun _ => 0) 8 fun _ => 0) 9 fun _ => 0) 10 fun _ => 0) 11 fun _ => 0) 5 4 1) 3 8 8) 3 9 265) 3 12 (-1)) Q) : Run d 91 119 0 [(0, (2, 2))] [] (3, [[], [], [0, 0, 0, 0, 0, 0, 0, 0, 0, 0, 0, 0, 0, 0, 0, 0]]) M Q := by
  refine wt_run 120 cd_11_init [(15, [0])] rfl (by decide) ?_
  repeat ((conv => whnf); (first | refine And.intro (fun _ => ?_) (fun hc => absurd (by decide) hc) | refine And.intro (fun hc => absurd hc (by decide)) (fun _ => ?_) | refine And.intro (by decide) ?_ | refine And.intro rfl ?_))
  conv => whnf
  refine call_run (by omega) (fun dd1 hdd1 => ?_)
  refine wt_run 90 cd_7_init [] rfl (by decide) ?_
  repeat ((conv => whnf); (first | refine And.intro (fun _ => ?_) (fun hc => absurd (by decide) hc) | refine And.intro (fun hc => absurd hc (by decide)) (fun _ => ?_) | refine And.intro (by decide) ?_ | refine And.intro rfl ?_))
  conv => whnf
  refine call_run (by omega) (fun dd2 hdd2 => ?_)
  refine wt_run 90 cd_6_init [] rfl (by decide) ?_
  repeat ((conv => whnf); (first | refine And.intro (fun _ => ?_) (fun hc => absurd (by decide) hc) | refine And.intro (fun hc => absurd hc (by decide)) (fun _ => ?_) | refine And.intro (by decide) ?_ | refine And.intro rfl ?_))
  conv => whnf
  refine call_run (by omega) (fun dd3 hdd3 => ?_)
  refine wt_run 90 cd_4_init [] rfl (by decide) ?_
  repeat ((conv => whnf); (first | refine And.intro (fun _ => ?_) (fun hc => absurd (by decide) hc) | refine And.intro (fun hc => absurd hc (by decide)) (fun _ => ?_) | refine And.intro (by decide) ?_ | refine And.intro rfl ?_))
  conv => whnf
  refine call_run (by omega) (fun dd4 hdd4 => ?_)
  refine wt_run 90 cd_4_init [] rfl (by decide) ?_
  repeat ((conv => whnf); (first | refine And.intro (fun _ => ?_) (fun hc => absurd (by decide) hc) | refine And.intro (fun hc => absurd hc (by decide)) (fun _ => ?_) | refine And.intro (by decide) ?_ | refine And.intro rfl ?_))
  conv => whnf
  exact h
set_option maxRecDepth 100000 in
set_option maxHeartbeats 16000000 in
theorem ic_2 {d : Nat} {M : Mm} {Q : Po} (hd : 8 < d) (h : Run d 91 119 26 [(0, (2, 2))] [] (19, [[], [], [3, 12, 0, 0, 0, 0, 0, 0, 0, 0, 0, 0, 0, 0, 0, 0], [4, 0, 0, 0, 0, 0, 0, 5, 0, 0, 0, 0, 0], [], [6, 7, 8, 10, 0, 0, 0], [], [], [9, 0, 0], [], [11, 0, 0], [], [13, 14, 15, 17, 0, 0, 0], [], [], [16, 0, 0], [], [18, 0, 0], []]) (up2 (upR (upR (upR (upR (upR (upR (upR M 12 fun _ => 0) 13 fun _ => 0) 14 fun _ => 0) 15 fun _ => 0) 16 fun _ => 0) 17 fun _ => 0) 18 fun _ => 0) 12 4 1) Q) : Run d 91 119 15 [(0, (2, 2))] [] (12, [[], [], [3, 0, 0, 0, 0, 0, 0, 0, 0, 0, 0, 0, 0, 0, 0, 0], [4, 0, 0, 0, 0, 0, 0, 5, 0, 0, 0, 0, 0], [], [6, 7, 8, 10, 0, 0, 0], [], [], [9, 0, 0], [], [11, 0, 0], []]) M Q := by
  refine wt_run 120 cd_11_init [(26, [0])] rfl (by decide) ?_
  repeat ((conv => whnf); (first | refine And.intro (fun _ => ?_) (fun hc => absurd (by decide) hc) | refine And.intro (fun hc => absurd hc (by decide)) (fun _ => ?_) | refine And.intro (by decide) ?_ | refine And.intro rfl ?_))
  conv => whnf
  refine call_run (by omega) (fun dd1 hdd1 => ?_)
  refine wt_run 90 cd_6_init [] rfl (by decide) ?_
  repeat ((conv => whnf); (first | refine And.intro (fun _ => ?_) (fun hc => absurd (by decide) hc) | refine And.intro (fun hc => absurd hc (by decide)) (fun _ => ?_) | refine And.intro (by decide) ?_ | refine And.intro rfl ?_))
  conv => whnf
  refine call_run (by omega) (fun dd2 hdd2 => ?_)
  refine wt_run 90 cd_4_init [] rfl (by decide) ?_
  repeat ((conv => whnf); (first | refine And.intro (fun _ => ?_) (fun hc => absurd (by decide) hc) | refine And.intro (fun hc => absurd hc (by decide)) (fun _ => ?_) | refine And.intro (by decide) ?_ | refine And.intro rfl ?_))
  conv => whnf
  refine call_run (by omega) (fun dd3 hdd3 => ?_)
  refine wt_run 90 cd_4_init [] rfl (by decide) ?_
  repeat ((conv => whnf); (first | refine And.intro (fun _ => ?_) (fun hc => absurd (by decide) hc) | refine And.intro (fun hc => absurd hc (by decide)) (fun _ => ?_) | refine And.intro (by decide) ?_ | refine And.intro rfl ?_))
  conv => whnf
  exact h
set_option maxRecDepth 100000 in
set_option maxHeartbeats 16000000 in
theorem ic_3 {d : Nat} {M : Mm} {Q : Po} (hd : 8 < d) (h : ∀ M1 : Mm, (∀ a b : Int, ¬ (19 ≤ a ∧ a ≤ 26) → M1 a b = (upR (upR (upR (upR (upR (upR (upR (upR M 19 fun _ => 0) 20 fun _ => 0) 21 fun _ => 0) 22 fun _ => 0) 23 fun _ => 0) 24 fun _ => 0) 25 fun _ => 0) 26 fun _ => 0) a b) → StkOK 1 M1 → Run d 91 119 37 [(0, (2, 2))] [] (27, [[], [], [3, 12, 19, 0, 0, 0, 0, 0, 0, 0, 0, 0, 0, 0, 0, 0], [4, 0, 0, 0, 0, 0, 0, 5, 0, 0, 0, 0, 0], [], [6, 7, 8, 10, 0, 0, 0], [], [], [9, 0, 0], [], [11, 0, 0], [], [13, 14, 15, 17, 0, 0, 0], [], [], [16, 0, 0], [], [18, 0, 0], [], [0, 0, 0, 20, 21, 22, 23, 24, 25, 26], [], [], [], [], [], [], []]) M1 Q) : Run d 91 119 26 [(0, (2, 2))] [] (19, [[], [], [3, 12, 0, 0, 0, 0, 0, 0, 0, 0, 0, 0, 0, 0, 0, 0], [4, 0, 0, 0, 0, 0, 0, 5, 0, 0, 0, 0, 0], [], [6, 7, 8, 10, 0, 0, 0], [], [], [9, 0, 0], [], [11, 0, 0], [], [13, 14, 15, 17, 0, 0, 0], [], [], [16, 0, 0], [], [18, 0, 0], []]) M Q := by
  refine wt_run 120 cd_11_init [(37, [0])] rfl (by decide) ?_
  repeat ((conv => whnf); (first | refine And.intro (fun _ => ?_) (fun hc => absurd (by decide) hc) | refine And.intro (fun hc => absurd hc (by decide)) (fun _ => ?_) | refine And.intro (by decide) ?_ | refine And.intro rfl ?_))
  conv => whnf
  refine call_run (by omega) (fun dd1 hdd1 => ?_)
  refine wt_run 90 cd_9_init [] rfl (by decide) ?_
  repeat ((conv => whnf); (first | refine And.intro (fun _ => ?_) (fun hc => absurd (by decide) hc) | refine And.intro (fun hc => absurd hc (by decide)) (fun _ => ?_) | refine And.intro (by decide) ?_ | refine And.intro rfl ?_))
  conv => whnf
  refine i_layOut (D := dd1) (by omega) rfl (fun M1 a1 s1 => ?_)
  repeat ((conv => whnf); (first | refine And.intro (fun _ => ?_) (fun hc => absurd (by decide) hc) | refine And.intro (fun hc => absurd hc (by decide)) (fun _ => ?_) | refine And.intro (by decide) ?_ | refine And.intro rfl ?_))
  conv => whnf
  exact h M1 a1 s1
set_option maxRecDepth 100000 in
set_option maxHeartbeats 16000000 in
theorem ic_4 {d : Nat} {M : Mm} {Q : Po} (hd : 8 < d) (h : Run d 91 119 56 [(0, (2, 2))] [] (34, [[], [], [3, 12, 19, 27, 0, 0, 0, 0, 0, 0, 0, 0, 0, 0, 0, 0], [4, 0, 0, 0, 0, 0, 0, 5, 0, 0, 0, 0, 0], [], [6, 7, 8, 10, 0, 0, 0], [], [], [9, 0, 0], [], [11, 0, 0], [], [13, 14, 15, 17, 0, 0, 0], [], [], [16, 0, 0], [], [18, 0, 0], [], [0, 0, 0, 20, 21, 22, 23, 24, 25, 26], [], [], [], [], [], [], [], [19, 12, 28, 29, 0, 30, 31, 32, 33], [], [], [], [], [], []]) (upR (upR (upR (upR (up2 (upR (upR (upR M 27 fun _ => 0) 28 fun _ => 0) 29 fun _ => 0) 27 4 (-1)) 30 fun _ => 0) 31 fun _ => 0) 32 fun _ => 0) 33 fun _ => 0) Q) : Run d 91 119 37 [(0, (2, 2))] [] (27, [[], [], [3, 12, 19, 0, 0, 0, 0, 0, 0, 0, 0, 0, 0, 0, 0, 0], [4, 0, 0, 0, 0, 0, 0, 5, 0, 0, 0, 0, 0], [], [6, 7, 8, 10, 0, 0, 0], [], [], [9, 0, 0], [], [11, 0, 0], [], [13, 14, 15, 17, 0, 0, 0], [], [], [16, 0, 0], [], [18, 0, 0], [], [0, 0, 0, 20, 21, 22, 23, 24, 25, 26], [], [], [], [], [], [], []]) M Q := by
  refine wt_run 120 cd_11_init [(56, [0])] rfl (by decide) ?_
  repeat ((conv => whnf); (first | refine And.intro (fun _ => ?_) (fun hc => absurd (by decide) hc) | refine And.intro (fun hc => absurd hc (by decide)) (fun _ => ?_) | refine And.intro (by decide) ?_ | refine And.intro rfl ?_))
  conv => whnf
  refine call_run (by omega) (fun dd1 hdd1 => ?_)
  refine wt_run 90 cd_3_init [] rfl (by decide) ?_
  repeat ((conv => whnf); (first | refine And.intro (fun _ => ?_) (fun hc => absurd (by decide) hc) | refine And.intro (fun hc => absurd hc (by decide)) (fun _ => ?_) | refine And.intro (by decide) ?_ | refine And.intro rfl ?_))
  conv => whnf
  exact h
set_option maxRecDepth 100000 in
set_option maxHeartbeats 16000000 in
theorem ic_5 {d : Nat} {M : Mm} {Q : Po} (hd : 8 < d) (h : Run d 91 119 68 [(0, (2, 2)), (1, (2, 34)), (2, (2, 35))] [] (36, [[], [], [3, 12, 19, 27, 0, 0, 0, 0, 0, 0, 0, 0, 0, 0, 0, 0], [4, 0, 0, 0, 0, 0, 0, 5, 0, 0, 0, 0, 0], [], [6, 7, 8, 10, 0, 0, 0], [], [], [9, 0, 0], [], [11, 0, 0], [], [13, 14, 15, 17, 0, 0, 0], [], [], [16, 0, 0], [], [18, 0, 0], [], [0, 0, 0, 20, 21, 22, 23, 24, 25, 26], [], [], [], [], [], [], [], [19, 12, 28, 29, 0, 30, 31, 32, 33], [], [], [], [], [], [], [], []]) (upR (upR M 34 fun _ => 0) 35 fun _ => 0) Q) : Run d 91 119 56 [(0, (2, 2))] [] (34, [[], [], [3, 12, 19, 27, 0, 0, 0, 0, 0, 0, 0, 0, 0, 0, 0, 0], [4, 0, 0, 0, 0, 0, 0, 5, 0, 0, 0, 0, 0], [], [6, 7, 8, 10, 0, 0, 0], [], [], [9, 0, 0], [], [11, 0, 0], [], [13, 14, 15, 17, 0, 0, 0], [], [], [16, 0, 0], [], [18, 0, 0], [], [0, 0, 0, 20, 21, 22, 23, 24, 25, 26], [], [], [], [], [], [], [], [19, 12, 28, 29, 0, 30, 31, 32, 33], [], [], [], [], [], []]) M Q := by
  refine wt_run 120 cd_11_init [(68, [0, 1, 2])] rfl (by decide) ?_
  repeat ((conv => whnf); (first | refine And.intro (fun _ => ?_) (fun hc => absurd (by decide) hc) | refine And.intro (fun hc => absurd hc (by decide)) (fun _ => ?_) | refine And.intro (by decide) ?_ | refine And.intro rfl ?_))
  conv => whnf
  exact h
set_option maxRecDepth 100000 in
set_option maxHeartbeats 16000000 in
theorem ic_6 {d : Nat} {M : Mm} {Q : Po} (hd : 8 < d) (h : Run d 91 119 88 [(0, (2, 2)), (1, (2, 34)), (2, (2, 35))] [] (37, [[], [], [3, 12, 19, 27, 36, 0, 0, 0, 0, 0, 0, 0, 0, 0, 0, 0], [4, 0, 0, 0, 0, 0, 0, 5, 0, 0, 0, 0, 0], [], [6, 7, 8, 10, 0, 0, 0], [], [], [9, 0, 0], [], [11, 0, 0], [], [13, 14, 15, 17, 0, 0, 0], [], [], [16, 0, 0], [], [18, 0, 0], [], [0, 0, 0, 20, 21, 22, 23, 24, 25, 26], [], [], [], [], [], [], [], [19, 12, 28, 29, 0, 30, 31, 32, 33], [], [], [], [], [], [], [], [], [19, 27, 34, 0, 0]]) (upR M 36 fun _ => 0) Q) : Run d 91 119 68 [(0, (2, 2)), (1, (2, 34)), (2, (2, 35))] [] (36, [[], [], [3, 12, 19, 27, 0, 0, 0, 0, 0, 0, 0, 0, 0, 0, 0, 0], [4, 0, 0, 0, 0, 0, 0, 5, 0, 0, 0, 0, 0], [], [6, 7, 8, 10, 0, 0, 0], [], [], [9, 0, 0], [], [11, 0, 0], [], [13, 14, 15, 17, 0, 0, 0], [], [], [16, 0, 0], [], [18, 0, 0], [], [0, 0, 0, 20, 21, 22, 23, 24, 25, 26], [], [], [], [], [], [], [], [19, 12, 28, 29, 0, 30, 31, 32, 33], [], [], [], [], [], [], [], []]) M Q := by
  refine wt_run 120 cd_11_init [(88, [0, 1, 2])] rfl (by decide) ?_
  repeat ((conv => whnf); (first | refine And.intro (fun _ => ?_) (fun hc => absurd (by decide) hc) | refine And.intro (fun hc => absurd hc (by decide)) (fun _ => ?_) | refine And.intro (by decide) ?_ | refine And.intro rfl ?_))
  conv => whnf
  refine call_run (by omega) (fun dd1 hdd1 => ?_)
  refine wt_run 90 cd_1_init [] rfl (by decide) ?_
  repeat ((conv => whnf); (first | refine And.intro (fun _ => ?_) (fun hc => absurd (by decide) hc) | refine And.intro (fun hc => absurd hc (by decide)) (fun _ => ?_) | refine And.intro (by decide) ?_ | refine And.intro rfl ?_))
  conv => whnf
  exact h
set_option maxRecDepth 100000 in
set_option maxHeartbeats 16000000 in
theorem ic_7 {d : Nat} {M : Mm} {Q : Po} (hd : 8 < d) (h : Run d 91 119 109 [(0, (2, 2)), (1, (2, 34)), (2, (2, 35))] [] (38, [[], [], [3, 12, 19, 27, 36, 0, 37, 0, 0, 0, 0, 0, 0, 0, 0, 0], [4, 0, 0, 0, 0, 0, 0, 5, 0, 0, 0, 0, 0], [], [6, 7, 8, 10, 0, 0, 0], [], [], [9, 0, 0], [], [11, 0, 0], [], [13, 14, 15, 17, 0, 0, 0], [], [], [16, 0, 0], [], [18, 0, 0], [], [0, 0, 0, 20, 21, 22, 23, 24, 25, 26], [], [], [], [], [], [], [], [19, 12, 28, 29, 0, 30, 31, 32, 33], [], [], [], [], [], [], [], [], [19, 27, 34, 0, 0], [19, 27, 0, 0]]) (up2 (up2 (upR M 37 fun _ => 0) 37 2 34) 37 3 35) Q) : Run d 91 119 88 [(0, (2, 2)), (1, (2, 34)), (2, (2, 35))] [] (37, [[], [], [3, 12, 19, 27, 36, 0, 0, 0, 0, 0, 0, 0, 0, 0, 0, 0], [4, 0, 0, 0, 0, 0, 0, 5, 0, 0, 0, 0, 0], [], [6, 7, 8, 10, 0, 0, 0], [], [], [9, 0, 0], [], [11, 0, 0], [], [13, 14, 15, 17, 0, 0, 0], [], [], [16, 0, 0], [], [18, 0, 0], [], [0, 0, 0, 20, 21, 22, 23, 24, 25, 26], [], [], [], [], [], [], [], [19, 12, 28, 29, 0, 30, 31, 32, 33], [], [], [], [], [], [], [], [], [19, 27, 34, 0, 0]]) M Q := by
  refine wt_run 120 cd_11_init [(109, [0, 1, 2])] rfl (by decide) ?_
  repeat ((conv => whnf); (first | refine And.intro (fun _ => ?_) (fun hc => absurd (by decide) hc) | refine And.intro (fun hc => absurd hc (by decide)) (fun _ => ?_) | refine And.intro (by decide) ?_ | refine And.intro rfl ?_))
  conv => whnf
  refine call_run (by omega) (fun dd1 hdd1 => ?_)
  refine wt_run 90 cd_8_init [] rfl (by decide) ?_
  repeat ((conv => whnf); (first | refine And.intro (fun _ => ?_) (fun hc => absurd (by decide) hc) | refine And.intro (fun hc => absurd hc (by decide)) (fun _ => ?_) | refine And.intro (by decide) ?_ | refine And.intro rfl ?_))
  conv => whnf
  exact h
set_option maxRecDepth 100000 in
set_option maxHeartbeats 16000000 in
theorem ic_8 {d : Nat} {M : Mm} {Q : Po} (hd : 8 < d) (h : Run d 91 119 130 [(0, (2, 2)), (1, (2, 34)), (2, (2, 35))] [] (41, [[], [], [3, 12, 19, 27, 36, 0, 37, 38, 0, 0, 0, 0, 0, 0, 0, 0], [4, 0, 0, 0, 0, 0, 0, 5, 0, 0, 0, 0, 0], [], [6, 7, 8, 10, 0, 0, 0], [], [], [9, 0, 0], [], [11, 0, 0], [], [13, 14, 15, 17, 0, 0, 0], [], [], [16, 0, 0], [], [18, 0, 0], [], [0, 0, 0, 20, 21, 22, 23, 24, 25, 26], [], [], [], [], [], [], [], [19, 12, 28, 29, 0, 30, 31, 32, 33], [], [], [], [], [], [], [], [], [19, 27, 34, 0, 0], [19, 27, 0, 0], [19, 27, 34, 35, 39, 40, 0], [], []]) (upR (upR (upR M 38 fun _ => 0) 39 fun _ => 0) 40 fun _ => 0) Q) : Run d 91 119 109 [(0, (2, 2)), (1, (2, 34)), (2, (2, 35))] [] (38, [[], [], [3, 12, 19, 27, 36, 0, 37, 0, 0, 0, 0, 0, 0, 0, 0, 0], [4, 0, 0, 0, 0, 0, 0, 5, 0, 0, 0, 0, 0], [], [6, 7, 8, 10, 0, 0, 0], [], [], [9, 0, 0], [], [11, 0, 0], [], [13, 14, 15, 17, 0, 0, 0], [], [], [16, 0, 0], [], [18, 0, 0], [], [0, 0, 0, 20, 21, 22, 23, 24, 25, 26], [], [], [], [], [], [], [], [19, 12, 28, 29, 0, 30, 31, 32, 33], [], [], [], [], [], [], [], [], [19, 27, 34, 0, 0], [19, 27, 0, 0]]) M Q := by
  refine wt_run 120 cd_11_init [(130, [0, 1, 2])] rfl (by decide) ?_
  repeat ((conv => whnf); (first | refine And.intro (fun _ => ?_) (fun hc => absurd (by decide) hc) | refine And.intro (fun hc => absurd hc (by decide)) (fun _ => ?_) | refine And.intro (by decide) ?_ | refine And.intro rfl ?_))
  conv => whnf
  refine call_run (by omega) (fun dd1 hdd1 => ?_)
  refine wt_run 90 cd_0_init [] rfl (by decide) ?_
  repeat ((conv => whnf); (first | refine And.intro (fun _ => ?_) (fun hc => absurd (by decide) hc) | refine And.intro (fun hc => absurd hc (by decide)) (fun _ => ?_) | refine And.intro (by decide) ?_ | refine And.intro rfl ?_))
  conv => whnf
  exact h
set_option maxRecDepth 100000 in
set_option maxHeartbeats 16000000 in
theorem ic_9 {d : Nat} {M : Mm} {Q : Po} (hd : 8 < d) (h : Run d 91 119 140 [(0, (2, 2)), (1, (2, 34)), (2, (2, 35)), (3, (0, 0))] [] (42, [[], [], [3, 12, 19, 27, 36, 41, 37, 38, 0, 0, 0, 0, 0, 0, 0, 0], [4, 0, 0, 0, 0, 0, 0, 5, 0, 0, 0, 0, 0], [], [6, 7, 8, 10, 0, 0, 0], [], [], [9, 0, 0], [], [11, 0, 0], [], [13, 14, 15, 17, 0, 0, 0], [], [], [16, 0, 0], [], [18, 0, 0], [], [0, 0, 0, 20, 21, 22, 23, 24, 25, 26], [], [], [], [], [], [], [], [19, 12, 28, 29, 0, 30, 31, 32, 33], [], [], [], [], [], [], [], [], [19, 27, 34, 0, 0], [19, 27, 0, 0], [19, 27, 34, 35, 39, 40, 0], [], [], []]) (upR M 41 fun _ => 0) Q) : Run d 91 119 130 [(0, (2, 2)), (1, (2, 34)), (2, (2, 35))] [] (41, [[], [], [3, 12, 19, 27, 36, 0, 37, 38, 0, 0, 0, 0, 0, 0, 0, 0], [4, 0, 0, 0, 0, 0, 0, 5, 0, 0, 0, 0, 0], [], [6, 7, 8, 10, 0, 0, 0], [], [], [9, 0, 0], [], [11, 0, 0], [], [13, 14, 15, 17, 0, 0, 0], [], [], [16, 0, 0], [], [18, 0, 0], [], [0, 0, 0, 20, 21, 22, 23, 24, 25, 26], [], [], [], [], [], [], [], [19, 12, 28, 29, 0, 30, 31, 32, 33], [], [], [], [], [], [], [], [], [19, 27, 34, 0, 0], [19, 27, 0, 0], [19, 27, 34, 35, 39, 40, 0], [], []]) M Q := by
  refine wt_run 120 cd_11_init [(140, [0, 1, 2, 3])] rfl (by decide) ?_
  repeat ((conv => whnf); (first | refine And.intro (fun _ => ?_) (fun hc => absurd (by decide) hc) | refine And.intro (fun hc => absurd hc (by decide)) (fun _ => ?_) | refine And.intro (by decide) ?_ | refine And.intro rfl ?_))
  conv => whnf
  exact h
set_option maxRecDepth 100000 in
set_option maxHeartbeats 16000000 in
theorem ic_10 {d : Nat} {M : Mm} {Q : Po} (hd : 8 < d) (h : Run d 91 119 140 [(0, (2, 2)), (1, (2, 34)), (2, (2, 35)), (3, (0, 1))] [] (45, [[], [], [3, 12, 19, 27, 36, 41, 37, 38, 0, 0, 0, 0, 0, 0, 0, 0], [4, 0, 0, 0, 0, 0, 0, 5, 0, 0, 0, 0, 0], [], [6, 7, 8, 10, 0, 0, 0], [], [], [9, 0, 0], [], [11, 0, 0], [], [13, 14, 15, 17, 0, 0, 0], [], [], [16, 0, 0], [], [18, 0, 0], [], [0, 0, 0, 20, 21, 22, 23, 24, 25, 26], [], [], [], [], [], [], [], [19, 12, 28, 29, 0, 30, 31, 32, 33], [], [], [], [], [], [], [], [], [19, 27, 34, 0, 0], [19, 27, 0, 0], [19, 27, 34, 35, 39, 40, 0], [], [], [], [19, 27, 0, 43, 44, 34, 35, 0], [], []]) (up2 (up2 (up2 (upR (upR (upR M 42 fun _ => 0) 43 fun _ => 0) 44 fun _ => 0) 42 7 (-1)) 42 2 0) 41 0 42) Q) : Run d 91 119 140 [(0, (2, 2)), (1, (2, 34)), (2, (2, 35)), (3, (0, 0))] [] (42, [[], [], [3, 12, 19, 27, 36, 41, 37, 38, 0, 0, 0, 0, 0, 0, 0, 0], [4, 0, 0, 0, 0, 0, 0, 5, 0, 0, 0, 0, 0], [], [6, 7, 8, 10, 0, 0, 0], [], [], [9, 0, 0], [], [11, 0, 0], [], [13, 14, 15, 17, 0, 0, 0], [], [], [16, 0, 0], [], [18, 0, 0], [], [0, 0, 0, 20, 21, 22, 23, 24, 25, 26], [], [], [], [], [], [], [], [19, 12, 28, 29, 0, 30, 31, 32, 33], [], [], [], [], [], [], [], [], [19, 27, 34, 0, 0], [19, 27, 0, 0], [19, 27, 34, 35, 39, 40, 0], [], [], []]) M Q := by
  refine wt_run 120 cd_11_init [(140, [0, 1, 2, 3])] rfl (by decide) ?_
  repeat ((conv => whnf); (first | refine And.intro (fun _ => ?_) (fun hc => absurd (by decide) hc) | refine And.intro (fun hc => absurd hc (by decide)) (fun _ => ?_) | refine And.intro (by decide) ?_ | refine And.intro rfl ?_))
  conv => whnf
  refine call_run (by omega) (fun dd1 hdd1 => ?_)
  refine wt_run 90 cd_2_init [] rfl (by decide) ?_
  repeat ((conv => whnf); (first | refine And.intro (fun _ => ?_) (fun hc => absurd (by decide) hc) | refine And.intro (fun hc => absurd hc (by decide)) (fun _ => ?_) | refine And.intro (by decide) ?_ | refine And.intro rfl ?_))
  conv => whnf
  exact h
set_option maxRecDepth 100000 in
set_option maxHeartbeats 16000000 in
theorem ic_11 {d : Nat} {M : Mm} {Q : Po} (hd : 8 < d) (h : Run d 91 119 140 [(0, (2, 2)), (1, (2, 34)), (2, (2, 35)), (3, (0, 2))] [] (48, [[], [], [3, 12, 19, 27, 36, 41, 37, 38, 0, 0, 0, 0, 0, 0, 0, 0], [4, 0, 0, 0, 0, 0, 0, 5, 0, 0, 0, 0, 0], [], [6, 7, 8, 10, 0, 0, 0], [], [], [9, 0, 0], [], [11, 0, 0], [], [13, 14, 15, 17, 0, 0, 0], [], [], [16, 0, 0], [], [18, 0, 0], [], [0, 0, 0, 20, 21, 22, 23, 24, 25, 26], [], [], [], [], [], [], [], [19, 12, 28, 29, 0, 30, 31, 32, 33], [], [], [], [], [], [], [], [], [19, 27, 34, 0, 0], [19, 27, 0, 0], [19, 27, 34, 35, 39, 40, 0], [], [], [], [19, 27, 0, 43, 44, 34, 35, 0], [], [], [19, 27, 0, 46, 47, 34, 35, 0], [], []]) (up2 (up2 (up2 (upR (upR (upR M 45 fun _ => 0) 46 fun _ => 0) 47 fun _ => 0) 45 7 (-1)) 45 2 1) 41 1 45) Q) : Run d 91 119 140 [(0, (2, 2)), (1, (2, 34)), (2, (2, 35)), (3, (0, 1))] [] (45, [[], [], [3, 12, 19, 27, 36, 41, 37, 38, 0, 0, 0, 0, 0, 0, 0, 0], [4, 0, 0, 0, 0, 0, 0, 5, 0, 0, 0, 0, 0], [], [6, 7, 8, 10, 0, 0, 0], [], [], [9, 0, 0], [], [11, 0, 0], [], [13, 14, 15, 17, 0, 0, 0], [], [], [16, 0, 0], [], [18, 0, 0], [], [0, 0, 0, 20, 21, 22, 23, 24, 25, 26], [], [], [], [], [], [], [], [19, 12, 28, 29, 0, 30, 31, 32, 33], [], [], [], [], [], [], [], [], [19, 27, 34, 0, 0], [19, 27, 0, 0], [19, 27, 34, 35, 39, 40, 0], [], [], [], [19, 27, 0, 43, 44, 34, 35, 0], [], []]) M Q := by
  refine wt_run 120 cd_11_init [(140, [0, 1, 2, 3])] rfl (by decide) ?_
  repeat ((conv => whnf); (first | refine And.intro (fun _ => ?_) (fun hc => absurd (by decide) hc) | refine And.intro (fun hc => absurd hc (by decide)) (fun _ => ?_) | refine And.intro (by decide) ?_ | refine And.intro rfl ?_))
  conv => whnf
  refine call_run (by omega) (fun dd1 hdd1 => ?_)
  refine wt_run 90 cd_2_init [] rfl (by decide) ?_
  repeat ((conv => whnf); (first | refine And.intro (fun _ => ?_) (fun hc => absurd (by decide) hc) | refine And.intro (fun hc => absurd hc (by decide)) (fun _ => ?_) | refine And.intro (by decide) ?_ | refine And.intro rfl ?_))
  conv => whnf
  exact h
set_option maxRecDepth 100000 in
set_option maxHeartbeats 16000000 in
theorem ic_12 {d : Nat} {M : Mm} {Q : Po} (hd : 8 < d) (h : Run d 91 119 140 [(0, (2, 2)), (1, (2, 34)), (2, (2, 35)), (3, (0, 3))] [] (51, [[], [], [3, 12, 19, 27, 36, 41, 37, 38, 0, 0, 0, 0, 0, 0, 0, 0], [4, 0, 0, 0, 0, 0, 0, 5, 0, 0, 0, 0, 0], [], [6, 7, 8, 10, 0, 0, 0], [], [], [9, 0, 0], [], [11, 0, 0], [], [13, 14, 15, 17, 0, 0, 0], [], [], [16, 0, 0], [], [18, 0, 0], [], [0, 0, 0, 20, 21, 22, 23, 24, 25, 26], [], [], [], [], [], [], [], [19, 12, 28, 29, 0, 30, 31, 32, 33], [], [], [], [], [], [], [], [], [19, 27, 34, 0, 0], [19, 27, 0, 0], [19, 27, 34, 35, 39, 40, 0], [], [], [], [19, 27, 0, 43, 44, 34, 35, 0], [], [], [19, 27, 0, 46, 47, 34, 35, 0], [], [], [19, 27, 0, 49, 50, 34, 35, 0], [], []]) (up2 (up2 (up2 (upR (upR (upR M 48 fun _ => 0) 49 fun _ => 0) 50 fun _ => 0) 48 7 (-1)) 48 2 2) 41 2 48) Q) : Run d 91 119 140 [(0, (2, 2)), (1, (2, 34)), (2, (2, 35)), (3, (0, 2))] [] (48, [[], [], [3, 12, 19, 27, 36, 41, 37, 38, 0, 0, 0, 0, 0, 0, 0, 0], [4, 0, 0, 0, 0, 0, 0, 5, 0, 0, 0, 0, 0], [], [6, 7, 8, 10, 0, 0, 0], [], [], [9, 0, 0], [], [11, 0, 0], [], [13, 14, 15, 17, 0, 0, 0], [], [], [16, 0, 0], [], [18, 0, 0], [], [0, 0, 0, 20, 21, 22, 23, 24, 25, 26], [], [], [], [], [], [], [], [19, 12, 28, 29, 0, 30, 31, 32, 33], [], [], [], [], [], [], [], [], [19, 27, 34, 0, 0], [19, 27, 0, 0], [19, 27, 34, 35, 39, 40, 0], [], [], [], [19, 27, 0, 43, 44, 34, 35, 0], [], [], [19, 27, 0, 46, 47, 34, 35, 0], [], []]) M Q := by
  refine wt_run 120 cd_11_init [(140, [0, 1, 2, 3])] rfl (by decide) ?_
  repeat ((conv => whnf); (first | refine And.intro (fun _ => ?_) (fun hc => absurd (by decide) hc) | refine And.intro (fun hc => absurd hc (by decide)) (fun _ => ?_) | refine And.intro (by decide) ?_ | refine And.intro rfl ?_))
  conv => whnf
  refine call_run (by omega) (fun dd1 hdd1 => ?_)
  refine wt_run 90 cd_2_init [] rfl (by decide) ?_
  repeat ((conv => whnf); (first | refine And.intro (fun _ => ?_) (fun hc => absurd (by decide) hc) | refine And.intro (fun hc => absurd hc (by decide)) (fun _ => ?_) | refine And.intro (by decide) ?_ | refine And.intro rfl ?_))
  conv => whnf
  exact h
set_option maxRecDepth 100000 in
set_option maxHeartbeats 16000000 in
theorem ic_13 {d : Nat} {M : Mm} {Q : Po} (hd : 8 < d) (h : Run d 91 119 175 [(0, (2, 2))] [] (51, [[], [], [3, 12, 19, 27, 36, 41, 37, 38, 0, 0, 0, 0, 0, 0, 0, 0], [4, 0, 0, 0, 0, 0, 0, 5, 0, 0, 0, 0, 0], [], [6, 7, 8, 10, 0, 0, 0], [], [], [9, 0, 0], [], [11, 0, 0], [], [13, 14, 15, 17, 0, 0, 0], [], [], [16, 0, 0], [], [18, 0, 0], [], [0, 0, 0, 20, 21, 22, 23, 24, 25, 26], [], [], [], [], [], [], [], [19, 12, 28, 29, 0, 30, 31, 32, 33], [], [], [], [], [], [], [], [], [19, 27, 34, 0, 0], [19, 27, 0, 0], [19, 27, 34, 35, 39, 40, 0], [], [], [], [19, 27, 0, 43, 44, 34, 35, 0], [], [], [19, 27, 0, 46, 47, 34, 35, 0], [], [], [19, 27, 0, 49, 50, 34, 35, 0], [], []]) M Q) : Run d 91 119 140 [(0, (2, 2)), (1, (2, 34)), (2, (2, 35)), (3, (0, 3))] [] (51, [[], [], [3, 12, 19, 27, 36, 41, 37, 38, 0, 0, 0, 0, 0, 0, 0, 0], [4, 0, 0, 0, 0, 0, 0, 5, 0, 0, 0, 0, 0], [], [6, 7, 8, 10, 0, 0, 0], [], [], [9, 0, 0], [], [11, 0, 0], [], [13, 14, 15, 17, 0, 0, 0], [], [], [16, 0, 0], [], [18, 0, 0], [], [0, 0, 0, 20, 21, 22, 23, 24, 25, 26], [], [], [], [], [], [], [], [19, 12, 28, 29, 0, 30, 31, 32, 33], [], [], [], [], [], [], [], [], [19, 27, 34, 0, 0], [19, 27, 0, 0], [19, 27, 34, 35, 39, 40, 0], [], [], [], [19, 27, 0, 43, 44, 34, 35, 0], [], [], [19, 27, 0, 46, 47, 34, 35, 0], [], [], [19, 27, 0, 49, 50, 34, 35, 0], [], []]) M Q := by
  refine wt_run 120 cd_11_init [(175, [0])] rfl (by decide) ?_
  repeat ((conv => whnf); (first | refine And.intro (fun _ => ?_) (fun hc => absurd (by decide) hc) | refine And.intro (fun hc => absurd hc (by decide)) (fun _ => ?_) | refine And.intro (by decide) ?_ | refine And.intro rfl ?_))
  conv => whnf
  exact h
set_option maxRecDepth 100000 in
set_option maxHeartbeats 16000000 in
theorem ic_14 {d : Nat} {M : Mm} {Q : Po} (hd : 8 < d) (h : Run d 91 119 186 [(0, (2, 2))] [] (52, [[], [], [3, 12, 19, 27, 36, 41, 37, 38, 51, 0, 0, 0, 0, 0, 0, 0], [4, 0, 0, 0, 0, 0, 0, 5, 0, 0, 0, 0, 0], [], [6, 7, 8, 10, 0, 0, 0], [], [], [9, 0, 0], [], [11, 0, 0], [], [13, 14, 15, 17, 0, 0, 0], [], [], [16, 0, 0], [], [18, 0, 0], [], [0, 0, 0, 20, 21, 22, 23, 24, 25, 26], [], [], [], [], [], [], [], [19, 12, 28, 29, 0, 30, 31, 32, 33], [], [], [], [], [], [], [], [], [19, 27, 34, 0, 0], [19, 27, 0, 0], [19, 27, 34, 35, 39, 40, 0], [], [], [], [19, 27, 0, 43, 44, 34, 35, 0], [], [], [19, 27, 0, 46, 47, 34, 35, 0], [], [], [19, 27, 0, 49, 50, 34, 35, 0], [], [], [0, 0, 0]]) (upR M 51 fun _ => 0) Q) : Run d 91 119 175 [(0, (2, 2))] [] (51, [[], [], [3, 12, 19, 27, 36, 41, 37, 38, 0, 0, 0, 0, 0, 0, 0, 0], [4, 0, 0, 0, 0, 0, 0, 5, 0, 0, 0, 0, 0], [], [6, 7, 8, 10, 0, 0, 0], [], [], [9, 0, 0], [], [11, 0, 0], [], [13, 14, 15, 17, 0, 0, 0], [], [], [16, 0, 0], [], [18, 0, 0], [], [0, 0, 0, 20, 21, 22, 23, 24, 25, 26], [], [], [], [], [], [], [], [19, 12, 28, 29, 0, 30, 31, 32, 33], [], [], [], [], [], [], [], [], [19, 27, 34, 0, 0], [19, 27, 0, 0], [19, 27, 34, 35, 39, 40, 0], [], [], [], [19, 27, 0, 43, 44, 34, 35, 0], [], [], [19, 27, 0, 46, 47, 34, 35, 0], [], [], [19, 27, 0, 49, 50, 34, 35, 0], [], []]) M Q := by
  refine wt_run 120 cd_11_init [(186, [0])] rfl (by decide) ?_
  repeat ((conv => whnf); (first | refine And.intro (fun _ => ?_) (fun hc => absurd (by decide) hc) | refine And.intro (fun hc => absurd hc (by decide)) (fun _ => ?_) | refine And.intro (by decide) ?_ | refine And.intro rfl ?_))
  conv => whnf
  refine call_run (by omega) (fun dd1 hdd1 => ?_)
  refine wt_run 90 cd_5_init [] rfl (by decide) ?_
  repeat ((conv => whnf); (first | refine And.intro (fun _ => ?_) (fun hc => absurd (by decide) hc) | refine And.intro (fun hc => absurd hc (by decide)) (fun _ => ?_) | refine And.intro (by decide) ?_ | refine And.intro rfl ?_))
  conv => whnf
  exact h
set_option maxRecDepth 100000 in
set_option maxHeartbeats 16000000 in
theorem ic_15 {d : Nat} {M : Mm} {Q : Po} (hd : 8 < d) (h : Run d 91 119 197 [(0, (2, 2))] [] (53, [[], [], [3, 12, 19, 27, 36, 41, 37, 38, 51, 52, 0, 0, 0, 0, 0, 0], [4, 0, 0, 0, 0, 0, 0, 5, 0, 0, 0, 0, 0], [], [6, 7, 8, 10, 0, 0, 0], [], [], [9, 0, 0], [], [11, 0, 0], [], [13, 14, 15, 17, 0, 0, 0], [], [], [16, 0, 0], [], [18, 0, 0], [], [0, 0, 0, 20, 21, 22, 23, 24, 25, 26], [], [], [], [], [], [], [], [19, 12, 28, 29, 0, 30, 31, 32, 33], [], [], [], [], [], [], [], [], [19, 27, 34, 0, 0], [19, 27, 0, 0], [19, 27, 34, 35, 39, 40, 0], [], [], [], [19, 27, 0, 43, 44, 34, 35, 0], [], [], [19, 27, 0, 46, 47, 34, 35, 0], [], [], [19, 27, 0, 49, 50, 34, 35, 0], [], [], [0, 0, 0], [0, 0, 0]]) (upR M 52 fun _ => 0) Q) : Run d 91 119 186 [(0, (2, 2))] [] (52, [[], [], [3, 12, 19, 27, 36, 41, 37, 38, 51, 0, 0, 0, 0, 0, 0, 0], [4, 0, 0, 0, 0, 0, 0, 5, 0, 0, 0, 0, 0], [], [6, 7, 8, 10, 0, 0, 0], [], [], [9, 0, 0], [], [11, 0, 0], [], [13, 14, 15, 17, 0, 0, 0], [], [], [16, 0, 0], [], [18, 0, 0], [], [0, 0, 0, 20, 21, 22, 23, 24, 25, 26], [], [], [], [], [], [], [], [19, 12, 28, 29, 0, 30, 31, 32, 33], [], [], [], [], [], [], [], [], [19, 27, 34, 0, 0], [19, 27, 0, 0], [19, 27, 34, 35, 39, 40, 0], [], [], [], [19, 27, 0, 43, 44, 34, 35, 0], [], [], [19, 27, 0, 46, 47, 34, 35, 0], [], [], [19, 27, 0, 49, 50, 34, 35, 0], [], [], [0, 0, 0]]) M Q := by
  refine wt_run 120 cd_11_init [(197, [0])] rfl (by decide) ?_
  repeat ((conv => whnf); (first | refine And.intro (fun _ => ?_) (fun hc => absurd (by decide) hc) | refine And.intro (fun hc => absurd hc (by decide)) (fun _ => ?_) | refine And.intro (by decide) ?_ | refine And.intro rfl ?_))
  conv => whnf
  refine call_run (by omega) (fun dd1 hdd1 => ?_)
  refine wt_run 90 cd_5_init [] rfl (by decide) ?_
  repeat ((conv => whnf); (first | refine And.intro (fun _ => ?_) (fun hc => absurd (by decide) hc) | refine And.intro (fun hc => absurd hc (by decide)) (fun _ => ?_) | refine And.intro (by decide) ?_ | refine And.intro rfl ?_))
  conv => whnf
  exact h
set_option maxRecDepth 100000 in
set_option maxHeartbeats 16000000 in
theorem ic_16 {d : Nat} {M : Mm} {Q : Po} (hd : 8 < d) (h : Run d 91 119 208 [(0, (2, 2)), (3, (0, 0))] [] (54, [[], [], [3, 12, 19, 27, 36, 41, 37, 38, 51, 52, 53, 0, 0, 0, 0, 0], [4, 0, 0, 0, 0, 0, 0, 5, 0, 0, 0, 0, 0], [], [6, 7, 8, 10, 0, 0, 0], [], [], [9, 0, 0], [], [11, 0, 0], [], [13, 14, 15, 17, 0, 0, 0], [], [], [16, 0, 0], [], [18, 0, 0], [], [0, 0, 0, 20, 21, 22, 23, 24, 25, 26], [], [], [], [], [], [], [], [19, 12, 28, 29, 0, 30, 31, 32, 33], [], [], [], [], [], [], [], [], [19, 27, 34, 0, 0], [19, 27, 0, 0], [19, 27, 34, 35, 39, 40, 0], [], [], [], [19, 27, 0, 43, 44, 34, 35, 0], [], [], [19, 27, 0, 46, 47, 34, 35, 0], [], [], [19, 27, 0, 49, 50, 34, 35, 0], [], [], [0, 0, 0], [0, 0, 0], []]) (upR M 53 fun _ => 0) Q) : Run d 91 119 197 [(0, (2, 2))] [] (53, [[], [], [3, 12, 19, 27, 36, 41, 37, 38, 51, 52, 0, 0, 0, 0, 0, 0], [4, 0, 0, 0, 0, 0, 0, 5, 0, 0, 0, 0, 0], [], [6, 7, 8, 10, 0, 0, 0], [], [], [9, 0, 0], [], [11, 0, 0], [], [13, 14, 15, 17, 0, 0, 0], [], [], [16, 0, 0], [], [18, 0, 0], [], [0, 0, 0, 20, 21, 22, 23, 24, 25, 26], [], [], [], [], [], [], [], [19, 12, 28, 29, 0, 30, 31, 32, 33], [], [], [], [], [], [], [], [], [19, 27, 34, 0, 0], [19, 27, 0, 0], [19, 27, 34, 35, 39, 40, 0], [], [], [], [19, 27, 0, 43, 44, 34, 35, 0], [], [], [19, 27, 0, 46, 47, 34, 35, 0], [], [], [19, 27, 0, 49, 50, 34, 35, 0], [], [], [0, 0, 0], [0, 0, 0]]) M Q := by
  refine wt_run 120 cd_11_init [(208, [0, 3])] rfl (by decide) ?_
  repeat ((conv => whnf); (first | refine And.intro (fun _ => ?_) (fun hc => absurd (by decide) hc) | refine And.intro (fun hc => absurd hc (by decide)) (fun _ => ?_) | refine And.intro (by decide) ?_ | refine And.intro rfl ?_))
  conv => whnf
  exact h
set_option maxRecDepth 100000 in
set_option maxHeartbeats 16000000 in
theorem ic_17 {d : Nat} {M : Mm} {Q : Po} (hd : 8 < d) (h : Run d 91 119 208 [(0, (2, 2)), (3, (0, 1))] [] (55, [[], [], [3, 12, 19, 27, 36, 41, 37, 38, 51, 52, 53, 0, 0, 0, 0, 0], [4, 0, 0, 0, 0, 0, 0, 5, 0, 0, 0, 0, 0], [], [6, 7, 8, 10, 0, 0, 0], [], [], [9, 0, 0], [], [11, 0, 0], [], [13, 14, 15, 17, 0, 0, 0], [], [], [16, 0, 0], [], [18, 0, 0], [], [0, 0, 0, 20, 21, 22, 23, 24, 25, 26], [], [], [], [], [], [], [], [19, 12, 28, 29, 0, 30, 31, 32, 33], [], [], [], [], [], [], [], [], [19, 27, 34, 0, 0], [19, 27, 0, 0], [19, 27, 34, 35, 39, 40, 0], [], [], [], [19, 27, 0, 43, 44, 34, 35, 0], [], [], [19, 27, 0, 46, 47, 34, 35, 0], [], [], [19, 27, 0, 49, 50, 34, 35, 0], [], [], [0, 0, 0], [0, 0, 0], [], [0, 0, 0]]) (up2 (upR M 54 fun _ => 0) 53 0 54) Q) : Run d 91 119 208 [(0, (2, 2)), (3, (0, 0))] [] (54, [[], [], [3, 12, 19, 27, 36, 41, 37, 38, 51, 52, 53, 0, 0, 0, 0, 0], [4, 0, 0, 0, 0, 0, 0, 5, 0, 0, 0, 0, 0], [], [6, 7, 8, 10, 0, 0, 0], [], [], [9, 0, 0], [], [11, 0, 0], [], [13, 14, 15, 17, 0, 0, 0], [], [], [16, 0, 0], [], [18, 0, 0], [], [0, 0, 0, 20, 21, 22, 23, 24, 25, 26], [], [], [], [], [], [], [], [19, 12, 28, 29, 0, 30, 31, 32, 33], [], [], [], [], [], [], [], [], [19, 27, 34, 0, 0], [19, 27, 0, 0], [19, 27, 34, 35, 39, 40, 0], [], [], [], [19, 27, 0, 43, 44, 34, 35, 0], [], [], [19, 27, 0, 46, 47, 34, 35, 0], [], [], [19, 27, 0, 49, 50, 34, 35, 0], [], [], [0, 0, 0], [0, 0, 0], []]) M Q := by
  refine wt_run 120 cd_11_init [(208, [0, 3])] rfl (by decide) ?_
  repeat ((conv => whnf); (first | refine And.intro (fun _ => ?_) (fun hc => absurd (by decide) hc) | refine And.intro (fun hc => absurd hc (by decide)) (fun _ => ?_) | refine And.intro (by decide) ?_ | refine And.intro rfl ?_))
  conv => whnf
  refine call_run (by omega) (fun dd1 hdd1 => ?_)
  refine wt_run 90 cd_5_init [] rfl (by decide) ?_
  repeat ((conv => whnf); (first | refine And.intro (fun _ => ?_) (fun hc => absurd (by decide) hc) | refine And.intro (fun hc => absurd hc (by decide)) (fun _ => ?_) | refine And.intro (by decide) ?_ | refine And.intro rfl ?_))
  conv => whnf
  exact h
set_option maxRecDepth 100000 in
set_option maxHeartbeats 16000000 in
theorem ic_18 {d : Nat} {M : Mm} {Q : Po} (hd : 8 < d) (h : Run d 91 119 208 [(0, (2, 2)), (3, (0, 2))] [] (56, [[], [], [3, 12, 19, 27, 36, 41, 37, 38, 51, 52, 53, 0, 0, 0, 0, 0], [4, 0, 0, 0, 0, 0, 0, 5, 0, 0, 0, 0, 0], [], [6, 7, 8, 10, 0, 0, 0], [], [], [9, 0, 0], [], [11, 0, 0], [], [13, 14, 15, 17, 0, 0, 0], [], [], [16, 0, 0], [], [18, 0, 0], [], [0, 0, 0, 20, 21, 22, 23, 24, 25, 26], [], [], [], [], [], [], [], [19, 12, 28, 29, 0, 30, 31, 32, 33], [], [], [], [], [], [], [], [], [19, 27, 34, 0, 0], [19, 27, 0, 0], [19, 27, 34, 35, 39, 40, 0], [], [], [], [19, 27, 0, 43, 44, 34, 35, 0], [], [], [19, 27, 0, 46, 47, 34, 35, 0], [], [], [19, 27, 0, 49, 50, 34, 35, 0], [], [], [0, 0, 0], [0, 0, 0], [], [0, 0, 0], [0, 0, 0]]) (up2 (upR M 55 fun _ => 0) 53 1 55) Q) : Run d 91 119 208 [(0, (2, 2)), (3, (0, 1))] [] (55, [[], [], [3, 12, 19, 27, 36, 41, 37, 38, 51, 52, 53, 0, 0, 0, 0, 0], [4, 0, 0, 0, 0, 0, 0, 5, 0, 0, 0, 0, 0], [], [6, 7, 8, 10, 0, 0, 0], [], [], [9, 0, 0], [], [11, 0, 0], [], [13, 14, 15, 17, 0, 0, 0], [], [], [16, 0, 0], [], [18, 0, 0], [], [0, 0, 0, 20, 21, 22, 23, 24, 25, 26], [], [], [], [], [], [], [], [19, 12, 28, 29, 0, 30, 31, 32, 33], [], [], [], [], [], [], [], [], [19, 27, 34, 0, 0], [19, 27, 0, 0], [19, 27, 34, 35, 39, 40, 0], [], [], [], [19, 27, 0, 43, 44, 34, 35, 0], [], [], [19, 27, 0, 46, 47, 34, 35, 0], [], [], [19, 27, 0, 49, 50, 34, 35, 0], [], [], [0, 0, 0], [0, 0, 0], [], [0, 0, 0]]) M Q := by
  refine wt_run 120 cd_11_init [(208, [0, 3])] rfl (by decide) ?_
  repeat ((conv => whnf); (first | refine And.intro (fun _ => ?_) (fun hc => absurd (by decide) hc) | refine And.intro (fun hc => absurd hc (by decide)) (fun _ => ?_) | refine And.intro (by decide) ?_ | refine And.intro rfl ?_))
  conv => whnf
  refine call_run (by omega) (fun dd1 hdd1 => ?_)
  refine wt_run 90 cd_5_init [] rfl (by decide) ?_
  repeat ((conv => whnf); (first | refine And.intro (fun _ => ?_) (fun hc => absurd (by decide) hc) | refine And.intro (fun hc => absurd hc (by decide)) (fun _ => ?_) | refine And.intro (by decide) ?_ | refine And.intro rfl ?_))
  conv => whnf
  exact h
set_option maxRecDepth 100000 in
set_option maxHeartbeats 16000000 in
theorem ic_19 {d : Nat} {M : Mm} {Q : Po} (hd : 8 < d) (h : Run d 91 119 208 [(0, (2, 2)), (3, (0, 3))] [] (57, [[], [], [3, 12, 19, 27, 36, 41, 37, 38, 51, 52, 53, 0, 0, 0, 0, 0], [4, 0, 0, 0, 0, 0, 0, 5, 0, 0, 0, 0, 0], [], [6, 7, 8, 10, 0, 0, 0], [], [], [9, 0, 0], [], [11, 0, 0], [], [13, 14, 15, 17, 0, 0, 0], [], [], [16, 0, 0], [], [18, 0, 0], [], [0, 0, 0, 20, 21, 22, 23, 24, 25, 26], [], [], [], [], [], [], [], [19, 12, 28, 29, 0, 30, 31, 32, 33], [], [], [], [], [], [], [], [], [19, 27, 34, 0, 0], [19, 27, 0, 0], [19, 27, 34, 35, 39, 40, 0], [], [], [], [19, 27, 0, 43, 44, 34, 35, 0], [], [], [19, 27, 0, 46, 47, 34, 35, 0], [], [], [19, 27, 0, 49, 50, 34, 35, 0], [], [], [0, 0, 0], [0, 0, 0], [], [0, 0, 0], [0, 0, 0], [0, 0, 0]]) (up2 (upR M 56 fun _ => 0) 53 2 56) Q) : Run d 91 119 208 [(0, (2, 2)), (3, (0, 2))] [] (56, [[], [], [3, 12, 19, 27, 36, 41, 37, 38, 51, 52, 53, 0, 0, 0, 0, 0], [4, 0, 0, 0, 0, 0, 0, 5, 0, 0, 0, 0, 0], [], [6, 7, 8, 10, 0, 0, 0], [], [], [9, 0, 0], [], [11, 0, 0], [], [13, 14, 15, 17, 0, 0, 0], [], [], [16, 0, 0], [], [18, 0, 0], [], [0, 0, 0, 20, 21, 22, 23, 24, 25, 26], [], [], [], [], [], [], [], [19, 12, 28, 29, 0, 30, 31, 32, 33], [], [], [], [], [], [], [], [], [19, 27, 34, 0, 0], [19, 27, 0, 0], [19, 27, 34, 35, 39, 40, 0], [], [], [], [19, 27, 0, 43, 44, 34, 35, 0], [], [], [19, 27, 0, 46, 47, 34, 35, 0], [], [], [19, 27, 0, 49, 50, 34, 35, 0], [], [], [0, 0, 0], [0, 0, 0], [], [0, 0, 0], [0, 0, 0]]) M Q := by
  refine wt_run 120 cd_11_init [(208, [0, 3])] rfl (by decide) ?_
  repeat ((conv => whnf); (first | refine And.intro (fun _ => ?_) (fun hc => absurd (by decide) hc) | refine And.intro (fun hc => absurd hc (by decide)) (fun _ => ?_) | refine And.intro (by decide) ?_ | refine And.intro rfl ?_))
  conv => whnf
  refine call_run (by omega) (fun dd1 hdd1 => ?_)
  refine wt_run 90 cd_5_init [] rfl (by decide) ?_
  repeat ((conv => whnf); (first | refine And.intro (fun _ => ?_) (fun hc => absurd (by decide) hc) | refine And.intro (fun hc => absurd hc (by decide)) (fun _ => ?_) | refine And.intro (by decide) ?_ | refine And.intro rfl ?_))
  conv => whnf
  exact h
set_option maxRecDepth 100000 in
set_option maxHeartbeats 16000000 in
theorem ic_20 {d : Nat} {M : Mm} {Q : Po} (hd : 8 < d) (h : Run d 91 119 208 [(0, (2, 2)), (3, (0, 4))] [] (58, [[], [], [3, 12, 19, 27, 36, 41, 37, 38, 51, 52, 53, 0, 0, 0, 0, 0], [4, 0, 0, 0, 0, 0, 0, 5, 0, 0, 0, 0, 0], [], [6, 7, 8, 10, 0, 0, 0], [], [], [9, 0, 0], [], [11, 0, 0], [], [13, 14, 15, 17, 0, 0, 0], [], [], [16, 0, 0], [], [18, 0, 0], [], [0, 0, 0, 20, 21, 22, 23, 24, 25, 26], [], [], [], [], [], [], [], [19, 12, 28, 29, 0, 30, 31, 32, 33], [], [], [], [], [], [], [], [], [19, 27, 34, 0, 0], [19, 27, 0, 0], [19, 27, 34, 35, 39, 40, 0], [], [], [], [19, 27, 0, 43, 44, 34, 35, 0], [], [], [19, 27, 0, 46, 47, 34, 35, 0], [], [], [19, 27, 0, 49, 50, 34, 35, 0], [], [], [0, 0, 0], [0, 0, 0], [], [0, 0, 0], [0, 0, 0], [0, 0, 0], [0, 0, 0]]) (up2 (upR M 57 fun _ => 0) 53 3 57) Q) : Run d 91 119 208 [(0, (2, 2)), (3, (0, 3))] [] (57, [[], [], [3, 12, 19, 27, 36, 41, 37, 38, 51, 52, 53, 0, 0, 0, 0, 0], [4, 0, 0, 0, 0, 0, 0, 5, 0, 0, 0, 0, 0], [], [6, 7, 8, 10, 0, 0, 0], [], [], [9, 0, 0], [], [11, 0, 0], [], [13, 14, 15, 17, 0, 0, 0], [], [], [16, 0, 0], [], [18, 0, 0], [], [0, 0, 0, 20, 21, 22, 23, 24, 25, 26], [], [], [], [], [], [], [], [19, 12, 28, 29, 0, 30, 31, 32, 33], [], [], [], [], [], [], [], [], [19, 27, 34, 0, 0], [19, 27, 0, 0], [19, 27, 34, 35, 39, 40, 0], [], [], [], [19, 27, 0, 43, 44, 34, 35, 0], [], [], [19, 27, 0, 46, 47, 34, 35, 0], [], [], [19, 27, 0, 49, 50, 34, 35, 0], [], [], [0, 0, 0], [0, 0, 0], [], [0, 0, 0], [0, 0, 0], [0, 0, 0]]) M Q := by
  refine wt_run 120 cd_11_init [(208, [0, 3])] rfl (by decide) ?_
  repeat ((conv => whnf); (first | refine And.intro (fun _ => ?_) (fun hc => absurd (by decide) hc) | refine And.intro (fun hc => absurd hc (by decide)) (fun _ => ?_) | refine And.intro (by decide) ?_ | refine And.intro rfl ?_))
  conv => whnf
  refine call_run (by omega) (fun dd1 hdd1 => ?_)
  refine wt_run 90 cd_5_init [] rfl (by decide) ?_
  repeat ((conv => whnf); (first | refine And.intro (fun _ => ?_) (fun hc => absurd (by decide) hc) | refine And.intro (fun hc => absurd hc (by decide)) (fun _ => ?_) | refine And.intro (by decide) ?_ | refine And.intro rfl ?_))
  conv => whnf
  exact h
set_option maxRecDepth 100000 in
set_option maxHeartbeats 16000000 in
theorem ic_21 {d : Nat} {M : Mm} {Q : Po} (hd : 8 < d) (h : Run d 91 119 208 [(0, (2, 2)), (3, (0, 5))] [] (59, [[], [], [3, 12, 19, 27, 36, 41, 37, 38, 51, 52, 53, 0, 0, 0, 0, 0], [4, 0, 0, 0, 0, 0, 0, 5, 0, 0, 0, 0, 0], [], [6, 7, 8, 10, 0, 0, 0], [], [], [9, 0, 0], [], [11, 0, 0], [], [13, 14, 15, 17, 0, 0, 0], [], [], [16, 0, 0], [], [18, 0, 0], [], [0, 0, 0, 20, 21, 22, 23, 24, 25, 26], [], [], [], [], [], [], [], [19, 12, 28, 29, 0, 30, 31, 32, 33], [], [], [], [], [], [], [], [], [19, 27, 34, 0, 0], [19, 27, 0, 0], [19, 27, 34, 35, 39, 40, 0], [], [], [], [19, 27, 0, 43, 44, 34, 35, 0], [], [], [19, 27, 0, 46, 47, 34, 35, 0], [], [], [19, 27, 0, 49, 50, 34, 35, 0], [], [], [0, 0, 0], [0, 0, 0], [], [0, 0, 0], [0, 0, 0], [0, 0, 0], [0, 0, 0], [0, 0, 0]]) (up2 (upR M 58 fun _ => 0) 53 4 58) Q) : Run d 91 119 208 [(0, (2, 2)), (3, (0, 4))] [] (58, [[], [], [3, 12, 19, 27, 36, 41, 37, 38, 51, 52, 53, 0, 0, 0, 0, 0], [4, 0, 0, 0, 0, 0, 0, 5, 0, 0, 0, 0, 0], [], [6, 7, 8, 10, 0, 0, 0], [], [], [9, 0, 0], [], [11, 0, 0], [], [13, 14, 15, 17, 0, 0, 0], [], [], [16, 0, 0], [], [18, 0, 0], [], [0, 0, 0, 20, 21, 22, 23, 24, 25, 26], [], [], [], [], [], [], [], [19, 12, 28, 29, 0, 30, 31, 32, 33], [], [], [], [], [], [], [], [], [19, 27, 34, 0, 0], [19, 27, 0, 0], [19, 27, 34, 35, 39, 40, 0], [], [], [], [19, 27, 0, 43, 44, 34, 35, 0], [], [], [19, 27, 0, 46, 47, 34, 35, 0], [], [], [19, 27, 0, 49, 50, 34, 35, 0], [], [], [0, 0, 0], [0, 0, 0], [], [0, 0, 0], [0, 0, 0], [0, 0, 0], [0, 0, 0]]) M Q := by
  refine wt_run 120 cd_11_init [(208, [0, 3])] rfl (by decide) ?_
  repeat ((conv => whnf); (first | refine And.intro (fun _ => ?_) (fun hc => absurd (by decide) hc) | refine And.intro (fun hc => absurd hc (by decide)) (fun _ => ?_) | refine And.intro (by decide) ?_ | refine And.intro rfl ?_))
  conv => whnf
  refine call_run (by omega) (fun dd1 hdd1 => ?_)
  refine wt_run 90 cd_5_init [] rfl (by decide) ?_
  repeat ((conv => whnf); (first | refine And.intro (fun _ => ?_) (fun hc => absurd (by decide) hc) | refine And.intro (fun hc => absurd hc (by decide)) (fun _ => ?_) | refine And.intro (by decide) ?_ | refine And.intro rfl ?_))
  conv => whnf
  exact h
set_option maxRecDepth 100000 in
set_option maxHeartbeats 16000000 in
theorem ic_22 {d : Nat} {M : Mm} {Q : Po} (hd : 8 < d) (h : Run d 91 119 208 [(0, (2, 2)), (3, (0, 6))] [] (60, [[], [], [3, 12, 19, 27, 36, 41, 37, 38, 51, 52, 53, 0, 0, 0, 0, 0], [4, 0, 0, 0, 0, 0, 0, 5, 0, 0, 0, 0, 0], [], [6, 7, 8, 10, 0, 0, 0], [], [], [9, 0, 0], [], [11, 0, 0], [], [13, 14, 15, 17, 0, 0, 0], [], [], [16, 0, 0], [], [18, 0, 0], [], [0, 0, 0, 20, 21, 22, 23, 24, 25, 26], [], [], [], [], [], [], [], [19, 12, 28, 29, 0, 30, 31, 32, 33], [], [], [], [], [], [], [], [], [19, 27, 34, 0, 0], [19, 27, 0, 0], [19, 27, 34, 35, 39, 40, 0], [], [], [], [19, 27, 0, 43, 44, 34, 35, 0], [], [], [19, 27, 0, 46, 47, 34, 35, 0], [], [], [19, 27, 0, 49, 50, 34, 35, 0], [], [], [0, 0, 0], [0, 0, 0], [], [0, 0, 0], [0, 0, 0], [0, 0, 0], [0, 0, 0], [0, 0, 0], [0, 0, 0]]) (up2 (upR M 59 fun _ => 0) 53 5 59) Q) : Run d 91 119 208 [(0, (2, 2)), (3, (0, 5))] [] (59, [[], [], [3, 12, 19, 27, 36, 41, 37, 38, 51, 52, 53, 0, 0, 0, 0, 0], [4, 0, 0, 0, 0, 0, 0, 5, 0, 0, 0, 0, 0], [], [6, 7, 8, 10, 0, 0, 0], [], [], [9, 0, 0], [], [11, 0, 0], [], [13, 14, 15, 17, 0, 0, 0], [], [], [16, 0, 0], [], [18, 0, 0], [], [0, 0, 0, 20, 21, 22, 23, 24, 25, 26], [], [], [], [], [], [], [], [19, 12, 28, 29, 0, 30, 31, 32, 33], [], [], [], [], [], [], [], [], [19, 27, 34, 0, 0], [19, 27, 0, 0], [19, 27, 34, 35, 39, 40, 0], [], [], [], [19, 27, 0, 43, 44, 34, 35, 0], [], [], [19, 27, 0, 46, 47, 34, 35, 0], [], [], [19, 27, 0, 49, 50, 34, 35, 0], [], [], [0, 0, 0], [0, 0, 0], [], [0, 0, 0], [0, 0, 0], [0, 0, 0], [0, 0, 0], [0, 0, 0]]) M Q := by
  refine wt_run 120 cd_11_init [(208, [0, 3])] rfl (by decide) ?_
  repeat ((conv => whnf); (first | refine And.intro (fun _ => ?_) (fun hc => absurd (by decide) hc) | refine And.intro (fun hc => absurd hc (by decide)) (fun _ => ?_) | refine And.intro (by decide) ?_ | refine And.intro rfl ?_))
  conv => whnf
  refine call_run (by omega) (fun dd1 hdd1 => ?_)
  refine wt_run 90 cd_5_init [] rfl (by decide) ?_
  repeat ((conv => whnf); (first | refine And.intro (fun _ => ?_) (fun hc => absurd (by decide) hc) | refine And.intro (fun hc => absurd hc (by decide)) (fun _ => ?_) | refine And.intro (by decide) ?_ | refine And.intro rfl ?_))
  conv => whnf
  exact h
set_option maxRecDepth 100000 in
set_option maxHeartbeats 16000000 in
theorem ic_23 {d : Nat} {M : Mm} {Q : Po} (hd : 8 < d) (h : Run d 91 119 208 [(0, (2, 2)), (3, (0, 7))] [] (61, [[], [], [3, 12, 19, 27, 36, 41, 37, 38, 51, 52, 53, 0, 0, 0, 0, 0], [4, 0, 0, 0, 0, 0, 0, 5, 0, 0, 0, 0, 0], [], [6, 7, 8, 10, 0, 0, 0], [], [], [9, 0, 0], [], [11, 0, 0], [], [13, 14, 15, 17, 0, 0, 0], [], [], [16, 0, 0], [], [18, 0, 0], [], [0, 0, 0, 20, 21, 22, 23, 24, 25, 26], [], [], [], [], [], [], [], [19, 12, 28, 29, 0, 30, 31, 32, 33], [], [], [], [], [], [], [], [], [19, 27, 34, 0, 0], [19, 27, 0, 0], [19, 27, 34, 35, 39, 40, 0], [], [], [], [19, 27, 0, 43, 44, 34, 35, 0], [], [], [19, 27, 0, 46, 47, 34, 35, 0], [], [], [19, 27, 0, 49, 50, 34, 35, 0], [], [], [0, 0, 0], [0, 0, 0], [], [0, 0, 0], [0, 0, 0], [0, 0, 0], [0, 0, 0], [0, 0, 0], [0, 0, 0], [0, 0, 0]]) (up2 (upR M 60 fun _ => 0) 53 6 60) Q) : Run d 91 119 208 [(0, (2, 2)), (3, (0, 6))] [] (60, [[], [], [3, 12, 19, 27, 36, 41, 37, 38, 51, 52, 53, 0, 0, 0, 0, 0], [4, 0, 0, 0, 0, 0, 0, 5, 0, 0, 0, 0, 0], [], [6, 7, 8, 10, 0, 0, 0], [], [], [9, 0, 0], [], [11, 0, 0], [], [13, 14, 15, 17, 0, 0, 0], [], [], [16, 0, 0], [], [18, 0, 0], [], [0, 0, 0, 20, 21, 22, 23, 24, 25, 26], [], [], [], [], [], [], [], [19, 12, 28, 29, 0, 30, 31, 32, 33], [], [], [], [], [], [], [], [], [19, 27, 34, 0, 0], [19, 27, 0, 0], [19, 27, 34, 35, 39, 40, 0], [], [], [], [19, 27, 0, 43, 44, 34, 35, 0], [], [], [19, 27, 0, 46, 47, 34, 35, 0], [], [], [19, 27, 0, 49, 50, 34, 35, 0], [], [], [0, 0, 0], [0, 0, 0], [], [0, 0, 0], [0, 0, 0], [0, 0, 0], [0, 0, 0], [0, 0, 0], [0, 0, 0]]) M Q := by
  refine wt_run 120 cd_11_init [(208, [0, 3])] rfl (by decide) ?_
  repeat ((conv => whnf); (first | refine And.intro (fun _ => ?_) (fun hc => absurd (by decide) hc) | refine And.intro (fun hc => absurd hc (by decide)) (fun _ => ?_) | refine And.intro (by decide) ?_ | refine And.intro rfl ?_))
  conv => whnf
  refine call_run (by omega) (fun dd1 hdd1 => ?_)
  refine wt_run 90 cd_5_init [] rfl (by decide) ?_
  repeat ((conv => whnf); (first | refine And.intro (fun _ => ?_) (fun hc => absurd (by decide) hc) | refine And.intro (fun hc => absurd hc (by decide)) (fun _ => ?_) | refine And.intro (by decide) ?_ | refine And.intro rfl ?_))
  conv => whnf
  exact h
set_option maxRecDepth 100000 in
set_option maxHeartbeats 16000000 in
theorem ic_24 {d : Nat} {M : Mm} {Q : Po} (hd : 8 < d) (h : Run d 91 119 208 [(0, (2, 2)), (3, (0, 8))] [] (62, [[], [], [3, 12, 19, 27, 36, 41, 37, 38, 51, 52, 53, 0, 0, 0, 0, 0], [4, 0, 0, 0, 0, 0, 0, 5, 0, 0, 0, 0, 0], [], [6, 7, 8, 10, 0, 0, 0], [], [], [9, 0, 0], [], [11, 0, 0], [], [13, 14, 15, 17, 0, 0, 0], [], [], [16, 0, 0], [], [18, 0, 0], [], [0, 0, 0, 20, 21, 22, 23, 24, 25, 26], [], [], [], [], [], [], [], [19, 12, 28, 29, 0, 30, 31, 32, 33], [], [], [], [], [], [], [], [], [19, 27, 34, 0, 0], [19, 27, 0, 0], [19, 27, 34, 35, 39, 40, 0], [], [], [], [19, 27, 0, 43, 44, 34, 35, 0], [], [], [19, 27, 0, 46, 47, 34, 35, 0], [], [], [19, 27, 0, 49, 50, 34, 35, 0], [], [], [0, 0, 0], [0, 0, 0], [], [0, 0, 0], [0, 0, 0], [0, 0, 0], [0, 0, 0], [0, 0, 0], [0, 0, 0], [0, 0, 0], [0, 0, 0]]) (up2 (upR M 61 fun _ => 0) 53 7 61) Q) : Run d 91 119 208 [(0, (2, 2)), (3, (0, 7))] [] (61, [[], [], [3, 12, 19, 27, 36, 41, 37, 38, 51, 52, 53, 0, 0, 0, 0, 0], [4, 0, 0, 0, 0, 0, 0, 5, 0, 0, 0, 0, 0], [], [6, 7, 8, 10, 0, 0, 0], [], [], [9, 0, 0], [], [11, 0, 0], [], [13, 14, 15, 17, 0, 0, 0], [], [], [16, 0, 0], [], [18, 0, 0], [], [0, 0, 0, 20, 21, 22, 23, 24, 25, 26], [], [], [], [], [], [], [], [19, 12, 28, 29, 0, 30, 31, 32, 33], [], [], [], [], [], [], [], [], [19, 27, 34, 0, 0], [19, 27, 0, 0], [19, 27, 34, 35, 39, 40, 0], [], [], [], [19, 27, 0, 43, 44, 34, 35, 0], [], [], [19, 27, 0, 46, 47, 34, 35, 0], [], [], [19, 27, 0, 49, 50, 34, 35, 0], [], [], [0, 0, 0], [0, 0, 0], [], [0, 0, 0], [0, 0, 0], [0, 0, 0], [0, 0, 0], [0, 0, 0], [0, 0, 0], [0, 0, 0]]) M Q := by
  refine wt_run 120 cd_11_init [(208, [0, 3])] rfl (by decide) ?_
  repeat ((conv => whnf); (first | refine And.intro (fun _ => ?_) (fun hc => absurd (by decide) hc) | refine And.intro (fun hc => absurd hc (by decide)) (fun _ => ?_) | refine And.intro (by decide) ?_ | refine And.intro rfl ?_))
  conv => whnf
  refine call_run (by omega) (fun dd1 hdd1 => ?_)
  refine wt_run 90 cd_5_init [] rfl (by decide) ?_
  repeat ((conv => whnf); (first | refine And.intro (fun _ => ?_) (fun hc => absurd (by decide) hc) | refine And.intro (fun hc => absurd hc (by decide)) (fun _ => ?_) | refine And.intro (by decide) ?_ | refine And.intro rfl ?_))
  conv => whnf
  exact h
set_option maxRecDepth 100000 in
set_option maxHeartbeats 16000000 in
theorem ic_25 {d : Nat} {M : Mm} {Q : Po} (hd : 8 < d) (h : Run d 91 119 208 [(0, (2, 2)), (3, (0, 9))] [] (63, [[], [], [3, 12, 19, 27, 36, 41, 37, 38, 51, 52, 53, 0, 0, 0, 0, 0], [4, 0, 0, 0, 0, 0, 0, 5, 0, 0, 0, 0, 0], [], [6, 7, 8, 10, 0, 0, 0], [], [], [9, 0, 0], [], [11, 0, 0], [], [13, 14, 15, 17, 0, 0, 0], [], [], [16, 0, 0], [], [18, 0, 0], [], [0, 0, 0, 20, 21, 22, 23, 24, 25, 26], [], [], [], [], [], [], [], [19, 12, 28, 29, 0, 30, 31, 32, 33], [], [], [], [], [], [], [], [], [19, 27, 34, 0, 0], [19, 27, 0, 0], [19, 27, 34, 35, 39, 40, 0], [], [], [], [19, 27, 0, 43, 44, 34, 35, 0], [], [], [19, 27, 0, 46, 47, 34, 35, 0], [], [], [19, 27, 0, 49, 50, 34, 35, 0], [], [], [0, 0, 0], [0, 0, 0], [], [0, 0, 0], [0, 0, 0], [0, 0, 0], [0, 0, 0], [0, 0, 0], [0, 0, 0], [0, 0, 0], [0, 0, 0], [0, 0, 0]]) (up2 (upR M 62 fun _ => 0) 53 8 62) Q) : Run d 91 119 208 [(0, (2, 2)), (3, (0, 8))] [] (62, [[], [], [3, 12, 19, 27, 36, 41, 37, 38, 51, 52, 53, 0, 0, 0, 0, 0], [4, 0, 0, 0, 0, 0, 0, 5, 0, 0, 0, 0, 0], [], [6, 7, 8, 10, 0, 0, 0], [], [], [9, 0, 0], [], [11, 0, 0], [], [13, 14, 15, 17, 0, 0, 0], [], [], [16, 0, 0], [], [18, 0, 0], [], [0, 0, 0, 20, 21, 22, 23, 24, 25, 26], [], [], [], [], [], [], [], [19, 12, 28, 29, 0, 30, 31, 32, 33], [], [], [], [], [], [], [], [], [19, 27, 34, 0, 0], [19, 27, 0, 0], [19, 27, 34, 35, 39, 40, 0], [], [], [], [19, 27, 0, 43, 44, 34, 35, 0], [], [], [19, 27, 0, 46, 47, 34, 35, 0], [], [], [19, 27, 0, 49, 50, 34, 35, 0], [], [], [0, 0, 0], [0, 0, 0], [], [0, 0, 0], [0, 0, 0], [0, 0, 0], [0, 0, 0], [0, 0, 0], [0, 0, 0], [0, 0, 0], [0, 0, 0]]) M Q := by
  refine wt_run 120 cd_11_init [(208, [0, 3])] rfl (by decide) ?_
  repeat ((conv => whnf); (first | refine And.intro (fun _ => ?_) (fun hc => absurd (by decide) hc) | refine And.intro (fun hc => absurd hc (by decide)) (fun _ => ?_) | refine And.intro (by decide) ?_ | refine And.intro rfl ?_))
  conv => whnf
  refine call_run (by omega) (fun dd1 hdd1 => ?_)
  refine wt_run 90 cd_5_init [] rfl (by decide) ?_
  repeat ((conv => whnf); (first | refine And.intro (fun _ => ?_) (fun hc => absurd (by decide) hc) | refine And.intro (fun hc => absurd hc (by decide)) (fun _ => ?_) | refine And.intro (by decide) ?_ | refine And.intro rfl ?_))
  conv => whnf
  exact h
set_option maxRecDepth 100000 in
set_option maxHeartbeats 16000000 in
theorem ic_26 {d : Nat} {M : Mm} {Q : Po} (hd : 8 < d) (h : Run d 91 119 208 [(0, (2, 2)), (3, (0, 10))] [] (64, [[], [], [3, 12, 19, 27, 36, 41, 37, 38, 51, 52, 53, 0, 0, 0, 0, 0], [4, 0, 0, 0, 0, 0, 0, 5, 0, 0, 0, 0, 0], [], [6, 7, 8, 10, 0, 0, 0], [], [], [9, 0, 0], [], [11, 0, 0], [], [13, 14, 15, 17, 0, 0, 0], [], [], [16, 0, 0], [], [18, 0, 0], [], [0, 0, 0, 20, 21, 22, 23, 24, 25, 26], [], [], [], [], [], [], [], [19, 12, 28, 29, 0, 30, 31, 32, 33], [], [], [], [], [], [], [], [], [19, 27, 34, 0, 0], [19, 27, 0, 0], [19, 27, 34, 35, 39, 40, 0], [], [], [], [19, 27, 0, 43, 44, 34, 35, 0], [], [], [19, 27, 0, 46, 47, 34, 35, 0], [], [], [19, 27, 0, 49, 50, 34, 35, 0], [], [], [0, 0, 0], [0, 0, 0], [], [0, 0, 0], [0, 0, 0], [0, 0, 0], [0, 0, 0], [0, 0, 0], [0, 0, 0], [0, 0, 0], [0, 0, 0], [0, 0, 0], [0, 0, 0]]) (up2 (upR M 63 fun _ => 0) 53 9 63) Q) : Run d 91 119 208 [(0, (2, 2)), (3, (0, 9))] [] (63, [[], [], [3, 12, 19, 27, 36, 41, 37, 38, 51, 52, 53, 0, 0, 0, 0, 0], [4, 0, 0, 0, 0, 0, 0, 5, 0, 0, 0, 0, 0], [], [6, 7, 8, 10, 0, 0, 0], [], [], [9, 0, 0], [], [11, 0, 0], [], [13, 14, 15, 17, 0, 0, 0], [], [], [16, 0, 0], [], [18, 0, 0], [], [0, 0, 0, 20, 21, 22, 23, 24, 25, 26], [], [], [], [], [], [], [], [19, 12, 28, 29, 0, 30, 31, 32, 33], [], [], [], [], [], [], [], [], [19, 27, 34, 0, 0], [19, 27, 0, 0], [19, 27, 34, 35, 39, 40, 0], [], [], [], [19, 27, 0, 43, 44, 34, 35, 0], [], [], [19, 27, 0, 46, 47, 34, 35, 0], [], [], [19, 27, 0, 49, 50, 34, 35, 0], [], [], [0, 0, 0], [0, 0, 0], [], [0, 0, 0], [0, 0, 0], [0, 0, 0], [0, 0, 0], [0, 0, 0], [0, 0, 0], [0, 0, 0], [0, 0, 0], [0, 0, 0]]) M Q := by
  refine wt_run 120 cd_11_init [(208, [0, 3])] rfl (by decide) ?_
  repeat ((conv => whnf); (first | refine And.intro (fun _ => ?_) (fun hc => absurd (by decide) hc) | refine And.intro (fun hc => absurd hc (by decide)) (fun _ => ?_) | refine And.intro (by decide) ?_ | refine And.intro rfl ?_))
  conv => whnf
  refine call_run (by omega) (fun dd1 hdd1 => ?_)
  refine wt_run 90 cd_5_init [] rfl (by decide) ?_
  repeat ((conv => whnf); (first | refine And.intro (fun _ => ?_) (fun hc => absurd (by decide) hc) | refine And.intro (fun hc => absurd hc (by decide)) (fun _ => ?_) | refine And.intro (by decide) ?_ | refine And.intro rfl ?_))
  conv => whnf
  exact h
set_option maxRecDepth 100000 in
set_option maxHeartbeats 16000000 in
theorem ic_27 {d : Nat} {M : Mm} {Q : Po} (hd : 8 < d) (h : Run d 91 119 233 [(0, (2, 2))] [] (64, [[], [], [3, 12, 19, 27, 36, 41, 37, 38, 51, 52, 53, 0, 0, 0, 0, 0], [4, 0, 0, 0, 0, 0, 0, 5, 0, 0, 0, 0, 0], [], [6, 7, 8, 10, 0, 0, 0], [], [], [9, 0, 0], [], [11, 0, 0], [], [13, 14, 15, 17, 0, 0, 0], [], [], [16, 0, 0], [], [18, 0, 0], [], [0, 0, 0, 20, 21, 22, 23, 24, 25, 26], [], [], [], [], [], [], [], [19, 12, 28, 29, 0, 30, 31, 32, 33], [], [], [], [], [], [], [], [], [19, 27, 34, 0, 0], [19, 27, 0, 0], [19, 27, 34, 35, 39, 40, 0], [], [], [], [19, 27, 0, 43, 44, 34, 35, 0], [], [], [19, 27, 0, 46, 47, 34, 35, 0], [], [], [19, 27, 0, 49, 50, 34, 35, 0], [], [], [0, 0, 0], [0, 0, 0], [], [0, 0, 0], [0, 0, 0], [0, 0, 0], [0, 0, 0], [0, 0, 0], [0, 0, 0], [0, 0, 0], [0, 0, 0], [0, 0, 0], [0, 0, 0]]) M Q) : Run d 91 119 208 [(0, (2, 2)), (3, (0, 10))] [] (64, [[], [], [3, 12, 19, 27, 36, 41, 37, 38, 51, 52, 53, 0, 0, 0, 0, 0], [4, 0, 0, 0, 0, 0, 0, 5, 0, 0, 0, 0, 0], [], [6, 7, 8, 10, 0, 0, 0], [], [], [9, 0, 0], [], [11, 0, 0], [], [13, 14, 15, 17, 0, 0, 0], [], [], [16, 0, 0], [], [18, 0, 0], [], [0, 0, 0, 20, 21, 22, 23, 24, 25, 26], [], [], [], [], [], [], [], [19, 12, 28, 29, 0, 30, 31, 32, 33], [], [], [], [], [], [], [], [], [19, 27, 34, 0, 0], [19, 27, 0, 0], [19, 27, 34, 35, 39, 40, 0], [], [], [], [19, 27, 0, 43, 44, 34, 35, 0], [], [], [19, 27, 0, 46, 47, 34, 35, 0], [], [], [19, 27, 0, 49, 50, 34, 35, 0], [], [], [0, 0, 0], [0, 0, 0], [], [0, 0, 0], [0, 0, 0], [0, 0, 0], [0, 0, 0], [0, 0, 0], [0, 0, 0], [0, 0, 0], [0, 0, 0], [0, 0, 0], [0, 0, 0]]) M Q := by
  refine wt_run 120 cd_11_init [(233, [0])] rfl (by decide) ?_
  repeat ((conv => whnf); (first | refine And.intro (fun _ => ?_) (fun hc => absurd (by decide) hc) | refine And.intro (fun hc => absurd hc (by decide)) (fun _ => ?_) | refine And.intro (by decide) ?_ | refine And.intro rfl ?_))
  conv => whnf
  exact h
set_option maxRecDepth 100000 in
set_option maxHeartbeats 16000000 in
theorem ic_28 {d : Nat} {M : Mm} {Q : Po} (hd : 8 < d) (h : Run d 91 119 243 [(0, (2, 2)), (3, (0, 0))] [] (65, [[], [], [3, 12, 19, 27, 36, 41, 37, 38, 51, 52, 53, 0, 64, 0, 0, 0], [4, 0, 0, 0, 0, 0, 0, 5, 0, 0, 0, 0, 0], [], [6, 7, 8, 10, 0, 0, 0], [], [], [9, 0, 0], [], [11, 0, 0], [], [13, 14, 15, 17, 0, 0, 0], [], [], [16, 0, 0], [], [18, 0, 0], [], [0, 0, 0, 20, 21, 22, 23, 24, 25, 26], [], [], [], [], [], [], [], [19, 12, 28, 29, 0, 30, 31, 32, 33], [], [], [], [], [], [], [], [], [19, 27, 34, 0, 0], [19, 27, 0, 0], [19, 27, 34, 35, 39, 40, 0], [], [], [], [19, 27, 0, 43, 44, 34, 35, 0], [], [], [19, 27, 0, 46, 47, 34, 35, 0], [], [], [19, 27, 0, 49, 50, 34, 35, 0], [], [], [0, 0, 0], [0, 0, 0], [], [0, 0, 0], [0, 0, 0], [0, 0, 0], [0, 0, 0], [0, 0, 0], [0, 0, 0], [0, 0, 0], [0, 0, 0], [0, 0, 0], [0, 0, 0], []]) (upR M 64 fun _ => 0) Q) : Run d 91 119 233 [(0, (2, 2))] [] (64, [[], [], [3, 12, 19, 27, 36, 41, 37, 38, 51, 52, 53, 0, 0, 0, 0, 0], [4, 0, 0, 0, 0, 0, 0, 5, 0, 0, 0, 0, 0], [], [6, 7, 8, 10, 0, 0, 0], [], [], [9, 0, 0], [], [11, 0, 0], [], [13, 14, 15, 17, 0, 0, 0], [], [], [16, 0, 0], [], [18, 0, 0], [], [0, 0, 0, 20, 21, 22, 23, 24, 25, 26], [], [], [], [], [], [], [], [19, 12, 28, 29, 0, 30, 31, 32, 33], [], [], [], [], [], [], [], [], [19, 27, 34, 0, 0], [19, 27, 0, 0], [19, 27, 34, 35, 39, 40, 0], [], [], [], [19, 27, 0, 43, 44, 34, 35, 0], [], [], [19, 27, 0, 46, 47, 34, 35, 0], [], [], [19, 27, 0, 49, 50, 34, 35, 0], [], [], [0, 0, 0], [0, 0, 0], [], [0, 0, 0], [0, 0, 0], [0, 0, 0], [0, 0, 0], [0, 0, 0], [0, 0, 0], [0, 0, 0], [0, 0, 0], [0, 0, 0], [0, 0, 0]]) M Q := by
  refine wt_run 120 cd_11_init [(243, [0, 3])] rfl (by decide) ?_
  repeat ((conv => whnf); (first | refine And.intro (fun _ => ?_) (fun hc => absurd (by decide) hc) | refine And.intro (fun hc => absurd hc (by decide)) (fun _ => ?_) | refine And.intro (by decide) ?_ | refine And.intro rfl ?_))
  conv => whnf
  exact h
set_option maxRecDepth 100000 in
set_option maxHeartbeats 16000000 in
theorem ic_29 {d : Nat} {M : Mm} {Q : Po} (hd : 8 < d) (h : Run d 91 119 243 [(0, (2, 2)), (3, (0, 1))] [] (67, [[], [], [3, 12, 19, 27, 36, 41, 37, 38, 51, 52, 53, 0, 64, 0, 0, 0], [4, 0, 0, 0, 0, 0, 0, 5, 0, 0, 0, 0, 0], [], [6, 7, 8, 10, 0, 0, 0], [], [], [9, 0, 0], [], [11, 0, 0], [], [13, 14, 15, 17, 0, 0, 0], [], [], [16, 0, 0], [], [18, 0, 0], [], [0, 0, 0, 20, 21, 22, 23, 24, 25, 26], [], [], [], [], [], [], [], [19, 12, 28, 29, 0, 30, 31, 32, 33], [], [], [], [], [], [], [], [], [19, 27, 34, 0, 0], [19, 27, 0, 0], [19, 27, 34, 35, 39, 40, 0], [], [], [], [19, 27, 0, 43, 44, 34, 35, 0], [], [], [19, 27, 0, 46, 47, 34, 35, 0], [], [], [19, 27, 0, 49, 50, 34, 35, 0], [], [], [0, 0, 0], [0, 0, 0], [], [0, 0, 0], [0, 0, 0], [0, 0, 0], [0, 0, 0], [0, 0, 0], [0, 0, 0], [0, 0, 0], [0, 0, 0], [0, 0, 0], [0, 0, 0], [], [66, 0, 0], []]) (up2 (up2 (upR (upR M 65 fun _ => 0) 66 fun _ => 0) 65 1 (-1)) 64 0 65) Q) : Run d 91 119 243 [(0, (2, 2)), (3, (0, 0))] [] (65, [[], [], [3, 12, 19, 27, 36, 41, 37, 38, 51, 52, 53, 0, 64, 0, 0, 0], [4, 0, 0, 0, 0, 0, 0, 5, 0, 0, 0, 0, 0], [], [6, 7, 8, 10, 0, 0, 0], [], [], [9, 0, 0], [], [11, 0, 0], [], [13, 14, 15, 17, 0, 0, 0], [], [], [16, 0, 0], [], [18, 0, 0], [], [0, 0, 0, 20, 21, 22, 23, 24, 25, 26], [], [], [], [], [], [], [], [19, 12, 28, 29, 0, 30, 31, 32, 33], [], [], [], [], [], [], [], [], [19, 27, 34, 0, 0], [19, 27, 0, 0], [19, 27, 34, 35, 39, 40, 0], [], [], [], [19, 27, 0, 43, 44, 34, 35, 0], [], [], [19, 27, 0, 46, 47, 34, 35, 0], [], [], [19, 27, 0, 49, 50, 34, 35, 0], [], [], [0, 0, 0], [0, 0, 0], [], [0, 0, 0], [0, 0, 0], [0, 0, 0], [0, 0, 0], [0, 0, 0], [0, 0, 0], [0, 0, 0], [0, 0, 0], [0, 0, 0], [0, 0, 0], []]) M Q := by
  refine wt_run 120 cd_11_init [(243, [0, 3])] rfl (by decide) ?_
  repeat ((conv => whnf); (first | refine And.intro (fun _ => ?_) (fun hc => absurd (by decide) hc) | refine And.intro (fun hc => absurd hc (by decide)) (fun _ => ?_) | refine And.intro (by decide) ?_ | refine And.intro rfl ?_))
  conv => whnf
  refine call_run (by omega) (fun dd1 hdd1 => ?_)
  refine wt_run 90 cd_10_init [] rfl (by decide) ?_
  repeat ((conv => whnf); (first | refine And.intro (fun _ => ?_) (fun hc => absurd (by decide) hc) | refine And.intro (fun hc => absurd hc (by decide)) (fun _ => ?_) | refine And.intro (by decide) ?_ | refine And.intro rfl ?_))
  conv => whnf
  exact h
set_option maxRecDepth 100000 in
set_option maxHeartbeats 16000000 in
theorem ic_30 {d : Nat} {M : Mm} {Q : Po} (hd : 8 < d) (h : Run d 91 119 243 [(0, (2, 2)), (3, (0, 2))] [] (69, [[], [], [3, 12, 19, 27, 36, 41, 37, 38, 51, 52, 53, 0, 64, 0, 0, 0], [4, 0, 0, 0, 0, 0, 0, 5, 0, 0, 0, 0, 0], [], [6, 7, 8, 10, 0, 0, 0], [], [], [9, 0, 0], [], [11, 0, 0], [], [13, 14, 15, 17, 0, 0, 0], [], [], [16, 0, 0], [], [18, 0, 0], [], [0, 0, 0, 20, 21, 22, 23, 24, 25, 26], [], [], [], [], [], [], [], [19, 12, 28, 29, 0, 30, 31, 32, 33], [], [], [], [], [], [], [], [], [19, 27, 34, 0, 0], [19, 27, 0, 0], [19, 27, 34, 35, 39, 40, 0], [], [], [], [19, 27, 0, 43, 44, 34, 35, 0], [], [], [19, 27, 0, 46, 47, 34, 35, 0], [], [], [19, 27, 0, 49, 50, 34, 35, 0], [], [], [0, 0, 0], [0, 0, 0], [], [0, 0, 0], [0, 0, 0], [0, 0, 0], [0, 0, 0], [0, 0, 0], [0, 0, 0], [0, 0, 0], [0, 0, 0], [0, 0, 0], [0, 0, 0], [], [66, 0, 0], [], [68, 0, 0], []]) (up2 (up2 (upR (upR M 67 fun _ => 0) 68 fun _ => 0) 67 1 (-1)) 64 1 67) Q) : Run d 91 119 243 [(0, (2, 2)), (3, (0, 1))] [] (67, [[], [], [3, 12, 19, 27, 36, 41, 37, 38, 51, 52, 53, 0, 64, 0, 0, 0], [4, 0, 0, 0, 0, 0, 0, 5, 0, 0, 0, 0, 0], [], [6, 7, 8, 10, 0, 0, 0], [], [], [9, 0, 0], [], [11, 0, 0], [], [13, 14, 15, 17, 0, 0, 0], [], [], [16, 0, 0], [], [18, 0, 0], [], [0, 0, 0, 20, 21, 22, 23, 24, 25, 26], [], [], [], [], [], [], [], [19, 12, 28, 29, 0, 30, 31, 32, 33], [], [], [], [], [], [], [], [], [19, 27, 34, 0, 0], [19, 27, 0, 0], [19, 27, 34, 35, 39, 40, 0], [], [], [], [19, 27, 0, 43, 44, 34, 35, 0], [], [], [19, 27, 0, 46, 47, 34, 35, 0], [], [], [19, 27, 0, 49, 50, 34, 35, 0], [], [], [0, 0, 0], [0, 0, 0], [], [0, 0, 0], [0, 0, 0], [0, 0, 0], [0, 0, 0], [0, 0, 0], [0, 0, 0], [0, 0, 0], [0, 0, 0], [0, 0, 0], [0, 0, 0], [], [66, 0, 0], []]) M Q := by
  refine wt_run 120 cd_11_init [(243, [0, 3])] rfl (by decide) ?_
  repeat ((conv => whnf); (first | refine And.intro (fun _ => ?_) (fun hc => absurd (by decide) hc) | refine And.intro (fun hc => absurd hc (by decide)) (fun _ => ?_) | refine And.intro (by decide) ?_ | refine And.intro rfl ?_))
  conv => whnf
  refine call_run (by omega) (fun dd1 hdd1 => ?_)
  refine wt_run 90 cd_10_init [] rfl (by decide) ?_
  repeat ((conv => whnf); (first | refine And.intro (fun _ => ?_) (fun hc => absurd (by decide) hc) | refine And.intro (fun hc => absurd hc (by decide)) (fun _ => ?_) | refine And.intro (by decide) ?_ | refine And.intro rfl ?_))
  conv => whnf
  exact h
set_option maxRecDepth 100000 in
set_option maxHeartbeats 16000000 in
theorem ic_31 {d : Nat} {M : Mm} {Q : Po} (hd : 8 < d) (h : Run d 91 119 243 [(0, (2, 2)), (3, (0, 3))] [] (71, [[], [], [3, 12, 19, 27, 36, 41, 37, 38, 51, 52, 53, 0, 64, 0, 0, 0], [4, 0, 0, 0, 0, 0, 0, 5, 0, 0, 0, 0, 0], [], [6, 7, 8, 10, 0, 0, 0], [], [], [9, 0, 0], [], [11, 0, 0], [], [13, 14, 15, 17, 0, 0, 0], [], [], [16, 0, 0], [], [18, 0, 0], [], [0, 0, 0, 20, 21, 22, 23, 24, 25, 26], [], [], [], [], [], [], [], [19, 12, 28, 29, 0, 30, 31, 32, 33], [], [], [], [], [], [], [], [], [19, 27, 34, 0, 0], [19, 27, 0, 0], [19, 27, 34, 35, 39, 40, 0], [], [], [], [19, 27, 0, 43, 44, 34, 35, 0], [], [], [19, 27, 0, 46, 47, 34, 35, 0], [], [], [19, 27, 0, 49, 50, 34, 35, 0], [], [], [0, 0, 0], [0, 0, 0], [], [0, 0, 0], [0, 0, 0], [0, 0, 0], [0, 0, 0], [0, 0, 0], [0, 0, 0], [0, 0, 0], [0, 0, 0], [0, 0, 0], [0, 0, 0], [], [66, 0, 0], [], [68, 0, 0], [], [70, 0, 0], []]) (up2 (up2 (upR (upR M 69 fun _ => 0) 70 fun _ => 0) 69 1 (-1)) 64 2 69) Q) : Run d 91 119 243 [(0, (2, 2)), (3, (0, 2))] [] (69, [[], [], [3, 12, 19, 27, 36, 41, 37, 38, 51, 52, 53, 0, 64, 0, 0, 0], [4, 0, 0, 0, 0, 0, 0, 5, 0, 0, 0, 0, 0], [], [6, 7, 8, 10, 0, 0, 0], [], [], [9, 0, 0], [], [11, 0, 0], [], [13, 14, 15, 17, 0, 0, 0], [], [], [16, 0, 0], [], [18, 0, 0], [], [0, 0, 0, 20, 21, 22, 23, 24, 25, 26], [], [], [], [], [], [], [], [19, 12, 28, 29, 0, 30, 31, 32, 33], [], [], [], [], [], [], [], [], [19, 27, 34, 0, 0], [19, 27, 0, 0], [19, 27, 34, 35, 39, 40, 0], [], [], [], [19, 27, 0, 43, 44, 34, 35, 0], [], [], [19, 27, 0, 46, 47, 34, 35, 0], [], [], [19, 27, 0, 49, 50, 34, 35, 0], [], [], [0, 0, 0], [0, 0, 0], [], [0, 0, 0], [0, 0, 0], [0, 0, 0], [0, 0, 0], [0, 0, 0], [0, 0, 0], [0, 0, 0], [0, 0, 0], [0, 0, 0], [0, 0, 0], [], [66, 0, 0], [], [68, 0, 0], []]) M Q := by
  refine wt_run 120 cd_11_init [(243, [0, 3])] rfl (by decide) ?_
  repeat ((conv => whnf); (first | refine And.intro (fun _ => ?_) (fun hc => absurd (by decide) hc) | refine And.intro (fun hc => absurd hc (by decide)) (fun _ => ?_) | refine And.intro (by decide) ?_ | refine And.intro rfl ?_))
  conv => whnf
  refine call_run (by omega) (fun dd1 hdd1 => ?_)
  refine wt_run 90 cd_10_init [] rfl (by decide) ?_
  repeat ((conv => whnf); (first | refine And.intro (fun _ => ?_) (fun hc => absurd (by decide) hc) | refine And.intro (fun hc => absurd hc (by decide)) (fun _ => ?_) | refine And.intro (by decide) ?_ | refine And.intro rfl ?_))
  conv => whnf
  exact h
set_option maxRecDepth 100000 in
set_option maxHeartbeats 16000000 in
theorem ic_32 {d : Nat} {M : Mm} {Q : Po} (hd : 8 < d) (h : Run d 91 119 243 [(0, (2, 2)), (3, (0, 4))] [] (73, [[], [], [3, 12, 19, 27, 36, 41, 37, 38, 51, 52, 53, 0, 64, 0, 0, 0], [4, 0, 0, 0, 0, 0, 0, 5, 0, 0, 0, 0, 0], [], [6, 7, 8, 10, 0, 0, 0], [], [], [9, 0, 0], [], [11, 0, 0], [], [13, 14, 15, 17, 0, 0, 0], [], [], [16, 0, 0], [], [18, 0, 0], [], [0, 0, 0, 20, 21, 22, 23, 24, 25, 26], [], [], [], [], [], [], [], [19, 12, 28, 29, 0, 30, 31, 32, 33], [], [], [], [], [], [], [], [], [19, 27, 34, 0, 0], [19, 27, 0, 0], [19, 27, 34, 35, 39, 40, 0], [], [], [], [19, 27, 0, 43, 44, 34, 35, 0], [], [], [19, 27, 0, 46, 47, 34, 35, 0], [], [], [19, 27, 0, 49, 50, 34, 35, 0], [], [], [0, 0, 0], [0, 0, 0], [], [0, 0, 0], [0, 0, 0], [0, 0, 0], [0, 0, 0], [0, 0, 0], [0, 0, 0], [0, 0, 0], [0, 0, 0], [0, 0, 0], [0, 0, 0], [], [66, 0, 0], [], [68, 0, 0], [], [70, 0, 0], [], [72, 0, 0], []]) (up2 (up2 (upR (upR M 71 fun _ => 0) 72 fun _ => 0) 71 1 (-1)) 64 3 71) Q) : Run d 91 119 243 [(0, (2, 2)), (3, (0, 3))] [] (71, [[], [], [3, 12, 19, 27, 36, 41, 37, 38, 51, 52, 53, 0, 64, 0, 0, 0], [4, 0, 0, 0, 0, 0, 0, 5, 0, 0, 0, 0, 0], [], [6, 7, 8, 10, 0, 0, 0], [], [], [9, 0, 0], [], [11, 0, 0], [], [13, 14, 15, 17, 0, 0, 0], [], [], [16, 0, 0], [], [18, 0, 0], [], [0, 0, 0, 20, 21, 22, 23, 24, 25, 26], [], [], [], [], [], [], [], [19, 12, 28, 29, 0, 30, 31, 32, 33], [], [], [], [], [], [], [], [], [19, 27, 34, 0, 0], [19, 27, 0, 0], [19, 27, 34, 35, 39, 40, 0], [], [], [], [19, 27, 0, 43, 44, 34, 35, 0], [], [], [19, 27, 0, 46, 47, 34, 35, 0], [], [], [19, 27, 0, 49, 50, 34, 35, 0], [], [], [0, 0, 0], [0, 0, 0], [], [0, 0, 0], [0, 0, 0], [0, 0, 0], [0, 0, 0], [0, 0, 0], [0, 0, 0], [0, 0, 0], [0, 0, 0], [0, 0, 0], [0, 0, 0], [], [66, 0, 0], [], [68, 0, 0], [], [70, 0, 0], []]) M Q := by
  refine wt_run 120 cd_11_init [(243, [0, 3])] rfl (by decide) ?_
  repeat ((conv => whnf); (first | refine And.intro (fun _ => ?_) (fun hc => absurd (by decide) hc) | refine And.intro (fun hc => absurd hc (by decide)) (fun _ => ?_) | refine And.intro (by decide) ?_ | refine And.intro rfl ?_))
  conv => whnf
  refine call_run (by omega) (fun dd1 hdd1 => ?_)
  refine wt_run 90 cd_10_init [] rfl (by decide) ?_
  repeat ((conv => whnf); (first | refine And.intro (fun _ => ?_) (fun hc => absurd (by decide) hc) | refine And.intro (fun hc => absurd hc (by decide)) (fun _ => ?_) | refine And.intro (by decide) ?_ | refine And.intro rfl ?_))
  conv => whnf
  exact h
set_option maxRecDepth 100000 in
set_option maxHeartbeats 16000000 in
theorem ic_33 {d : Nat} {M : Mm} {Q : Po} (hd : 8 < d) (h : Run d 91 119 267 [(0, (2, 2))] [] (73, [[], [], [3, 12, 19, 27, 36, 41, 37, 38, 51, 52, 53, 0, 64, 0, 0, 0], [4, 0, 0, 0, 0, 0, 0, 5, 0, 0, 0, 0, 0], [], [6, 7, 8, 10, 0, 0, 0], [], [], [9, 0, 0], [], [11, 0, 0], [], [13, 14, 15, 17, 0, 0, 0], [], [], [16, 0, 0], [], [18, 0, 0], [], [0, 0, 0, 20, 21, 22, 23, 24, 25, 26], [], [], [], [], [], [], [], [19, 12, 28, 29, 0, 30, 31, 32, 33], [], [], [], [], [], [], [], [], [19, 27, 34, 0, 0], [19, 27, 0, 0], [19, 27, 34, 35, 39, 40, 0], [], [], [], [19, 27, 0, 43, 44, 34, 35, 0], [], [], [19, 27, 0, 46, 47, 34, 35, 0], [], [], [19, 27, 0, 49, 50, 34, 35, 0], [], [], [0, 0, 0], [0, 0, 0], [], [0, 0, 0], [0, 0, 0], [0, 0, 0], [0, 0, 0], [0, 0, 0], [0, 0, 0], [0, 0, 0], [0, 0, 0], [0, 0, 0], [0, 0, 0], [], [66, 0, 0], [], [68, 0, 0], [], [70, 0, 0], [], [72, 0, 0], []]) M Q) : Run d 91 119 243 [(0, (2, 2)), (3, (0, 4))] [] (73, [[], [], [3, 12, 19, 27, 36, 41, 37, 38, 51, 52, 53, 0, 64, 0, 0, 0], [4, 0, 0, 0, 0, 0, 0, 5, 0, 0, 0, 0, 0], [], [6, 7, 8, 10, 0, 0, 0], [], [], [9, 0, 0], [], [11, 0, 0], [], [13, 14, 15, 17, 0, 0, 0], [], [], [16, 0, 0], [], [18, 0, 0], [], [0, 0, 0, 20, 21, 22, 23, 24, 25, 26], [], [], [], [], [], [], [], [19, 12, 28, 29, 0, 30, 31, 32, 33], [], [], [], [], [], [], [], [], [19, 27, 34, 0, 0], [19, 27, 0, 0], [19, 27, 34, 35, 39, 40, 0], [], [], [], [19, 27, 0, 43, 44, 34, 35, 0], [], [], [19, 27, 0, 46, 47, 34, 35, 0], [], [], [19, 27, 0, 49, 50, 34, 35, 0], [], [], [0, 0, 0], [0, 0, 0], [], [0, 0, 0], [0, 0, 0], [0, 0, 0], [0, 0, 0], [0, 0, 0], [0, 0, 0], [0, 0, 0], [0, 0, 0], [0, 0, 0], [0, 0, 0], [], [66, 0, 0], [], [68, 0, 0], [], [70, 0, 0], [], [72, 0, 0], []]) M Q := by
  refine wt_run 120 cd_11_init [(267, [0])] rfl (by decide) ?_
  repeat ((conv => whnf); (first | refine And.intro (fun _ => ?_) (fun hc => absurd (by decide) hc) | refine And.intro (fun hc => absurd hc (by decide)) (fun _ => ?_) | refine And.intro (by decide) ?_ | refine And.intro rfl ?_))
  conv => whnf
  exact h
set_option maxRecDepth 100000 in
set_option maxHeartbeats 16000000 in
theorem ic_34 {d : Nat} {M : Mm} {Q : Po} (hd : 8 < d) (h : Run d 91 119 275 [(0, (2, 2))] [] (74, [[], [], [3, 12, 19, 27, 36, 41, 37, 38, 51, 52, 53, 0, 64, 73, 0, 0], [4, 0, 0, 0, 0, 0, 0, 5, 0, 0, 0, 0, 0], [], [6, 7, 8, 10, 0, 0, 0], [], [], [9, 0, 0], [], [11, 0, 0], [], [13, 14, 15, 17, 0, 0, 0], [], [], [16, 0, 0], [], [18, 0, 0], [], [0, 0, 0, 20, 21, 22, 23, 24, 25, 26], [], [], [], [], [], [], [], [19, 12, 28, 29, 0, 30, 31, 32, 33], [], [], [], [], [], [], [], [], [19, 27, 34, 0, 0], [19, 27, 0, 0], [19, 27, 34, 35, 39, 40, 0], [], [], [], [19, 27, 0, 43, 44, 34, 35, 0], [], [], [19, 27, 0, 46, 47, 34, 35, 0], [], [], [19, 27, 0, 49, 50, 34, 35, 0], [], [], [0, 0, 0], [0, 0, 0], [], [0, 0, 0], [0, 0, 0], [0, 0, 0], [0, 0, 0], [0, 0, 0], [0, 0, 0], [0, 0, 0], [0, 0, 0], [0, 0, 0], [0, 0, 0], [], [66, 0, 0], [], [68, 0, 0], [], [70, 0, 0], [], [72, 0, 0], [], []]) (upR M 73 fun _ => 0) Q) : Run d 91 119 267 [(0, (2, 2))] [] (73, [[], [], [3, 12, 19, 27, 36, 41, 37, 38, 51, 52, 53, 0, 64, 0, 0, 0], [4, 0, 0, 0, 0, 0, 0, 5, 0, 0, 0, 0, 0], [], [6, 7, 8, 10, 0, 0, 0], [], [], [9, 0, 0], [], [11, 0, 0], [], [13, 14, 15, 17, 0, 0, 0], [], [], [16, 0, 0], [], [18, 0, 0], [], [0, 0, 0, 20, 21, 22, 23, 24, 25, 26], [], [], [], [], [], [], [], [19, 12, 28, 29, 0, 30, 31, 32, 33], [], [], [], [], [], [], [], [], [19, 27, 34, 0, 0], [19, 27, 0, 0], [19, 27, 34, 35, 39, 40, 0], [], [], [], [19, 27, 0, 43, 44, 34, 35, 0], [], [], [19, 27, 0, 46, 47, 34, 35, 0], [], [], [19, 27, 0, 49, 50, 34, 35, 0], [], [], [0, 0, 0], [0, 0, 0], [], [0, 0, 0], [0, 0, 0], [0, 0, 0], [0, 0, 0], [0, 0, 0], [0, 0, 0], [0, 0, 0], [0, 0, 0], [0, 0, 0], [0, 0, 0], [], [66, 0, 0], [], [68, 0, 0], [], [70, 0, 0], [], [72, 0, 0], []]) M Q := by
  refine wt_run 120 cd_11_init [(275, [0])] rfl (by decide) ?_
  repeat ((conv => whnf); (first | refine And.intro (fun _ => ?_) (fun hc => absurd (by decide) hc) | refine And.intro (fun hc => absurd hc (by decide)) (fun _ => ?_) | refine And.intro (by decide) ?_ | refine And.intro rfl ?_))
  conv => whnf
  exact h
set_option maxRecDepth 100000 in
set_option maxHeartbeats 16000000 in
theorem ic_35 {d : Nat} {M : Mm} {Q : Po} (hd : 8 < d) (h : Run d 91 119 285 [(0, (2, 2)), (3, (0, 0))] [] (75, [[], [], [3, 12, 19, 27, 36, 41, 37, 38, 51, 52, 53, 0, 64, 73, 74, 0], [4, 0, 0, 0, 0, 0, 0, 5, 0, 0, 0, 0, 0], [], [6, 7, 8, 10, 0, 0, 0], [], [], [9, 0, 0], [], [11, 0, 0], [], [13, 14, 15, 17, 0, 0, 0], [], [], [16, 0, 0], [], [18, 0, 0], [], [0, 0, 0, 20, 21, 22, 23, 24, 25, 26], [], [], [], [], [], [], [], [19, 12, 28, 29, 0, 30, 31, 32, 33], [], [], [], [], [], [], [], [], [19, 27, 34, 0, 0], [19, 27, 0, 0], [19, 27, 34, 35, 39, 40, 0], [], [], [], [19, 27, 0, 43, 44, 34, 35, 0], [], [], [19, 27, 0, 46, 47, 34, 35, 0], [], [], [19, 27, 0, 49, 50, 34, 35, 0], [], [], [0, 0, 0], [0, 0, 0], [], [0, 0, 0], [0, 0, 0], [0, 0, 0], [0, 0, 0], [0, 0, 0], [0, 0, 0], [0, 0, 0], [0, 0, 0], [0, 0, 0], [0, 0, 0], [], [66, 0, 0], [], [68, 0, 0], [], [70, 0, 0], [], [72, 0, 0], [], [], []]) (upR M 74 fun _ => 0) Q) : Run d 91 119 275 [(0, (2, 2))] [] (74, [[], [], [3, 12, 19, 27, 36, 41, 37, 38, 51, 52, 53, 0, 64, 73, 0, 0], [4, 0, 0, 0, 0, 0, 0, 5, 0, 0, 0, 0, 0], [], [6, 7, 8, 10, 0, 0, 0], [], [], [9, 0, 0], [], [11, 0, 0], [], [13, 14, 15, 17, 0, 0, 0], [], [], [16, 0, 0], [], [18, 0, 0], [], [0, 0, 0, 20, 21, 22, 23, 24, 25, 26], [], [], [], [], [], [], [], [19, 12, 28, 29, 0, 30, 31, 32, 33], [], [], [], [], [], [], [], [], [19, 27, 34, 0, 0], [19, 27, 0, 0], [19, 27, 34, 35, 39, 40, 0], [], [], [], [19, 27, 0, 43, 44, 34, 35, 0], [], [], [19, 27, 0, 46, 47, 34, 35, 0], [], [], [19, 27, 0, 49, 50, 34, 35, 0], [], [], [0, 0, 0], [0, 0, 0], [], [0, 0, 0], [0, 0, 0], [0, 0, 0], [0, 0, 0], [0, 0, 0], [0, 0, 0], [0, 0, 0], [0, 0, 0], [0, 0, 0], [0, 0, 0], [], [66, 0, 0], [], [68, 0, 0], [], [70, 0, 0], [], [72, 0, 0], [], []]) M Q := by
  refine wt_run 120 cd_11_init [(285, [0, 3])] rfl (by decide) ?_
  repeat ((conv => whnf); (first | refine And.intro (fun _ => ?_) (fun hc => absurd (by decide) hc) | refine And.intro (fun hc => absurd hc (by decide)) (fun _ => ?_) | refine And.intro (by decide) ?_ | refine And.intro rfl ?_))
  conv => whnf
  exact h
set_option maxRecDepth 100000 in
set_option maxHeartbeats 16000000 in
theorem ic_36 {d : Nat} {M : Mm} {Q : Po} (hd : 8 < d) (h : Run d 91 119 285 [(0, (2, 2)), (3, (0, 1))] [] (83, [[], [], [3, 12, 19, 27, 36, 41, 37, 38, 51, 52, 53, 0, 64, 73, 74, 0], [4, 0, 0, 0, 0, 0, 0, 5, 0, 0, 0, 0, 0], [], [6, 7, 8, 10, 0, 0, 0], [], [], [9, 0, 0], [], [11, 0, 0], [], [13, 14, 15, 17, 0, 0, 0], [], [], [16, 0, 0], [], [18, 0, 0], [], [0, 0, 0, 20, 21, 22, 23, 24, 25, 26], [], [], [], [], [], [], [], [19, 12, 28, 29, 0, 30, 31, 32, 33], [], [], [], [], [], [], [], [], [19, 27, 34, 0, 0], [19, 27, 0, 0], [19, 27, 34, 35, 39, 40, 0], [], [], [], [19, 27, 0, 43, 44, 34, 35, 0], [], [], [19, 27, 0, 46, 47, 34, 35, 0], [], [], [19, 27, 0, 49, 50, 34, 35, 0], [], [], [0, 0, 0], [0, 0, 0], [], [0, 0, 0], [0, 0, 0], [0, 0, 0], [0, 0, 0], [0, 0, 0], [0, 0, 0], [0, 0, 0], [0, 0, 0], [0, 0, 0], [0, 0, 0], [], [66, 0, 0], [], [68, 0, 0], [], [70, 0, 0], [], [72, 0, 0], [], [], [], [76, 77, 78, 80, 0, 0, 0], [], [], [79, 0, 0], [], [81, 0, 0], [], [0, 0, 0]]) (up2 (upR (up2 (up2 (upR (upR (upR (upR (upR (upR (upR M 75 fun _ => 0) 76 fun _ => 0) 77 fun _ => 0) 78 fun _ => 0) 79 fun _ => 0) 80 fun _ => 0) 81 fun _ => 0) 75 4 1) 73 0 75) 82 fun _ => 0) 74 0 82) Q) : Run d 91 119 285 [(0, (2, 2)), (3, (0, 0))] [] (75, [[], [], [3, 12, 19, 27, 36, 41, 37, 38, 51, 52, 53, 0, 64, 73, 74, 0], [4, 0, 0, 0, 0, 0, 0, 5, 0, 0, 0, 0, 0], [], [6, 7, 8, 10, 0, 0, 0], [], [], [9, 0, 0], [], [11, 0, 0], [], [13, 14, 15, 17, 0, 0, 0], [], [], [16, 0, 0], [], [18, 0, 0], [], [0, 0, 0, 20, 21, 22, 23, 24, 25, 26], [], [], [], [], [], [], [], [19, 12, 28, 29, 0, 30, 31, 32, 33], [], [], [], [], [], [], [], [], [19, 27, 34, 0, 0], [19, 27, 0, 0], [19, 27, 34, 35, 39, 40, 0], [], [], [], [19, 27, 0, 43, 44, 34, 35, 0], [], [], [19, 27, 0, 46, 47, 34, 35, 0], [], [], [19, 27, 0, 49, 50, 34, 35, 0], [], [], [0, 0, 0], [0, 0, 0], [], [0, 0, 0], [0, 0, 0], [0, 0, 0], [0, 0, 0], [0, 0, 0], [0, 0, 0], [0, 0, 0], [0, 0, 0], [0, 0, 0], [0, 0, 0], [], [66, 0, 0], [], [68, 0, 0], [], [70, 0, 0], [], [72, 0, 0], [], [], []]) M Q := by
  refine wt_run 120 cd_11_init [(285, [0, 3])] rfl (by decide) ?_
  repeat ((conv => whnf); (first | refine And.intro (fun _ => ?_) (fun hc => absurd (by decide) hc) | refine And.intro (fun hc => absurd hc (by decide)) (fun _ => ?_) | refine And.intro (by decide) ?_ | refine And.intro rfl ?_))
  conv => whnf
  refine call_run (by omega) (fun dd1 hdd1 => ?_)
  refine wt_run 90 cd_6_init [] rfl (by decide) ?_
  repeat ((conv => whnf); (first | refine And.intro (fun _ => ?_) (fun hc => absurd (by decide) hc) | refine And.intro (fun hc => absurd hc (by decide)) (fun _ => ?_) | refine And.intro (by decide) ?_ | refine And.intro rfl ?_))
  conv => whnf
  refine call_run (by omega) (fun dd2 hdd2 => ?_)
  refine wt_run 90 cd_4_init [] rfl (by decide) ?_
  repeat ((conv => whnf); (first | refine And.intro (fun _ => ?_) (fun hc => absurd (by decide) hc) | refine And.intro (fun hc => absurd hc (by decide)) (fun _ => ?_) | refine And.intro (by decide) ?_ | refine And.intro rfl ?_))
  conv => whnf
  refine call_run (by omega) (fun dd3 hdd3 => ?_)
  refine wt_run 90 cd_4_init [] rfl (by decide) ?_
  repeat ((conv => whnf); (first | refine And.intro (fun _ => ?_) (fun hc => absurd (by decide) hc) | refine And.intro (fun hc => absurd hc (by decide)) (fun _ => ?_) | refine And.intro (by decide) ?_ | refine And.intro rfl ?_))
  conv => whnf
  refine call_run (by omega) (fun dd4 hdd4 => ?_)
  refine wt_run 90 cd_5_init [] rfl (by decide) ?_
  repeat ((conv => whnf); (first | refine And.intro (fun _ => ?_) (fun hc => absurd (by decide) hc) | refine And.intro (fun hc => absurd hc (by decide)) (fun _ => ?_) | refine And.intro (by decide) ?_ | refine And.intro rfl ?_))
  conv => whnf
  exact h
set_option maxRecDepth 100000 in
set_option maxHeartbeats 16000000 in
theorem ic_37 {d : Nat} {M : Mm} {Q : Po} (hd : 8 < d) (h : Run d 91 119 285 [(0, (2, 2)), (3, (0, 2))] [] (91, [[], [], [3, 12, 19, 27, 36, 41, 37, 38, 51, 52, 53, 0, 64, 73, 74, 0], [4, 0, 0, 0, 0, 0, 0, 5, 0, 0, 0, 0, 0], [], [6, 7, 8, 10, 0, 0, 0], [], [], [9, 0, 0], [], [11, 0, 0], [], [13, 14, 15, 17, 0, 0, 0], [], [], [16, 0, 0], [], [18, 0, 0], [], [0, 0, 0, 20, 21, 22, 23, 24, 25, 26], [], [], [], [], [], [], [], [19, 12, 28, 29, 0, 30, 31, 32, 33], [], [], [], [], [], [], [], [], [19, 27, 34, 0, 0], [19, 27, 0, 0], [19, 27, 34, 35, 39, 40, 0], [], [], [], [19, 27, 0, 43, 44, 34, 35, 0], [], [], [19, 27, 0, 46, 47, 34, 35, 0], [], [], [19, 27, 0, 49, 50, 34, 35, 0], [], [], [0, 0, 0], [0, 0, 0], [], [0, 0, 0], [0, 0, 0], [0, 0, 0], [0, 0, 0], [0, 0, 0], [0, 0, 0], [0, 0, 0], [0, 0, 0], [0, 0, 0], [0, 0, 0], [], [66, 0, 0], [], [68, 0, 0], [], [70, 0, 0], [], [72, 0, 0], [], [], [], [76, 77, 78, 80, 0, 0, 0], [], [], [79, 0, 0], [], [81, 0, 0], [], [0, 0, 0], [84, 85, 86, 88, 0, 0, 0], [], [], [87, 0, 0], [], [89, 0, 0], [], [0, 0, 0]]) (up2 (upR (up2 (up2 (upR (upR (upR (upR (upR (upR (upR M 83 fun _ => 0) 84 fun _ => 0) 85 fun _ => 0) 86 fun _ => 0) 87 fun _ => 0) 88 fun _ => 0) 89 fun _ => 0) 83 4 1) 73 1 83) 90 fun _ => 0) 74 1 90) Q) : Run d 91 119 285 [(0, (2, 2)), (3, (0, 1))] [] (83, [[], [], [3, 12, 19, 27, 36, 41, 37, 38, 51, 52, 53, 0, 64, 73, 74, 0], [4, 0, 0, 0, 0, 0, 0, 5, 0, 0, 0, 0, 0], [], [6, 7, 8, 10, 0, 0, 0], [], [], [9, 0, 0], [], [11, 0, 0], [], [13, 14, 15, 17, 0, 0, 0], [], [], [16, 0, 0], [], [18, 0, 0], [], [0, 0, 0, 20, 21, 22, 23, 24, 25, 26], [], [], [], [], [], [], [], [19, 12, 28, 29, 0, 30, 31, 32, 33], [], [], [], [], [], [], [], [], [19, 27, 34, 0, 0], [19, 27, 0, 0], [19, 27, 34, 35, 39, 40, 0], [], [], [], [19, 27, 0, 43, 44, 34, 35, 0], [], [], [19, 27, 0, 46, 47, 34, 35, 0], [], [], [19, 27, 0, 49, 50, 34, 35, 0], [], [], [0, 0, 0], [0, 0, 0], [], [0, 0, 0], [0, 0, 0], [0, 0, 0], [0, 0, 0], [0, 0, 0], [0, 0, 0], [0, 0, 0], [0, 0, 0], [0, 0, 0], [0, 0, 0], [], [66, 0, 0], [], [68, 0, 0], [], [70, 0, 0], [], [72, 0, 0], [], [], [], [76, 77, 78, 80, 0, 0, 0], [], [], [79, 0, 0], [], [81, 0, 0], [], [0, 0, 0]]) M Q := by
  refine wt_run 120 cd_11_init [(285, [0, 3])] rfl (by decide) ?_
  repeat ((conv => whnf); (first | refine And.intro (fun _ => ?_) (fun hc => absurd (by decide) hc) | refine And.intro (fun hc => absurd hc (by decide)) (fun _ => ?_) | refine And.intro (by decide) ?_ | refine And.intro rfl ?_))
  conv => whnf
  refine call_run (by omega) (fun dd1 hdd1 => ?_)
  refine wt_run 90 cd_6_init [] rfl (by decide) ?_
  repeat ((conv => whnf); (first | refine And.intro (fun _ => ?_) (fun hc => absurd (by decide) hc) | refine And.intro (fun hc => absurd hc (by decide)) (fun _ => ?_) | refine And.intro (by decide) ?_ | refine And.intro rfl ?_))
  conv => whnf
  refine call_run (by omega) (fun dd2 hdd2 => ?_)
  refine wt_run 90 cd_4_init [] rfl (by decide) ?_
  repeat ((conv => whnf); (first | refine And.intro (fun _ => ?_) (fun hc => absurd (by decide) hc) | refine And.intro (fun hc => absurd hc (by decide)) (fun _ => ?_) | refine And.intro (by decide) ?_ | refine And.intro rfl ?_))
  conv => whnf
  refine call_run (by omega) (fun dd3 hdd3 => ?_)
  refine wt_run 90 cd_4_init [] rfl (by decide) ?_
  repeat ((conv => whnf); (first | refine And.intro (fun _ => ?_) (fun hc => absurd (by decide) hc) | refine And.intro (fun hc => absurd hc (by decide)) (fun _ => ?_) | refine And.intro (by decide) ?_ | refine And.intro rfl ?_))
  conv => whnf
  refine call_run (by omega) (fun dd4 hdd4 => ?_)
  refine wt_run 90 cd_5_init [] rfl (by decide) ?_
  repeat ((conv => whnf); (first | refine And.intro (fun _ => ?_) (fun hc => absurd (by decide) hc) | refine And.intro (fun hc => absurd hc (by decide)) (fun _ => ?_) | refine And.intro (by decide) ?_ | refine And.intro rfl ?_))
  conv => whnf
  exact h
set_option maxRecDepth 100000 in
theorem ic_end {d : Nat} {M : Mm} {Q : Po} (h : Q (9, 0) (91, [[], [], [3, 12, 19, 27, 36, 41, 37, 38, 51, 52, 53, 0, 64, 73, 74, 0], [4, 0, 0, 0, 0, 0, 0, 5, 0, 0, 0, 0, 0], [], [6, 7, 8, 10, 0, 0, 0], [], [], [9, 0, 0], [], [11, 0, 0], [], [13, 14, 15, 17, 0, 0, 0], [], [], [16, 0, 0], [], [18, 0, 0], [], [0, 0, 0, 20, 21, 22, 23, 24, 25, 26], [], [], [], [], [], [], [], [19, 12, 28, 29, 0, 30, 31, 32, 33], [], [], [], [], [], [], [], [], [19, 27, 34, 0, 0], [19, 27, 0, 0], [19, 27, 34, 35, 39, 40, 0], [], [], [], [19, 27, 0, 43, 44, 34, 35, 0], [], [], [19, 27, 0, 46, 47, 34, 35, 0], [], [], [19, 27, 0, 49, 50, 34, 35, 0], [], [], [0, 0, 0], [0, 0, 0], [], [0, 0, 0], [0, 0, 0], [0, 0, 0], [0, 0, 0], [0, 0, 0], [0, 0, 0], [0, 0, 0], [0, 0, 0], [0, 0, 0], [0, 0, 0], [], [66, 0, 0], [], [68, 0, 0], [], [70, 0, 0], [], [72, 0, 0], [], [], [], [76, 77, 78, 80, 0, 0, 0], [], [], [79, 0, 0], [], [81, 0, 0], [], [0, 0, 0], [84, 85, 86, 88, 0, 0, 0], [], [], [87, 0, 0], [], [89, 0, 0], [], [0, 0, 0]]) M) : Run d 91 119 285 [(0, (2, 2)), (3, (0, 2))] [] (91, [[], [], [3, 12, 19, 27, 36, 41, 37, 38, 51, 52, 53, 0, 64, 73, 74, 0], [4, 0, 0, 0, 0, 0, 0, 5, 0, 0, 0, 0, 0], [], [6, 7, 8, 10, 0, 0, 0], [], [], [9, 0, 0], [], [11, 0, 0], [], [13, 14, 15, 17, 0, 0, 0], [], [], [16, 0, 0], [], [18, 0, 0], [], [0, 0, 0, 20, 21, 22, 23, 24, 25, 26], [], [], [], [], [], [], [], [19, 12, 28, 29, 0, 30, 31, 32, 33], [], [], [], [], [], [], [], [], [19, 27, 34, 0, 0], [19, 27, 0, 0], [19, 27, 34, 35, 39, 40, 0], [], [], [], [19, 27, 0, 43, 44, 34, 35, 0], [], [], [19, 27, 0, 46, 47, 34, 35, 0], [], [], [19, 27, 0, 49, 50, 34, 35, 0], [], [], [0, 0, 0], [0, 0, 0], [], [0, 0, 0], [0, 0, 0], [0, 0, 0], [0, 0, 0], [0, 0, 0], [0, 0, 0], [0, 0, 0], [0, 0, 0], [0, 0, 0], [0, 0, 0], [], [66, 0, 0], [], [68, 0, 0], [], [70, 0, 0], [], [72, 0, 0], [], [], [], [76, 77, 78, 80, 0, 0, 0], [], [], [79, 0, 0], [], [81, 0, 0], [], [0, 0, 0], [84, 85, 86, 88, 0, 0, 0], [], [], [87, 0, 0], [], [89, 0, 0], [], [0, 0, 0]]) M Q := by
  refine wt_run 120 cd_11_init [] rfl (by decide) ?_
  repeat ((conv => whnf); (first | refine And.intro (fun _ => ?_) (fun hc => absurd (by decide) hc) | refine And.intro (fun hc => absurd hc (by decide)) (fun _ => ?_) | refine And.intro (by decide) ?_ | refine And.intro rfl ?_))
  conv => whnf
  exact h
