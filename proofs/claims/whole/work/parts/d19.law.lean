/-! THE LAW, FROM ITS FIRST INSTRUCTION ON -/
theorem ci_0 {M : Mm} (h : FC M) (s : StkOK 1 M) : CI 1 none none 0 ((0, 0, 0), 0, fun _ => (0, 0, 0)) (fun _ => -1) (fun _ => 0) (fun _ _ => 0) (fun _ => none) 0 (fun _ => 0) 0 (-1) M := by
  obtain ⟨h0, h1, h2, h3, h4, h5, h6, h7, h8, h9, h10, h11, h12, h13, h14, h15, h16, h17, h18, h19, h20, h21, h22, h23, h24, h25, h26, h27, h28, h29, h30, h31, h32, h33, h34, h35, h36, h37, h38, h39, h40, h41, h42, h43, h44, h45, h46, h47, h48, h49, h50, h51⟩ := h
  have l1 : LawC 15 16 5 true none M := ⟨⟨h5, by show 0 ≤ 900; omega, fun i hi => absurd hi (Nat.not_lt_zero _)⟩, h6⟩
  have l2 : LawC 17 18 4 false none M := ⟨⟨h7, by show 0 ≤ 900; omega, fun i hi => absurd hi (Nat.not_lt_zero _)⟩, h8⟩
  have kk : KK 1 none none M := ⟨s, ⟨l1, l2⟩, Or.inl h11, Or.inl ⟨h12, h13⟩⟩
  have hc : HCs 1 none M := ⟨⟨h14, h15, h16⟩, ⟨h17, Or.inl h18⟩, ⟨h19, Or.inl h20⟩, ⟨h21, Or.inl h22⟩⟩
  have ps : PsC 0 M := fun i hi => by
    have hq : i = 0 ∨ i = 1 ∨ i = 2 ∨ i = 3 ∨ i = 4 ∨ i = 5 ∨ i = 6 ∨ i = 7 ∨ i = 8 ∨ i = 9 := by omega
    rcases hq with rfl | rfl | rfl | rfl | rfl | rfl | rfl | rfl | rfl | rfl
    · exact h26
    · exact h27
    · exact h28
    · exact h29
    · exact h30
    · exact h31
    · exact h32
    · exact h33
    · exact h34
    · exact h35
  have tr : TrC (fun _ => -1) (fun _ => 0) (fun _ _ => 0) M := ⟨⟨h36, h37, h38, h39⟩, ⟨h40, h41, Nat.zero_le 40, Or.inl rfl, fun i hi => absurd hi (Nat.not_lt_zero _)⟩, ⟨h42, h43, Nat.zero_le 40, Or.inl rfl, fun i hi => absurd hi (Nat.not_lt_zero _)⟩, ⟨h44, h45, Nat.zero_le 40, Or.inl rfl, fun i hi => absurd hi (Nat.not_lt_zero _)⟩, ⟨h46, h47, Nat.zero_le 40, Or.inl rfl, fun i hi => absurd hi (Nat.not_lt_zero _)⟩⟩
  have ic : ImC (fun _ => none) M := ⟨⟨h48, h49, h50, h51⟩, h10, fun I e => (by cases e), fun I e => (by cases e)⟩
  exact ⟨kk, hc, ⟨h3, h4⟩, ⟨⟨h23, h24, h25⟩, h9, 0, by omega, ps, fun i hi => absurd hi (Nat.not_lt_zero _)⟩, tr, ic, ⟨h0, fun i hi => absurd hi (Nat.not_lt_zero _)⟩, h1, h2⟩
theorem ri_0 {M M2 : Mm} (a2 : ∀ a b : Int, ¬ a = 96 → ¬ a = 98 → ¬ (a = 91 ∧ b = 19) → M2 a b = chR M a b) (r : RefOK 1 M2) : RI 1 none none 0 ((0, 0, 0), 0, fun _ => (0, 0, 0)) (fun _ => -1) (fun _ => 0) (fun _ _ => 0) (fun _ => none) 0 (fun _ => 0) 0 (-1) M2 := by
  have tr : TrR (fun _ => -1) (fun _ => 0) (fun _ _ => 0) M2 := fun i hi => by
    have hq : i = 0 ∨ i = 1 ∨ i = 2 ∨ i = 3 := by omega
    rcases hq with rfl | rfl | rfl | rfl
    · exact ⟨((a2 113 0 (by omega) (by omega) (by omega)).trans (fR_113_0 M)), ((a2 114 0 (by omega) (by omega) (by omega)).trans (fR_114_0 M)), Nat.zero_le 40, Or.inl rfl, fun i hi => absurd hi (Nat.not_lt_zero _)⟩
    · exact ⟨((a2 113 1 (by omega) (by omega) (by omega)).trans (fR_113_1 M)), ((a2 114 1 (by omega) (by omega) (by omega)).trans (fR_114_1 M)), Nat.zero_le 40, Or.inl rfl, fun i hi => absurd hi (Nat.not_lt_zero _)⟩
    · exact ⟨((a2 113 2 (by omega) (by omega) (by omega)).trans (fR_113_2 M)), ((a2 114 2 (by omega) (by omega) (by omega)).trans (fR_114_2 M)), Nat.zero_le 40, Or.inl rfl, fun i hi => absurd hi (Nat.not_lt_zero _)⟩
    · exact ⟨((a2 113 3 (by omega) (by omega) (by omega)).trans (fR_113_3 M)), ((a2 114 3 (by omega) (by omega) (by omega)).trans (fR_114_3 M)), Nat.zero_le 40, Or.inl rfl, fun i hi => absurd hi (Nat.not_lt_zero _)⟩
  have im : ImR (fun _ => none) M2 := fun i hi => by
    have hq : i = 0 ∨ i = 1 := by omega
    rcases hq with rfl | rfl
    · exact ⟨((a2 93 0 (by omega) (by omega) (by omega)).trans (fR_93_0 M)), fun I e => (by cases e)⟩
    · exact ⟨((a2 93 1 (by omega) (by omega) (by omega)).trans (fR_93_1 M)), fun I e => (by cases e)⟩
  exact ⟨⟨r, ((a2 92 2 (by omega) (by omega) (by omega)).trans (fR_92_2 M)), ((a2 92 3 (by omega) (by omega) (by omega)).trans (fR_92_3 M))⟩, ((a2 92 0 (by omega) (by omega) (by omega)).trans (fR_92_0 M)), ⟨⟨((a2 92 13 (by omega) (by omega) (by omega)).trans (fR_92_13 M)), ((a2 92 14 (by omega) (by omega) (by omega)).trans (fR_92_14 M)), ((a2 92 15 (by omega) (by omega) (by omega)).trans (fR_92_15 M))⟩, ((a2 92 16 (by omega) (by omega) (by omega)).trans (fR_92_16 M)), fun i hi => absurd hi (Nat.not_lt_zero _)⟩, tr, im, ⟨((a2 91 5 (by omega) (by omega) (by omega)).trans (fR_91_5 M)), fun i hi => absurd hi (Nat.not_lt_zero _)⟩, ((a2 91 13 (by omega) (by omega) (by omega)).trans (fR_91_13 M)), ((a2 91 14 (by omega) (by omega) (by omega)).trans (fR_91_14 M))⟩
set_option maxRecDepth 100000 in
set_option maxHeartbeats 16000000 in
/-- THE LAW as the small machine runs it: on every script it answers 1 -/
theorem law_run {M : Mm} {L : Nat} (hL : L ≤ 3072) (h0 : M 0 0 = (L : Int)) (hr : ∀ k : Nat, -2147483648 ≤ M (-1) k ∧ M (-1) k < 2147483648) : Run 100 117 316 0 [(0, (2, -1))] [] (2, [[], [], [], [], [], [], [], [], [], [], [], [], [], [], [], [], [], [], [], [], [], [], [], [], [], [], [], [], [], [], [], [], [], [], [], [], [], [], [], [], [], [], [], [], [], [], [], [], [], [], [], [], [], [], [], [], [], [], [], [], [], [], [], [], [], [], [], [], [], [], [], [], [], [], [], [], [], [], [], [], [], [], [], [], [], [], [], [], [], [], [], [], [], [], [], [], [], [], [], [], [], [], [], [], [], [], [], [], [], [], [], [], [], [], [], []]) M (fun r G' _ => r = (0, 1) ∧ G'.1 = 117) := by
  refine wt_run 60 cd_L_law [(18, [0, 1, 2, 3])] rfl (by decide) ?_
  repeat ((conv => whnf); (first | refine And.intro (fun _ => ?_) (fun hc => absurd (by decide) hc) | refine And.intro (fun hc => absurd hc (by decide)) (fun _ => ?_) | refine And.intro (by decide) ?_ | refine And.intro rfl ?_))
  conv => whnf
  refine i_class (D := 100) (by omega) (fun M1 fc st e0 e1 => ?_)
  repeat ((conv => whnf); (first | refine And.intro (fun _ => ?_) (fun hc => absurd (by decide) hc) | refine And.intro (fun hc => absurd hc (by decide)) (fun _ => ?_) | refine And.intro (by decide) ?_ | refine And.intro rfl ?_))
  conv => whnf
  refine i_ref (D := 100) (by omega) (fun M2 a2 r2 => ?_)
  have iv : IV L (fun b => M (-1) b) M2 := iv_mk ((a2 0 0 (by omega) (by omega) (by omega)).trans ((fSx_0 M1 0).trans ((e0 0).trans h0))) (fun b => (a2 (-1) b (by omega) (by omega) (by omega)).trans ((fSx_m M1 b).trans (e1 b))) (ci_0 (fc_R fc a2) (st_R st a2)) (ri_0 a2 r2) ⟨⟨⟨by decide, Int.le_refl 0, by show (0 : Int) ≤ 9; omega⟩, Nat.zero_le 10, fun i hi => absurd hi (Nat.not_lt_zero _)⟩, fun i I e => (by cases e), ⟨Nat.zero_le 900, fun i hi => absurd hi (Nat.not_lt_zero _)⟩⟩
  have q := lw_loop hL L 0 M2 iv (by omega) (by omega)
  repeat ((conv => whnf); (first | refine And.intro (fun _ => ?_) (fun hc => absurd (by decide) hc) | refine And.intro (fun hc => absurd hc (by decide)) (fun _ => ?_) | refine And.intro (by decide) ?_ | refine And.intro rfl ?_))
  conv => whnf
  exact q
