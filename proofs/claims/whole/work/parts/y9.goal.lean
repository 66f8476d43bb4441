/-- THE LAW as the small machine runs it: on every script it answers 1 -/
theorem law_run {M : Mm} {L : Nat} (hL : L ≤ 3072) (h0 : M 0 0 = (L : Int)) (hr : ∀ k : Nat, -2147483648 ≤ M 1 k ∧ M 1 k < 2147483648) : Run 100 116 316 0 [(0, (2, -1))] [] (2, [[], []]) M (fun r G' _ => r = (0, 1) ∧ G'.1 = 116) := by
  sorry
