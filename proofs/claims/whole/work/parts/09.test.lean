theorem t_sizeAt (D : Nat) (M : Mm) (s i : Int) (hD : 0 < D) (K : Po) (h0 : s < M 19 2) (h1 : 0 ≤ s) (h2 : 0 ≤ i) (h3 : i < M 19 0) (hk : K (0, M 20 (w32 (w32 (shr32 s (M 19 0) * 5) + i))) GT M) : CallP D 103 [(2, 19), (0, s), (0, i)] GT M K := by
  refine call_run hD (fun d hd => wp_run 40 cd_9_sizeAt [] rfl (by decide) ?_)
  conv => whnf
  refine ⟨fun h => absurd h (by omega), fun _ => ?_⟩
  conv => whnf
  refine ⟨fun _ => ?_, fun h => absurd h0 h⟩
  conv => whnf
  refine ⟨fun h => absurd h (by omega), fun _ => ?_⟩
  conv => whnf
  refine ⟨fun _ => ?_, fun h => absurd h3 h⟩
  conv => whnf
  refine ⟨?_, ?_⟩
  · sorry
  · exact hk
