theorem t_sizeAt (D : Nat) (M : Mm) (s i : Int) : CallP D 103 [(2, 19), (0, s), (0, i)] GT M (fun r G' M' => r.2 = 7) := by
  refine ⟨0, 0, ?_, ?_⟩
  · sorry
  · have h : wpS D 103 cd_9_sizeAt [] (fun r G' M' => r.2 = 7) 40 cd_9_sizeAt (mkL 0 [(2, 19), (0, s), (0, i)]) [] GT M := by
      conv => whnf
      refine ⟨fun h1 => ?_, fun h1 => ?_⟩
      · conv => whnf
        fail
        sorry
      · conv => whnf
        fail
        refine ⟨fun h2 => ?_, fun h2 => ?_⟩
        · conv => whnf
          refine ⟨fun h3 => ?_, fun h3 => ?_⟩
          · sorry
          · conv => whnf
            refine ⟨fun h4 => ?_, fun h4 => ?_⟩
            · conv => whnf
              fail
              refine ⟨?_, ?_⟩
              · sorry
              · conv => whnf
                fail
                sorry
            · sorry
        · sorry
    sorry
