/-! the parser's levels are typed -/
theorem ok_if {T : Nat → Int} {sz fb w : Nat} {S Tr : Tk → Out} (hw : w < 6) (hS : OKP sz fb false 2 (w + 1) S) (hT : OKP sz fb true 5 (w + 1) Tr) : OKP sz fb false 0 w (pIf T sz S Tr) := by
  intro k hk
  unfold pIf
  obtain ⟨x1, x2⟩ := hT k hk
  refine ⟨fun k' e h => ?_, fun a b h => ?_⟩
  · obtain ⟨k1, e1, h1, h⟩ := bnd_inl h
    obtain ⟨k2, e2, h2, h⟩ := bnd_inl h
    obtain ⟨k3, e3, h3, h⟩ := bnd_inl h
    obtain ⟨k4, e4, h4, h⟩ := bnd_inl h
    obtain ⟨k5, e5, h5, h⟩ := bnd_inl h
    obtain ⟨k6, e6, h6, h⟩ := bnd_inl h
    obtain ⟨rfl, rfl⟩ := inl_inj h
    obtain ⟨y1, y2, y3⟩ := x1 _ _ h1
    obtain ⟨t1, t2, t3⟩ := ex_inl h2
    have n1 := nx_ok (T := T) y1
    have g1 := nx_gt (T := T) y1 (by omega)
    rw [← t2] at n1 g1
    obtain ⟨y4, y5, y6⟩ := (hS _ n1.1).1 _ _ h3
    obtain ⟨t4, t5, t6⟩ := ex_inl h4
    have n2 := nx_ok (T := T) y4
    have g2 := nx_gt (T := T) y4 (by omega)
    rw [← t5] at n2 g2
    obtain ⟨y7, y8, y9⟩ := (hS _ n2.1).1 _ _ h5
    obtain ⟨t7, t8, t9⟩ := ex_inl h6
    have n3 := nx_ok (T := T) y7
    have g3 := nx_gt (T := T) y7 (by omega)
    rw [← t8] at n3 g3
    refine ⟨n3.1, ?_, fun h ty hh => ?_⟩
    · simp only [List.length_append, List.length_cons, List.length_nil]
      omega
    · obtain ⟨ty1, a1, a2, a3⟩ := y3 h ty (by omega)
      obtain ⟨ty2, b1, b2, b3⟩ := y6 (h + 1) ty1 (by omega)
      obtain ⟨ty3, c1, c2, c3⟩ := y9 (h + 2) ty2 (by omega)
      refine ⟨upF ty3 h false, fun i hi => (upF_off (by omega)).trans ((c1 i (by omega)).trans ((b1 i (by omega)).trans (a1 i hi))), upF_at .., fun rest => ?_⟩
      rw [List.append_assoc, a3, List.append_assoc, b3, List.append_assoc, c3]
      exact ty_if ((c1 h (by omega)).trans ((b1 h (by omega)).trans a2)) ((c1 (h + 1) (by omega)).trans b2) c2 (by omega)
  · rcases bnd_inr h with h | ⟨k1, e1, h1, h⟩
    · exact x2 _ _ h
    have y1 := (x1 _ _ h1).1
    rcases bnd_inr h with h | ⟨k2, e2, h2, h⟩
    · exact ex_inr h
    obtain ⟨t1, t2, t3⟩ := ex_inl h2
    have n1 := (nx_ok (T := T) y1).1
    rw [← t2] at n1
    rcases bnd_inr h with h | ⟨k3, e3, h3, h⟩
    · exact (hS _ n1).2 _ _ h
    have y4 := ((hS _ n1).1 _ _ h3).1
    rcases bnd_inr h with h | ⟨k4, e4, h4, h⟩
    · exact ex_inr h
    obtain ⟨t4, t5, t6⟩ := ex_inl h4
    have n2 := (nx_ok (T := T) y4).1
    rw [← t5] at n2
    rcases bnd_inr h with h | ⟨k5, e5, h5, h⟩
    · exact (hS _ n2).2 _ _ h
    rcases bnd_inr h with h | ⟨k6, e6, h6, h⟩
    · exact ex_inr h
    · cases h
theorem ok_atom {T : Nat → Int} {sz fb w : Nat} {top : Bool} {S Tr : Tk → Out} (hw : w ≤ 6) (hS : top = false → w < 6 ∧ OKP sz fb false 2 (w + 1) S ∧ OKP sz fb true 5 (w + 1) Tr) : OKP sz fb false 0 w (pAtom T sz fb top S Tr) := by
  intro k hk
  unfold pAtom
  have n1 := nx_ok (T := T) hk
  by_cases c1 : k.2.2.1 = 5
  · rw [if_pos c1]
    have g1 := nx_gt (T := T) hk (by omega)
    cases top with
    | true => exact ⟨fun k' e h => (fl_inl h).elim, fun a b h => fl_inr h (by omega) (by omega)⟩
    | false =>
      obtain ⟨hw6, hS, hT⟩ := hS rfl
      obtain ⟨x1, x2⟩ := hS _ n1.1
      refine ⟨fun k' e h => ?_, fun a b h => ?_⟩
      · obtain ⟨k1, e1, h1, h⟩ := bnd_inl h
        obtain ⟨k2, e2, h2, h⟩ := bnd_inl h
        obtain ⟨rfl, rfl⟩ := inl_inj h
        obtain ⟨y1, y2, y3⟩ := x1 _ _ h1
        obtain ⟨t1, t2, t3⟩ := ex_inl h2
        have n2 := nx_ok (T := T) y1
        have g2 := nx_gt (T := T) y1 (by omega)
        rw [← t2] at n2 g2
        exact ⟨n2.1, by omega, fun h ty hh => y3 h ty (by omega)⟩
      · rcases bnd_inr h with h | ⟨k1, e1, h1, h⟩
        · exact x2 _ _ h
        rcases bnd_inr h with h | ⟨k2, e2, h2, h⟩
        · exact ex_inr h
        · cases h
  rw [if_neg c1]
  by_cases c2 : k.2.2.1 = 26
  · rw [if_pos c2]
    have g1 := nx_gt (T := T) hk (by omega)
    cases top with
    | true => exact ⟨fun k' e h => (fl_inl h).elim, fun a b h => fl_inr h (by omega) (by omega)⟩
    | false =>
      obtain ⟨hw6, hS, hT⟩ := hS rfl
      obtain ⟨x1, x2⟩ := ok_if (T := T) hw6 hS hT _ n1.1
      exact ⟨fun k' e h => ⟨(x1 _ _ h).1, by have := (x1 _ _ h).2.1; omega, (x1 _ _ h).2.2⟩, x2⟩
  rw [if_neg c2]
  by_cases c3 : k.2.2.1 = 14
  · rw [if_pos c3]
    have g1 := nx_gt (T := T) hk (by omega)
    have v := hk.2.2.2 c3
    refine ⟨fun k' e h => ?_, fun a b h => by cases h⟩
    obtain ⟨rfl, rfl⟩ := inl_inj h
    refine ⟨n1.1, ?_, fun h ty hh => ⟨upF ty h false, fun i hi => upF_off (by omega), upF_at .., fun rest => ?_⟩⟩
    · simp only [List.length_cons, List.length_nil]
      omega
    · exact ty_leaf (by omega) (by omega)
  rw [if_neg c3]
  by_cases c4 : 16 ≤ k.2.2.1 ∧ k.2.2.1 < 22 ∧ ¬ k.2.2.1 = 16 + fb
  · rw [if_pos c4]
    have g1 := nx_gt (T := T) hk (by omega)
    refine ⟨fun k' e h => ?_, fun a b h => by cases h⟩
    obtain ⟨rfl, rfl⟩ := inl_inj h
    refine ⟨n1.1, ?_, fun h ty hh => ⟨upF ty h false, fun i hi => upF_off (by omega), upF_at .., fun rest => ?_⟩⟩
    · simp only [List.length_cons, List.length_nil]
      omega
    · exact ty_leaf (by omega) (by omega)
  · rw [if_neg c4]
    exact ⟨fun k' e h => (fl_inl h).elim, fun a b h => fl_inr h (by omega) (by omega)⟩
theorem ok_unit {T : Nat → Int} {sz fb w : Nat} {top : Bool} {U Tr S : Tk → Out} (hw : w ≤ 6) (hU : top = false → w < 6 ∧ OKP sz fb true 3 (w + 1) U ∧ OKP sz fb true 5 (w + 1) Tr) (hS : OKP sz fb false 2 w S) : OKP sz fb true 3 w (pUnit T sz top U Tr S) := by
  intro k hk
  unfold pUnit
  have n1 := nx_ok (T := T) hk
  by_cases c1 : k.2.2.1 = 30
  · rw [if_pos c1]
    have g1 := nx_gt (T := T) hk (by omega)
    cases top with
    | true => exact ⟨fun k' e h => (fl_inl h).elim, fun a b h => fl_inr h (by omega) (by omega)⟩
    | false =>
      obtain ⟨hw6, hU, hT⟩ := hU rfl
      obtain ⟨x1, x2⟩ := hU _ n1.1
      refine ⟨fun k' e h => ?_, fun a b h => ?_⟩
      · obtain ⟨k1, e1, h1, h⟩ := bnd_inl h
        obtain ⟨rfl, rfl⟩ := inl_inj h
        obtain ⟨y1, y2, y3⟩ := x1 _ _ h1
        refine ⟨y1, ?_, fun h ty hh => ?_⟩
        · simp only [List.length_append, List.length_cons, List.length_nil]
          omega
        · obtain ⟨ty1, a1, a2, a3⟩ := y3 h ty (by omega)
          refine ⟨upF ty1 h true, fun i hi => (upF_off (by omega)).trans (a1 i hi), upF_at .., fun rest => ?_⟩
          rw [List.append_assoc, a3]
          exact ty_not a2 (by omega)
      · rcases bnd_inr h with h | ⟨k1, e1, h1, h⟩
        · exact x2 _ _ h
        · cases h
  rw [if_neg c1]
  by_cases c2 : k.2.2.1 = 7
  · rw [if_pos c2]
    have g1 := nx_gt (T := T) hk (by omega)
    cases top with
    | true => exact ⟨fun k' e h => (fl_inl h).elim, fun a b h => fl_inr h (by omega) (by omega)⟩
    | false =>
      obtain ⟨hw6, hU, hT⟩ := hU rfl
      obtain ⟨x1, x2⟩ := hT _ n1.1
      refine ⟨fun k' e h => ?_, fun a b h => ?_⟩
      · obtain ⟨k1, e1, h1, h⟩ := bnd_inl h
        obtain ⟨k2, e2, h2, h⟩ := bnd_inl h
        obtain ⟨rfl, rfl⟩ := inl_inj h
        obtain ⟨y1, y2, y3⟩ := x1 _ _ h1
        obtain ⟨t1, t2, t3⟩ := ex_inl h2
        have n2 := nx_ok (T := T) y1
        have g2 := nx_gt (T := T) y1 (by omega)
        rw [← t2] at n2 g2
        exact ⟨n2.1, by omega, fun h ty hh => y3 h ty (by omega)⟩
      · rcases bnd_inr h with h | ⟨k1, e1, h1, h⟩
        · exact x2 _ _ h
        rcases bnd_inr h with h | ⟨k2, e2, h2, h⟩
        · exact ex_inr h
        · cases h
  rw [if_neg c2]
  obtain ⟨x1, x2⟩ := hS _ hk
  refine ⟨fun k' e h => ?_, fun a b h => ?_⟩
  · obtain ⟨k1, e1, h1, h⟩ := bnd_inl h
    obtain ⟨y1, y2, y3⟩ := x1 _ _ h1
    unfold pCmp at h
    by_cases c3 : 9 ≤ k1.2.2.1 ∧ k1.2.2.1 ≤ 11
    · rw [if_pos c3] at h
      obtain ⟨k2, e2, h2, h⟩ := bnd_inl h
      obtain ⟨rfl, rfl⟩ := inl_inj h
      have n2 := nx_ok (T := T) y1
      have g2 := nx_gt (T := T) y1 (by omega)
      obtain ⟨z1, z2, z3⟩ := (hS _ n2.1).1 _ _ h2
      refine ⟨z1, ?_, ty_two hw (by omega) (Or.inr (Or.inl ⟨by omega, rfl, rfl⟩)) y3 z3⟩
      simp only [List.length_append, List.length_cons, List.length_nil]
      omega
    · rw [if_neg c3] at h
      exact (fl_inl h).elim
  · rcases bnd_inr h with h | ⟨k1, e1, h1, h⟩
    · exact x2 _ _ h
    obtain ⟨y1, y2, y3⟩ := x1 _ _ h1
    unfold pCmp at h
    by_cases c3 : 9 ≤ k1.2.2.1 ∧ k1.2.2.1 ≤ 11
    · rw [if_pos c3] at h
      rcases bnd_inr h with h | ⟨k2, e2, h2, h⟩
      · exact (hS _ (nx_ok (T := T) y1).1).2 _ _ h
      · cases h
    · rw [if_neg c3] at h
      exact fl_inr h (by omega) (by omega)
theorem opT_ok {u o : Nat} (h : opT u = some o) : u = 4 ∧ o = 2004 := by
  unfold opT at h
  by_cases c : u = 4
  · rw [if_pos c] at h
    exact ⟨c, (Option.some.inj h).symm⟩
  · rw [if_neg c] at h
    cases h
theorem opS_ok {u o : Nat} (h : opS u = some o) : (u = 2 ∧ o = 2002) ∨ (u = 3 ∧ o = 2003) := by
  unfold opS at h
  by_cases c : u = 2
  · rw [if_pos c] at h
    exact Or.inl ⟨c, (Option.some.inj h).symm⟩
  · rw [if_neg c] at h
    by_cases c : u = 3
    · rw [if_pos c] at h
      exact Or.inr ⟨c, (Option.some.inj h).symm⟩
    · rw [if_neg c] at h
      cases h
theorem opA_ok {u o : Nat} (h : opA u = some o) : u = 31 ∧ o = 2008 := by
  unfold opA at h
  by_cases c : u = 31
  · rw [if_pos c] at h
    exact ⟨c, (Option.some.inj h).symm⟩
  · rw [if_neg c] at h
    cases h
theorem opO_ok {u o : Nat} (h : opO u = some o) : u = 32 ∧ o = 2009 := by
  unfold opO at h
  by_cases c : u = 32
  · rw [if_pos c] at h
    exact ⟨c, (Option.some.inj h).symm⟩
  · rw [if_neg c] at h
    cases h
def OK3 (sz fb w : Nat) (P : P3) : Prop := OKP sz fb false 2 w P.1 ∧ OKP sz fb true 3 w P.2.1 ∧ OKP sz fb true 5 w P.2.2
theorem ok_term {T : Nat → Int} {sz fb w : Nat} {X : Tk → Out} (hw : w ≤ 6) (h : OKP sz fb false 0 w X) : OKP sz fb false 1 w (rowP T sz opT X) := ok_row hw h (fun u o e => by have := opT_ok e; exact ⟨by omega, Or.inl ⟨by omega, rfl, rfl⟩⟩)
theorem ok_sum {T : Nat → Int} {sz fb w : Nat} {X : Tk → Out} (hw : w ≤ 6) (h : OKP sz fb false 1 w X) : OKP sz fb false 2 w (rowP T sz opS X) := ok_row hw h (fun u o e => by have := opS_ok e; exact ⟨by omega, Or.inl ⟨by omega, rfl, rfl⟩⟩)
theorem ok_both {T : Nat → Int} {sz fb w : Nat} {X : Tk → Out} (hw : w ≤ 6) (h : OKP sz fb true 3 w X) : OKP sz fb true 4 w (rowP T sz opA X) := ok_row hw h (fun u o e => by have := opA_ok e; exact ⟨by omega, Or.inr (Or.inr ⟨by omega, rfl, rfl⟩)⟩)
theorem ok_tru {T : Nat → Int} {sz fb w : Nat} {X : Tk → Out} (hw : w ≤ 6) (h : OKP sz fb true 4 w X) : OKP sz fb true 5 w (rowP T sz opO X) := ok_row hw h (fun u o e => by have := opO_ok e; exact ⟨by omega, Or.inr (Or.inr ⟨by omega, rfl, rfl⟩)⟩)
theorem ok_lev {T : Nat → Int} {sz fb w : Nat} {top : Bool} {P : P3} (hw : w ≤ 6) (hP : top = false → w < 6 ∧ OK3 sz fb (w + 1) P) : OK3 sz fb w (sumP T sz fb top P, unitP T sz fb top P, truP T sz fb top P) := by
  have a := ok_sum (T := T) hw (ok_term (T := T) hw (ok_atom (T := T) (sz := sz) (fb := fb) (top := top) (S := P.1) (Tr := P.2.2) hw (fun e => ⟨(hP e).1, (hP e).2.1, (hP e).2.2.2⟩)))
  have b := ok_unit (T := T) (sz := sz) (fb := fb) (top := top) (U := P.2.1) (Tr := P.2.2) (S := sumP T sz fb top P) hw (fun e => ⟨(hP e).1, (hP e).2.2.1, (hP e).2.2.2⟩) a
  exact ⟨a, b, ok_tru (T := T) hw (ok_both (T := T) hw b)⟩
theorem ok_levs {T : Nat → Int} {sz fb : Nat} : ∀ v, v ≤ 6 → OK3 sz fb (6 - v) (lvP T sz fb v)
  | 0, _ => ok_lev (by omega) (fun e => by cases e)
  | v + 1, h => ok_lev (by omega) (fun _ => ⟨by omega, by rw [show 6 - (v + 1) + 1 = 6 - v by omega]; exact ok_levs v (by omega)⟩)
