/-! LINES OF A PLATE, as both read them -/
abbrev Ck : Type := Nat × (Nat → Nat) × (Nat → Nat) × Nat
abbrev Dr : Type := Ck × Option (List Nat) × Option (List Nat)
abbrev OutD : Type := (Tk × Dr) ⊕ (Nat × Nat)
def flD (k : Tk) (f : Nat) : OutD := .inr (if k.2.2.1 = 12 then 1 else f, k.1)
theorem flD_inr {k : Tk} {f a b : Nat} (h : flD k f = .inr (a, b)) (h1 : 1 ≤ f) (h4 : f ≤ 4) : 1 ≤ a ∧ a ≤ 4 := by
  have e : (if k.2.2.1 = 12 then 1 else f) = a := by injection h with h; injection h
  by_cases c : k.2.2.1 = 12
  · rw [if_pos c] at e; omega
  · rw [if_neg c] at e; omega
noncomputable def burnP (T : Nat → Int) (sz : Nat) : Nat → Tk → Nat → Tk × Nat
  | 0, k, u => (k, u)
  | f + 1, k, u => if k.2.2.1 = 18 then burnP T sz f (nxT T sz k) 1 else (k, u)
noncomputable def pCake (T : Nat → Int) (sz : Nat) (k : Tk) (x : Dr) : OutD :=
  if (nxT T sz k).2.2.1 = 14 then
    (if (1 ≤ (nxT T sz k).2.2.2.toNat ∧ (nxT T sz k).2.2.2.toNat ≤ 5) ∧ x.1.2.2.2 / 2 ^ (nxT T sz k).2.2.2.toNat % 2 = 0 then
      .inl ((burnP T sz 900 (nxT T sz (nxT T sz k)) 0).1, (x.1.1 + 1, upF x.1.2.1 x.1.1 (nxT T sz k).2.2.2.toNat, upF x.1.2.2.1 x.1.1 (burnP T sz 900 (nxT T sz (nxT T sz k)) 0).2, x.1.2.2.2 + 2 ^ (nxT T sz k).2.2.2.toNat), x.2)
    else flD (nxT T sz k) 3)
  else flD (nxT T sz k) 2
def bnD (o : Out) (g : Tk → List Nat → OutD) : OutD := match o with
  | .inl (k, e) => g k e
  | .inr b => .inr b
theorem bnD_l {o : Out} {g : Tk → List Nat → OutD} {k : Tk} {e : List Nat} (h : o = .inl (k, e)) : bnD o g = g k e := by rw [h]; rfl
theorem bnD_r {o : Out} {g : Tk → List Nat → OutD} {b : Nat × Nat} (h : o = .inr b) : bnD o g = .inr b := by rw [h]; rfl
theorem bnD_inl {o : Out} {g : Tk → List Nat → OutD} {z : Tk × Dr} (h : bnD o g = .inl z) : ∃ k e, o = .inl (k, e) ∧ g k e = .inl z := by
  rcases o with ⟨k, e⟩ | b
  · exact ⟨k, e, rfl, h⟩
  · cases h
theorem bnD_inr {o : Out} {g : Tk → List Nat → OutD} {z : Nat × Nat} (h : bnD o g = .inr z) : o = .inr z ∨ ∃ k e, o = .inl (k, e) ∧ g k e = .inr z := by
  rcases o with ⟨k, e⟩ | b
  · exact Or.inr ⟨k, e, rfl, h⟩
  · refine Or.inl ?_
    have h : (Sum.inr b : OutD) = .inr z := h
    injection h with h
    rw [h]
noncomputable def pMay (T : Nat → Int) (sz : Nat) (k : Tk) (x : Dr) : OutD := bnD (exT T sz 1 (nxT T sz k)) fun k2 _ => bnD ((lvP T sz 5 6).2.2 k2) fun k3 e => .inl (k3, x.1, some e, x.2.2)
noncomputable def pHab (T : Nat → Int) (sz : Nat) (k : Tk) (x : Dr) : OutD := bnD (exT T sz 1 (nxT T sz k)) fun k2 _ => bnD ((lvP T sz 4 6).1 k2) fun k3 e => .inl (k3, x.1, x.2.1, some e)
noncomputable def pLine (T : Nat → Int) (sz : Nat) (k : Tk) (x : Dr) : OutD := if k.2.2.1 = 23 then pCake T sz k x else if k.2.2.1 = 24 then pMay T sz k x else if k.2.2.1 = 25 then pHab T sz k x else flD k 2
def popc (B : Nat) : Nat := B % 2 + B / 2 % 2 + B / 4 % 2 + B / 8 % 2 + B / 16 % 2 + B / 32 % 2
theorem popc_add : ∀ B, B < 64 → ∀ v, v < 6 → B / 2 ^ v % 2 = 0 → B + 2 ^ v < 64 ∧ popc (B + 2 ^ v) = popc B + 1 ∧ (∀ u, u < 6 → (B + 2 ^ v) / 2 ^ u % 2 = if u = v then 1 else B / 2 ^ u % 2) := by decide +kernel
theorem popc_even : ∀ B, B < 64 → ∀ v, v < 6 → 1 ≤ v → B % 2 = 0 → (B + 2 ^ v) % 2 = 0 := by decide +kernel
theorem popc_full : ∀ B, B < 64 → B % 2 = 0 → popc B = 5 → ∀ v, v < 6 → 1 ≤ v → B / 2 ^ v % 2 = 1 := by decide +kernel
theorem popc_le : ∀ B, B < 64 → B % 2 = 0 → popc B ≤ 5 := by decide +kernel
theorem popc_chk : ∀ B, B < 64 → B % 2 = 0 → ((∀ v, v < 6 → 1 ≤ v → v ≤ popc B → B / 2 ^ v % 2 = 1) ↔ B = 2 ^ (popc B + 1) - 2) := by decide +kernel
def CkK (x : Ck) : Prop := x.1 ≤ 5 ∧ x.2.2.2 < 64 ∧ x.2.2.2 % 2 = 0 ∧ popc x.2.2.2 = x.1 ∧ (∀ i, i < x.1 → (1 ≤ x.2.1 i ∧ x.2.1 i ≤ 5) ∧ x.2.2.1 i ≤ 1) ∧ ∀ v, v < 6 → (x.2.2.2 / 2 ^ v % 2 = 1 ↔ ∃ i, i < x.1 ∧ x.2.1 i = v)
def DrK (x : Dr) : Prop := CkK x.1 ∧ (∀ c, x.2.1 = some c → okLaw 5 true c) ∧ ∀ c, x.2.2 = some c → okLaw 4 false c
theorem burn_ok {T : Nat → Int} {sz : Nat} : ∀ f k u, TkK sz k → u ≤ 1 → TkK sz (burnP T sz f k u).1 ∧ k.1 ≤ (burnP T sz f k u).1.1 ∧ (burnP T sz f k u).2 ≤ 1
  | 0, k, u, hk, hu => ⟨hk, Nat.le_refl _, hu⟩
  | f + 1, k, u, hk, hu => by
    unfold burnP
    by_cases c : k.2.2.1 = 18
    · rw [if_pos c]
      have n1 := nx_ok (T := T) hk
      have n2 := nx_gt (T := T) hk (by omega)
      have r := burn_ok (T := T) f (nxT T sz k) 1 n1.1 (by omega)
      exact ⟨r.1, by omega, r.2.2⟩
    · rw [if_neg c]
      exact ⟨hk, Nat.le_refl _, hu⟩
theorem b2_lt (a : Nat) : a % 2 = 0 ∨ a % 2 = 1 := by omega
theorem ck_add {x : Ck} {v u : Nat} (h : CkK x) (h1 : 1 ≤ v) (h5 : v ≤ 5) (hb : x.2.2.2 / 2 ^ v % 2 = 0) (hu : u ≤ 1) : x.1 < 5 ∧ CkK (x.1 + 1, upF x.2.1 x.1 v, upF x.2.2.1 x.1 u, x.2.2.2 + 2 ^ v) := by
  obtain ⟨a1, a2, a3, a4, a5, a6⟩ := h
  obtain ⟨p1, p2, p3⟩ := popc_add _ a2 v (by omega) hb
  have n5 : x.1 < 5 := by
    by_cases c : x.1 = 5
    · have := popc_full _ a2 a3 (by omega) v (by omega) h1
      omega
    · omega
  refine ⟨n5, by show x.1 + 1 ≤ 5; omega, p1, popc_even _ a2 v (by omega) h1 a3, by show popc (x.2.2.2 + 2 ^ v) = x.1 + 1; omega, fun i hi => ?_, fun w hw => ?_⟩
  · have hi : i < x.1 + 1 := hi
    by_cases e : i = x.1
    · show (1 ≤ upF x.2.1 x.1 v i ∧ upF x.2.1 x.1 v i ≤ 5) ∧ upF x.2.2.1 x.1 u i ≤ 1
      rw [e, upF_at, upF_at]
      exact ⟨⟨h1, h5⟩, hu⟩
    · show (1 ≤ upF x.2.1 x.1 v i ∧ upF x.2.1 x.1 v i ≤ 5) ∧ upF x.2.2.1 x.1 u i ≤ 1
      rw [upF_off e, upF_off e]
      exact a5 i (by omega)
  · show (x.2.2.2 + 2 ^ v) / 2 ^ w % 2 = 1 ↔ ∃ i, i < x.1 + 1 ∧ upF x.2.1 x.1 v i = w
    rw [p3 w hw]
    by_cases e : w = v
    · rw [if_pos e]
      exact ⟨fun _ => ⟨x.1, by omega, by rw [upF_at, e]⟩, fun _ => rfl⟩
    · rw [if_neg e, a6 w hw]
      refine ⟨fun ⟨i, i1, i2⟩ => ⟨i, by omega, by rw [upF_off (by omega)]; exact i2⟩, fun ⟨i, i1, i2⟩ => ?_⟩
      by_cases ei : i = x.1
      · rw [ei, upF_at] at i2
        exact absurd i2.symm e
      · rw [upF_off ei] at i2
        exact ⟨i, by omega, i2⟩
theorem law_ok {fb : Nat} {t : Bool} {e : List Nat} {n : Nat} (h : TyO fb t e n 0) (hn : n ≤ 64) : okLaw fb t e := by
  obtain ⟨ty, a1, a2, a3⟩ := h 0 (fun _ => false) (by omega)
  have := a3 []
  rw [List.append_nil] at this
  exact ⟨ty, this, a2⟩
theorem inD_inj {a c : Tk} {b d : Dr} (h : (Sum.inl (a, b) : OutD) = .inl (c, d)) : a = c ∧ b = d := by
  cases h
  exact ⟨rfl, rfl⟩
theorem line_ok {T : Nat → Int} {sz : Nat} {k : Tk} {x : Dr} (hk : TkK sz k) (h13 : ¬ k.2.2.1 = 13) (hx : DrK x) : (∀ k1 x1, pLine T sz k x = .inl (k1, x1) → TkK sz k1 ∧ k.1 + 1 ≤ k1.1 ∧ DrK x1) ∧ (∀ f p, pLine T sz k x = .inr (f, p) → 1 ≤ f ∧ f ≤ 4) := by
  have n1 := nx_ok (T := T) hk
  have n2 := nx_gt (T := T) hk h13
  unfold pLine
  by_cases c1 : k.2.2.1 = 23
  · rw [if_pos c1]
    unfold pCake
    by_cases c2 : (nxT T sz k).2.2.1 = 14
    · rw [if_pos c2]
      by_cases c3 : (1 ≤ (nxT T sz k).2.2.2.toNat ∧ (nxT T sz k).2.2.2.toNat ≤ 5) ∧ x.1.2.2.2 / 2 ^ (nxT T sz k).2.2.2.toNat % 2 = 0
      · rw [if_pos c3]
        refine ⟨fun k1 x1 h => ?_, fun f p h => by cases h⟩
        obtain ⟨rfl, rfl⟩ := inD_inj h
        have n3 := nx_ok (T := T) n1.1
        have n4 := nx_gt (T := T) n1.1 (by omega)
        have u := burn_ok (T := T) (sz := sz) 900 (nxT T sz (nxT T sz k)) 0 n3.1 (by omega)
        exact ⟨u.1, by omega, (ck_add hx.1 c3.1.1 c3.1.2 c3.2 u.2.2).2, hx.2⟩
      · rw [if_neg c3]
        exact ⟨fun k1 x1 h => (by cases h), fun f p h => flD_inr h (by omega) (by omega)⟩
    · rw [if_neg c2]
      exact ⟨fun k1 x1 h => (by cases h), fun f p h => flD_inr h (by omega) (by omega)⟩
  rw [if_neg c1]
  by_cases c2 : k.2.2.1 = 24
  · rw [if_pos c2]
    unfold pMay
    refine ⟨fun k1 x1 h => ?_, fun f p h => ?_⟩
    · obtain ⟨k2, e2, h2, h⟩ := bnD_inl h
      obtain ⟨k3, e3, h3, h⟩ := bnD_inl h
      obtain ⟨rfl, rfl⟩ := inD_inj h
      obtain ⟨t1, t2, t3⟩ := ex_inl h2
      have n3 := nx_ok (T := T) n1.1
      rw [← t2] at n3
      obtain ⟨y1, y2, y3⟩ := ((ok_levs (T := T) (sz := sz) (fb := 5) 6 (by omega)).2.2 _ n3.1).1 _ _ h3
      refine ⟨y1, ?_, hx.1, fun c hc => ?_, hx.2.2⟩
      · have := n1.1.1
        omega
      · rw [← Option.some.inj hc]
        exact law_ok y3 (by omega)
    · rcases bnD_inr h with h | ⟨k2, e2, h2, h⟩
      · exact ex_inr h
      obtain ⟨t1, t2, t3⟩ := ex_inl h2
      have n3 := nx_ok (T := T) n1.1
      rw [← t2] at n3
      rcases bnD_inr h with h | ⟨k3, e3, h3, h⟩
      · exact ((ok_levs (T := T) (sz := sz) (fb := 5) 6 (by omega)).2.2 _ n3.1).2 _ _ h
      · cases h
  rw [if_neg c2]
  by_cases c3 : k.2.2.1 = 25
  · rw [if_pos c3]
    unfold pHab
    refine ⟨fun k1 x1 h => ?_, fun f p h => ?_⟩
    · obtain ⟨k2, e2, h2, h⟩ := bnD_inl h
      obtain ⟨k3, e3, h3, h⟩ := bnD_inl h
      obtain ⟨rfl, rfl⟩ := inD_inj h
      obtain ⟨t1, t2, t3⟩ := ex_inl h2
      have n3 := nx_ok (T := T) n1.1
      rw [← t2] at n3
      obtain ⟨y1, y2, y3⟩ := ((ok_levs (T := T) (sz := sz) (fb := 4) 6 (by omega)).1 _ n3.1).1 _ _ h3
      refine ⟨y1, ?_, hx.1, hx.2.1, fun c hc => ?_⟩
      · have := n1.1.1
        omega
      · rw [← Option.some.inj hc]
        exact law_ok y3 (by omega)
    · rcases bnD_inr h with h | ⟨k2, e2, h2, h⟩
      · exact ex_inr h
      obtain ⟨t1, t2, t3⟩ := ex_inl h2
      have n3 := nx_ok (T := T) n1.1
      rw [← t2] at n3
      rcases bnD_inr h with h | ⟨k3, e3, h3, h⟩
      · exact ((ok_levs (T := T) (sz := sz) (fb := 4) 6 (by omega)).1 _ n3.1).2 _ _ h
      · cases h
  · rw [if_neg c3]
    exact ⟨fun k1 x1 h => (by cases h), fun f p h => flD_inr h (by omega) (by omega)⟩
