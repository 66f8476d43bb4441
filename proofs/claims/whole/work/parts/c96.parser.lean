/-! THE PARSER that both are -/
abbrev Out : Type := (Tk × List Nat) ⊕ (Nat × Nat)
noncomputable def tkn (T : Nat → Int) (sz p : Nat) : Tk := if h : p ≤ sz then Classical.choose (tok_ex T h) else (0, 0, 13, 0)
theorem tkn_ok {T : Nat → Int} {sz p : Nat} (h : p ≤ sz) : TokR T sz p (tkn T sz p) := by
  unfold tkn
  rw [dif_pos h]
  exact Classical.choose_spec (tok_ex T h)
noncomputable def nxT (T : Nat → Int) (sz : Nat) (k : Tk) : Tk := tkn T sz k.2.1
theorem nx_ok {T : Nat → Int} {sz : Nat} {k : Tk} (h : TkK sz k) : TkK sz (nxT T sz k) ∧ k.2.1 ≤ (nxT T sz k).1 := tok_ok (tkn_ok h.1.2)
theorem nx_gt {T : Nat → Int} {sz : Nat} {k : Tk} (h : TkK sz k) (h13 : ¬ k.2.2.1 = 13) : k.1 + 1 ≤ (nxT T sz k).1 := by
  have a := (nx_ok (T := T) h).2
  have b := h.2.2.1 h13
  omega
def bnd (o : Out) (g : Tk → List Nat → Out) : Out := match o with
  | .inl (k, e) => g k e
  | .inr b => .inr b
theorem bnd_l {o : Out} {g : Tk → List Nat → Out} {k : Tk} {e : List Nat} (h : o = .inl (k, e)) : bnd o g = g k e := by rw [h]; rfl
theorem bnd_r {o : Out} {g : Tk → List Nat → Out} {b : Nat × Nat} (h : o = .inr b) : bnd o g = .inr b := by rw [h]; rfl
theorem bnd_inl {o : Out} {g : Tk → List Nat → Out} {z : Tk × List Nat} (h : bnd o g = .inl z) : ∃ k e, o = .inl (k, e) ∧ g k e = .inl z := by
  rcases o with ⟨k, e⟩ | b
  · exact ⟨k, e, rfl, h⟩
  · cases h
theorem bnd_inr {o : Out} {g : Tk → List Nat → Out} {z : Nat × Nat} (h : bnd o g = .inr z) : o = .inr z ∨ ∃ k e, o = .inl (k, e) ∧ g k e = .inr z := by
  rcases o with ⟨k, e⟩ | b
  · exact Or.inr ⟨k, e, rfl, h⟩
  · exact Or.inl h
theorem inl_inj {a c : Tk} {b d : List Nat} (h : (Sum.inl (a, b) : Out) = .inl (c, d)) : a = c ∧ b = d := by
  cases h
  exact ⟨rfl, rfl⟩
def fl (k : Tk) (f : Nat) : Out := .inr (if k.2.2.1 = 12 then 1 else f, k.1)
theorem fl_inl {k : Tk} {f : Nat} {z : Tk × List Nat} (h : fl k f = .inl z) : False := by cases h
theorem fl_inr {k : Tk} {f a b : Nat} (h : fl k f = .inr (a, b)) (h1 : 1 ≤ f) (h4 : f ≤ 4) : 1 ≤ a ∧ a ≤ 4 := by
  have e : (if k.2.2.1 = 12 then 1 else f) = a := by injection h with h; injection h
  by_cases c : k.2.2.1 = 12
  · rw [if_pos c] at e; omega
  · rw [if_neg c] at e; omega
noncomputable def exT (T : Nat → Int) (sz t : Nat) (k : Tk) : Out := if k.2.2.1 = t then .inl (nxT T sz k, []) else fl k 2
theorem ex_inl {T : Nat → Int} {sz t : Nat} {k k' : Tk} {e : List Nat} (h : exT T sz t k = .inl (k', e)) : k.2.2.1 = t ∧ k' = nxT T sz k ∧ e = [] := by
  unfold exT at h
  by_cases c : k.2.2.1 = t
  · rw [if_pos c] at h
    obtain ⟨a, b⟩ := inl_inj h
    exact ⟨c, a.symm, b.symm⟩
  · rw [if_neg c] at h
    exact (fl_inl h).elim
theorem ex_inr {T : Nat → Int} {sz t : Nat} {k : Tk} {a b : Nat} (h : exT T sz t k = .inr (a, b)) : 1 ≤ a ∧ a ≤ 4 := by
  unfold exT at h
  by_cases c : k.2.2.1 = t
  · rw [if_pos c] at h
    cases h
  · rw [if_neg c] at h
    exact fl_inr h (by omega) (by omega)
noncomputable def pIf (T : Nat → Int) (sz : Nat) (S Tr : Tk → Out) (k : Tk) : Out := bnd (Tr k) fun k1 e1 => bnd (exT T sz 27 k1) fun k2 _ => bnd (S k2) fun k3 e2 => bnd (exT T sz 28 k3) fun k4 _ => bnd (S k4) fun k5 e3 => bnd (exT T sz 29 k5) fun k6 _ => .inl (k6, e1 ++ (e2 ++ (e3 ++ [2001])))
noncomputable def pAtom (T : Nat → Int) (sz fb : Nat) (top : Bool) (S Tr : Tk → Out) (k : Tk) : Out :=
  if k.2.2.1 = 5 then (bif top then fl k 4 else bnd (S (nxT T sz k)) fun k1 e => bnd (exT T sz 6 k1) fun k2 _ => .inl (k2, e))
  else if k.2.2.1 = 26 then (bif top then fl k 4 else pIf T sz S Tr (nxT T sz k))
  else if k.2.2.1 = 14 then .inl (nxT T sz k, [k.2.2.2.toNat])
  else if 16 ≤ k.2.2.1 ∧ k.2.2.1 < 22 ∧ ¬ k.2.2.1 = 16 + fb then .inl (nxT T sz k, [984 + k.2.2.1])
  else fl k 2
noncomputable def lpP (T : Nat → Int) (sz : Nat) (op : Nat → Option Nat) (X : Tk → Out) : Nat → Tk → Out
  | 0, k => .inl (k, [])
  | f + 1, k => match op k.2.2.1 with
    | none => .inl (k, [])
    | some o => bnd (X (nxT T sz k)) fun k1 e => bnd (lpP T sz op X f k1) fun k2 e2 => .inl (k2, e ++ (o :: e2))
theorem lp_n {T : Nat → Int} {sz f : Nat} {op : Nat → Option Nat} {X : Tk → Out} {k : Tk} (h : op k.2.2.1 = none) : lpP T sz op X f k = .inl (k, []) := by
  cases f with
  | zero => rfl
  | succ f => unfold lpP; rw [h]
theorem lp_s {T : Nat → Int} {sz f o : Nat} {op : Nat → Option Nat} {X : Tk → Out} {k : Tk} (h : op k.2.2.1 = some o) : lpP T sz op X (f + 1) k = bnd (X (nxT T sz k)) fun k1 e => bnd (lpP T sz op X f k1) fun k2 e2 => .inl (k2, e ++ (o :: e2)) := by
  show (match op k.2.2.1 with
    | none => Sum.inl (k, [])
    | some o => bnd (X (nxT T sz k)) fun k1 e => bnd (lpP T sz op X f k1) fun k2 e2 => .inl (k2, e ++ (o :: e2))) = _
  rw [h]
noncomputable def rowP (T : Nat → Int) (sz : Nat) (op : Nat → Option Nat) (X : Tk → Out) (k : Tk) : Out := bnd (X k) fun k1 e => bnd (lpP T sz op X 900 k1) fun k2 e2 => .inl (k2, e ++ e2)
def opT (t : Nat) : Option Nat := if t = 4 then some 2004 else none
def opS (t : Nat) : Option Nat := if t = 2 then some 2002 else if t = 3 then some 2003 else none
def opA (t : Nat) : Option Nat := if t = 31 then some 2008 else none
def opO (t : Nat) : Option Nat := if t = 32 then some 2009 else none
noncomputable def pCmp (T : Nat → Int) (sz : Nat) (S : Tk → Out) (k : Tk) (e : List Nat) : Out := if 9 ≤ k.2.2.1 ∧ k.2.2.1 ≤ 11 then bnd (S (nxT T sz k)) fun k2 e2 => .inl (k2, e ++ (e2 ++ [1996 + k.2.2.1])) else fl k 2
noncomputable def pUnit (T : Nat → Int) (sz : Nat) (top : Bool) (U Tr S : Tk → Out) (k : Tk) : Out :=
  if k.2.2.1 = 30 then (bif top then fl k 4 else bnd (U (nxT T sz k)) fun k1 e => .inl (k1, e ++ [2000]))
  else if k.2.2.1 = 7 then (bif top then fl k 4 else bnd (Tr (nxT T sz k)) fun k1 e => bnd (exT T sz 8 k1) fun k2 _ => .inl (k2, e))
  else bnd (S k) fun k1 e => pCmp T sz S k1 e
abbrev P3 : Type := (Tk → Out) × (Tk → Out) × (Tk → Out)
noncomputable def sumP (T : Nat → Int) (sz fb : Nat) (top : Bool) (P : P3) : Tk → Out := rowP T sz opS (rowP T sz opT (pAtom T sz fb top P.1 P.2.2))
noncomputable def unitP (T : Nat → Int) (sz fb : Nat) (top : Bool) (P : P3) : Tk → Out := pUnit T sz top P.2.1 P.2.2 (sumP T sz fb top P)
noncomputable def truP (T : Nat → Int) (sz fb : Nat) (top : Bool) (P : P3) : Tk → Out := rowP T sz opO (rowP T sz opA (unitP T sz fb top P))
noncomputable def lvP (T : Nat → Int) (sz fb : Nat) : Nat → P3
  | 0 => (sumP T sz fb true (fun k => fl k 2, fun k => fl k 2, fun k => fl k 2), unitP T sz fb true (fun k => fl k 2, fun k => fl k 2, fun k => fl k 2), truP T sz fb true (fun k => fl k 2, fun k => fl k 2, fun k => fl k 2))
  | v + 1 => (sumP T sz fb false (lvP T sz fb v), unitP T sz fb false (lvP T sz fb v), truP T sz fb false (lvP T sz fb v))
/-! what it makes is typed -/
theorem okO_mk {fb op h : Nat} {ty : Nat → Bool} (h1 : op < 1000 ∨ (1000 ≤ op ∧ op < 1006 ∧ ¬ op = 1000 + fb) ∨ (2000 ≤ op ∧ op < 2010)) (h2 : tkO op ≤ h) (h3 : h < 64 + tkO op) (h4 : h ≤ 64) (h5 : argO op (h - tkO op) ty = true) : okO fb op h ty = true := by
  unfold okO
  simp only [Bool.and_eq_true, Bool.or_eq_true, Nat.blt_eq, Nat.ble_eq, Bool.not_eq_true']
  refine ⟨⟨⟨⟨?_, h2⟩, h3⟩, h4⟩, h5⟩
  rcases h1 with a | ⟨a, b, c⟩ | a
  · exact Or.inl (Or.inl a)
  · refine Or.inl (Or.inr ⟨⟨a, b⟩, ?_⟩)
    cases hb : Nat.beq op (1000 + fb) with
    | false => rfl
    | true => exact absurd (Nat.eq_of_beq_eq_true hb) c
  · exact Or.inr a
theorem tyL_c {fb op h : Nat} {ty : Nat → Bool} {rest : List Nat} (ok : okO fb op h ty = true) : tyL fb (op :: rest) h ty = tyL fb rest (h - tkO op + 1) (upF ty (h - tkO op) (tyK op)) := by
  show (bif okO fb op h ty then tyL fb rest (h - tkO op + 1) (upF ty (h - tkO op) (tyK op)) else none) = _
  rw [ok]
  rfl
theorem ty_leaf {fb op h : Nat} {ty : Nat → Bool} {rest : List Nat} (ho : op < 1000 ∨ 1000 ≤ op ∧ op < 1006 ∧ ¬ op = 1000 + fb) (hh : h ≤ 63) : tyL fb (op :: rest) h ty = tyL fb rest (h + 1) (upF ty h false) := by
  have e0 : tkO op = 0 := tk_a (by omega)
  have a1 : Nat.blt op 2000 = true := by rw [Nat.blt_eq]; omega
  have ok : okO fb op h ty = true := okO_mk (by omega) (by omega) (by omega) (by omega) (by unfold argO; rw [a1]; rfl)
  have k : tyK op = false := by
    unfold tyK
    cases hb : (Nat.beq op 2000 || Nat.ble 2005 op) with
    | false => rfl
    | true =>
      rw [Bool.or_eq_true, Nat.ble_eq] at hb
      rcases hb with hb | hb
      · have := Nat.eq_of_beq_eq_true hb
        omega
      · omega
  rw [tyL_c ok, e0, k]
  rfl
theorem ty_not {fb h : Nat} {ty : Nat → Bool} {rest : List Nat} (h1 : ty h = true) (hh : h ≤ 63) : tyL fb (2000 :: rest) (h + 1) ty = tyL fb rest (h + 1) (upF ty h true) := by
  have ok : okO fb 2000 (h + 1) ty = true := okO_mk (by omega) (by rw [tk_b]; omega) (by rw [tk_b]; omega) (by omega) (by rw [tk_b]; exact h1)
  rw [tyL_c ok, tk_b]
  rfl
theorem ty_if {fb h : Nat} {ty : Nat → Bool} {rest : List Nat} (h1 : ty h = true) (h2 : ty (h + 1) = false) (h3 : ty (h + 2) = false) (hh : h ≤ 61) : tyL fb (2001 :: rest) (h + 3) ty = tyL fb rest (h + 1) (upF ty h false) := by
  have ok : okO fb 2001 (h + 3) ty = true := okO_mk (by omega) (by rw [tk_c]; omega) (by rw [tk_c]; omega) (by omega) (by
    rw [tk_c]
    show (ty h && !ty (h + 1) && !ty (h + 2)) = true
    rw [h1, h2, h3]
    rfl)
  rw [tyL_c ok, tk_c]
  rfl
theorem ty_bin {fb op h : Nat} {ty : Nat → Bool} {a t : Bool} {rest : List Nat} (ho : (op = 2002 ∨ op = 2003 ∨ op = 2004) ∧ a = false ∧ t = false ∨ (op = 2005 ∨ op = 2006 ∨ op = 2007) ∧ a = false ∧ t = true ∨ (op = 2008 ∨ op = 2009) ∧ a = true ∧ t = true) (h1 : ty h = a) (h2 : ty (h + 1) = a) (hh : h ≤ 62) : tyL fb (op :: rest) (h + 2) ty = tyL fb rest (h + 1) (upF ty h t) := by
  have e2 : tkO op = 2 := tk_d (by omega)
  have arg : argO op h ty = true := by
    rcases ho with ⟨ho | ho | ho, ea, et⟩ | ⟨ho | ho | ho, ea, et⟩ | ⟨ho | ho, ea, et⟩
    · rw [ho]; show (!ty h && !ty (h + 1)) = true; rw [h1, h2, ea]; rfl
    · rw [ho]; show (!ty h && !ty (h + 1)) = true; rw [h1, h2, ea]; rfl
    · rw [ho]; show (!ty h && !ty (h + 1)) = true; rw [h1, h2, ea]; rfl
    · rw [ho]; show (!ty h && !ty (h + 1)) = true; rw [h1, h2, ea]; rfl
    · rw [ho]; show (!ty h && !ty (h + 1)) = true; rw [h1, h2, ea]; rfl
    · rw [ho]; show (!ty h && !ty (h + 1)) = true; rw [h1, h2, ea]; rfl
    · rw [ho]; show (ty h && ty (h + 1)) = true; rw [h1, h2, ea]; rfl
    · rw [ho]; show (ty h && ty (h + 1)) = true; rw [h1, h2, ea]; rfl
  have kt : tyK op = t := by
    rcases ho with ⟨ho | ho | ho, ea, et⟩ | ⟨ho | ho | ho, ea, et⟩ | ⟨ho | ho, ea, et⟩ <;> rw [ho, et] <;> rfl
  have ok : okO fb op (h + 2) ty = true := okO_mk (by omega) (by omega) (by omega) (by omega) (by rw [e2]; exact arg)
  rw [tyL_c ok, e2, kt]
  rfl
def TyO (fb : Nat) (t : Bool) (e : List Nat) (n w : Nat) : Prop := ∀ (h : Nat) (ty : Nat → Bool), h + n ≤ 64 + 5 * w → ∃ ty', (∀ i, i < h → ty' i = ty i) ∧ ty' h = t ∧ ∀ rest, tyL fb (e ++ rest) h ty = tyL fb rest (h + 1) ty'
/-- the rest of a row: one lies there, one lies there again -/
def TyW (fb : Nat) (t : Bool) (e : List Nat) (n w : Nat) : Prop := ∀ (h : Nat) (ty : Nat → Bool), h + n ≤ 64 + 5 * w → ty h = t → ∃ ty', (∀ i, i < h → ty' i = ty i) ∧ ty' h = t ∧ ∀ rest, tyL fb (e ++ rest) (h + 1) ty = tyL fb rest (h + 1) ty'
def OKP (sz fb : Nat) (t : Bool) (r w : Nat) (X : Tk → Out) : Prop := ∀ k, TkK sz k → (∀ k' e, X k = .inl (k', e) → TkK sz k' ∧ e.length + k.1 ≤ k'.1 ∧ TyO fb t e (31 + r) w) ∧ (∀ f p, X k = .inr (f, p) → 1 ≤ f ∧ f ≤ 4)
theorem ty_row {fb n w : Nat} {t : Bool} {e e2 : List Nat} (h1 : TyO fb t e n w) (h2 : TyW fb t e2 (n + 1) w) : TyO fb t (e ++ e2) (n + 1) w := fun h ty hh => by
  obtain ⟨ty1, a1, a2, a3⟩ := h1 h ty (by omega)
  obtain ⟨ty2, b1, b2, b3⟩ := h2 h ty1 hh a2
  exact ⟨ty2, fun i hi => (b1 i hi).trans (a1 i hi), b2, fun rest => by rw [List.append_assoc, a3, b3]⟩
theorem ty_two {fb op n w : Nat} {a t : Bool} {e e2 : List Nat} (hw : w ≤ 6) (hn : 31 ≤ n) (ho : (op = 2002 ∨ op = 2003 ∨ op = 2004) ∧ a = false ∧ t = false ∨ (op = 2005 ∨ op = 2006 ∨ op = 2007) ∧ a = false ∧ t = true ∨ (op = 2008 ∨ op = 2009) ∧ a = true ∧ t = true) (h1 : TyO fb a e n w) (h2 : TyO fb a e2 n w) : TyO fb t (e ++ (e2 ++ [op])) (n + 1) w := fun h ty hh => by
  obtain ⟨ty1, a1, a2, a3⟩ := h1 h ty (by omega)
  obtain ⟨ty2, b1, b2, b3⟩ := h2 (h + 1) ty1 (by omega)
  refine ⟨upF ty2 h t, fun i hi => (upF_off (by omega)).trans ((b1 i (by omega)).trans (a1 i hi)), upF_at .., fun rest => ?_⟩
  rw [List.append_assoc, a3, List.append_assoc, b3]
  exact ty_bin ho ((b1 h (by omega)).trans a2) b2 (by omega)
theorem ty_wcons {fb op n w : Nat} {t : Bool} {e e2 : List Nat} (hw : w ≤ 6) (hn : 31 ≤ n) (ho : (op = 2002 ∨ op = 2003 ∨ op = 2004) ∧ t = false ∧ t = false ∨ (op = 2005 ∨ op = 2006 ∨ op = 2007) ∧ t = false ∧ t = true ∨ (op = 2008 ∨ op = 2009) ∧ t = true ∧ t = true) (h1 : TyO fb t e n w) (h2 : TyW fb t e2 (n + 1) w) : TyW fb t (e ++ (op :: e2)) (n + 1) w := fun h ty hh ht => by
  obtain ⟨ty1, a1, a2, a3⟩ := h1 (h + 1) ty (by omega)
  obtain ⟨ty2, b1, b2, b3⟩ := h2 h (upF ty1 h t) hh (upF_at ..)
  refine ⟨ty2, fun i hi => (b1 i hi).trans ((upF_off (by omega)).trans (a1 i (by omega))), b2, fun rest => ?_⟩
  rw [List.append_assoc, a3, ← b3]
  exact ty_bin ho ((a1 h (by omega)).trans ht) a2 (by omega)
theorem ty_w0 {fb n w : Nat} {t : Bool} : TyW fb t [] n w := fun _ ty _ ht => ⟨ty, fun _ _ => rfl, ht, fun _ => rfl⟩
theorem ok_row {T : Nat → Int} {sz fb r w : Nat} {t : Bool} {op : Nat → Option Nat} {X : Tk → Out} (hw : w ≤ 6) (hX : OKP sz fb t r w X) (ho : ∀ u o, op u = some o → ¬ u = 13 ∧ ((o = 2002 ∨ o = 2003 ∨ o = 2004) ∧ t = false ∧ t = false ∨ (o = 2005 ∨ o = 2006 ∨ o = 2007) ∧ t = false ∧ t = true ∨ (o = 2008 ∨ o = 2009) ∧ t = true ∧ t = true)) : OKP sz fb t (r + 1) w (rowP T sz op X) := by
  have lp : ∀ f k, TkK sz k → (∀ k' e, lpP T sz op X f k = .inl (k', e) → TkK sz k' ∧ e.length + k.1 ≤ k'.1 ∧ TyW fb t e (31 + r + 1) w) ∧ (∀ a b, lpP T sz op X f k = .inr (a, b) → 1 ≤ a ∧ a ≤ 4) := by
    intro f
    induction f with
    | zero =>
      intro k hk
      refine ⟨fun k' e h => ?_, fun a b h => by cases h⟩
      obtain ⟨rfl, rfl⟩ := inl_inj h
      exact ⟨hk, by show 0 + k.1 ≤ k.1; omega, ty_w0⟩
    | succ f ih =>
      intro k hk
      cases hop : op k.2.2.1 with
      | none =>
        rw [lp_n hop]
        refine ⟨fun k' e h => ?_, fun a b h => by cases h⟩
        obtain ⟨rfl, rfl⟩ := inl_inj h
        exact ⟨hk, by show 0 + k.1 ≤ k.1; omega, ty_w0⟩
      | some o =>
        rw [lp_s hop]
        obtain ⟨u13, uo⟩ := ho _ _ hop
        have n1 := nx_ok (T := T) hk
        have n2 := nx_gt (T := T) hk u13
        obtain ⟨x1, x2⟩ := hX _ n1.1
        refine ⟨fun k' e h => ?_, fun a b h => ?_⟩
        · obtain ⟨k1, e1, h1, h2⟩ := bnd_inl h
          obtain ⟨k2, e2, h3, h4⟩ := bnd_inl h2
          obtain ⟨rfl, rfl⟩ := inl_inj h4
          obtain ⟨y1, y2, y3⟩ := x1 _ _ h1
          obtain ⟨z1, z2, z3⟩ := (ih k1 y1).1 _ _ h3
          refine ⟨z1, ?_, ty_wcons hw (by omega) uo y3 z3⟩
          rw [List.length_append, List.length_cons]
          omega
        · rcases bnd_inr h with h | ⟨k1, e1, h1, h2⟩
          · exact x2 _ _ h
          · rcases bnd_inr h2 with h | ⟨k2, e2, h3, h4⟩
            · exact (ih k1 (x1 _ _ h1).1).2 _ _ h
            · cases h4
  intro k hk
  obtain ⟨x1, x2⟩ := hX k hk
  unfold rowP
  refine ⟨fun k' e h => ?_, fun a b h => ?_⟩
  · obtain ⟨k1, e1, h1, h2⟩ := bnd_inl h
    obtain ⟨k2, e2, h3, h4⟩ := bnd_inl h2
    obtain ⟨rfl, rfl⟩ := inl_inj h4
    obtain ⟨y1, y2, y3⟩ := x1 _ _ h1
    obtain ⟨z1, z2, z3⟩ := (lp 900 k1 y1).1 _ _ h3
    refine ⟨z1, ?_, ty_row y3 z3⟩
    rw [List.length_append]
    omega
  · rcases bnd_inr h with h | ⟨k1, e1, h1, h2⟩
    · exact x2 _ _ h
    · rcases bnd_inr h2 with h | ⟨k2, e2, h3, h4⟩
      · exact (lp 900 k1 (x1 _ _ h1).1).2 _ _ h
      · cases h4
