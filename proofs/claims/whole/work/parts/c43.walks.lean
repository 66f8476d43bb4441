/-! WALKS to an aim: the least work, of like work the fewest turns -/
def goK (n : Nat) : List Nat → Nat → Nat
  | [], s => s
  | k :: r, s => goK n r (tnS n s k)
def vlK (n : Nat) (cm : Option (List Nat)) (h : Int) : List Nat → Nat → Prop
  | [], _ => True
  | k :: r, s => ((1 ≤ k ∧ k ≤ n) ∧ mayB n cm s k h = true) ∧ vlK n cm h r (tnS n s k)
def wtK (n : Nat) : List Nat → Nat → Nat
  | [], _ => 0
  | k :: r, s => wkS n s k + wtK n r (tnS n s k)
def Wlk (n : Nat) (cm : Option (List Nat)) (h t : Int) (s W T : Nat) : Prop := ∃ ks, vlK n cm h ks s ∧ aimS n (goK n ks s) t = 1 ∧ W = wtK n ks s ∧ T = ks.length
def CHp (n : Nat) (cm : Option (List Nat)) (h t : Int) (s W T : Nat) : Prop := Wlk n cm h t s W T ∧ ∀ W' T', Wlk n cm h t s W' T' → W < W' ∨ (W = W' ∧ T ≤ T')
theorem go_app {n : Nat} : ∀ {a b : List Nat} {s : Nat}, goK n (a ++ b) s = goK n b (goK n a s)
  | [], _, _ => rfl
  | k :: r, b, s => go_app (a := r) (b := b) (s := tnS n s k)
theorem vl_app {n : Nat} {cm : Option (List Nat)} {h : Int} : ∀ {a b : List Nat} {s : Nat}, vlK n cm h (a ++ b) s ↔ vlK n cm h a s ∧ vlK n cm h b (goK n a s)
  | [], _, _ => ⟨fun h => ⟨trivial, h⟩, fun h => h.2⟩
  | k :: r, b, s => by
    have ih := vl_app (n := n) (cm := cm) (h := h) (a := r) (b := b) (s := tnS n s k)
    exact ⟨fun q => ⟨⟨q.1, (ih.mp q.2).1⟩, (ih.mp q.2).2⟩, fun q => ⟨q.1.1, ih.mpr ⟨q.1.2, q.2⟩⟩⟩
theorem wt_app {n : Nat} : ∀ {a b : List Nat} {s : Nat}, wtK n (a ++ b) s = wtK n a s + wtK n b (goK n a s)
  | [], _, _ => (Nat.zero_add _).symm
  | k :: r, b, s => by
    show wkS n s k + wtK n (r ++ b) (tnS n s k) = wkS n s k + wtK n r (tnS n s k) + wtK n b (goK n r (tnS n s k))
    rw [wt_app, Nat.add_assoc]
theorem go_in {n : Nat} {cm : Option (List Nat)} {h : Int} (hn : n < 6) : ∀ {ks : List Nat} {s : Nat}, s < allS n → vlK n cm h ks s → goK n ks s < allS n
  | [], _, hs, _ => hs
  | k :: r, s, hs, hv => go_in (ks := r) (s := tnS n s k) hn (tnS_in hn hs hv.1.1.2) hv.2
theorem wk_in {n s k : Nat} (hn : n < 6) (hs : s < allS n) (h1 : 1 ≤ k) (hk : k ≤ n) : 1 ≤ wkS n s k ∧ wkS n s k ≤ 15 := by
  have h := oW_in n hn _ (ord_lt hs) k (by omega)
  exact ⟨h.2 (by omega), h.1⟩
theorem wt_in {n : Nat} {cm : Option (List Nat)} {h : Int} (hn : n < 6) : ∀ {ks : List Nat} {s : Nat}, s < allS n → vlK n cm h ks s → wtK n ks s ≤ 15 * ks.length
  | [], _, _, _ => Nat.le_refl _
  | k :: r, s, hs, hv => by
    have a := wk_in hn hs hv.1.1.1 hv.1.1.2
    have b := wt_in hn (tnS_in hn hs hv.1.1.2) hv.2
    show wkS n s k + wtK n r (tnS n s k) ≤ 15 * (r.length + 1)
    omega
theorem wlk_in {n : Nat} {cm : Option (List Nat)} {h t : Int} {s W T : Nat} (hn : n < 6) (hs : s < allS n) (hw : Wlk n cm h t s W T) : W ≤ 15 * T := by
  obtain ⟨ks, h1, h2, h3, h4⟩ := hw
  rw [h3, h4]
  exact wt_in hn hs h1
theorem wlk_cons {n : Nat} {cm : Option (List Nat)} {h t : Int} {s k W T : Nat} (h1 : 1 ≤ k) (h2 : k ≤ n) (hm : mayB n cm s k h = true) (hw : Wlk n cm h t (tnS n s k) W T) : Wlk n cm h t s (W + wkS n s k) (T + 1) := by
  obtain ⟨ks, a1, a2, a3, a4⟩ := hw
  refine ⟨k :: ks, ⟨⟨⟨h1, h2⟩, hm⟩, a1⟩, a2, ?_, ?_⟩
  · show _ = wkS n s k + wtK n ks (tnS n s k)
    omega
  · show _ = ks.length + 1
    omega
/-- a walk without going round -/
theorem wlk_short {n : Nat} {cm : Option (List Nat)} {h t : Int} {s : Nat} (hn : n < 6) (hs : s < allS n) : ∀ (m : Nat) (ks : List Nat), ks.length ≤ m → vlK n cm h ks s → aimS n (goK n ks s) t = 1 → ∃ W T, Wlk n cm h t s W T ∧ T < allS n ∧ W ≤ wtK n ks s ∧ T ≤ ks.length := by
  intro m
  induction m with
  | zero =>
    intro ks hl hv ha
    exact ⟨_, _, ⟨ks, hv, ha, rfl, rfl⟩, by omega, Nat.le_refl _, Nat.le_refl _⟩
  | succ m ih =>
    intro ks hl hv ha
    by_cases c : ks.length < allS n
    · exact ⟨_, _, ⟨ks, hv, ha, rfl, rfl⟩, c, Nat.le_refl _, Nat.le_refl _⟩
    · have hvt : ∀ i, vlK n cm h (ks.take i) s ∧ vlK n cm h (ks.drop i) (goK n (ks.take i) s) := fun i => by
        have := hv
        rw [← List.take_append_drop i ks, vl_app] at this
        exact this
      obtain ⟨i, j, hij, hj, e⟩ := ph (allS n) (fun i => goK n (ks.take i) s) (fun i _ => go_in hn hs (hvt i).1)
      have e : goK n (ks.take i) s = goK n (ks.take j) s := e
      have hv2 : vlK n cm h (ks.take i ++ ks.drop j) s := vl_app.mpr ⟨(hvt i).1, by rw [e]; exact (hvt j).2⟩
      have hg : goK n (ks.take i ++ ks.drop j) s = goK n ks s := by
        rw [go_app, e, ← go_app, List.take_append_drop]
      have hlen : (ks.take i ++ ks.drop j).length < ks.length := by
        rw [List.length_append, List.length_take, List.length_drop]
        omega
      have hw : wtK n (ks.take i ++ ks.drop j) s ≤ wtK n ks s := by
        have h1 : wtK n ks s = wtK n (ks.take j) s + wtK n (ks.drop j) (goK n (ks.take j) s) := by rw [← wt_app, List.take_append_drop]
        have h2 : ks.take j = ks.take i ++ (ks.take j).drop i := by
          rw [show ks.take i = (ks.take j).take i by rw [List.take_take, Nat.min_eq_left (by omega)], List.take_append_drop]
        have h3 : wtK n (ks.take i) s ≤ wtK n (ks.take j) s := by
          rw [h2, wt_app]
          have : (ks.take i ++ (ks.take j).drop i).take i = ks.take i := by rw [← h2, List.take_take, Nat.min_eq_left (by omega)]
          omega
        rw [wt_app, e, h1]
        omega
      obtain ⟨W, T, q1, q2, q3, q4⟩ := ih (ks.take i ++ ks.drop j) (by omega) hv2 (by rw [hg]; exact ha)
      exact ⟨W, T, q1, q2, by omega, by omega⟩
theorem wlk_short2 {n : Nat} {cm : Option (List Nat)} {h t : Int} {s W T : Nat} (hn : n < 6) (hs : s < allS n) (hw : Wlk n cm h t s W T) : ∃ W' T', Wlk n cm h t s W' T' ∧ T' < allS n ∧ W' ≤ W ∧ T' ≤ T := by
  obtain ⟨ks, h1, h2, h3, h4⟩ := hw
  obtain ⟨W', T', q1, q2, q3, q4⟩ := wlk_short hn hs ks.length ks (Nat.le_refl _) h1 h2
  exact ⟨W', T', q1, q2, by omega, by omega⟩
/-- the least of walks by weights of B a work, 1 a turn -/
theorem ch_of {n : Nat} {cm : Option (List Nat)} {h t : Int} {s W T B : Nat} (hn : n < 6) (hs : s < allS n) (hB : 3840 ≤ B) (hw : Wlk n cm h t s W T) (hl : ∀ W' T', Wlk n cm h t s W' T' → B * W + T ≤ B * W' + T') : CHp n cm h t s W T ∧ T < allS n := by
  have hf := (fct_le n hn).2.2.2
  have mo : ∀ {x y : Nat}, x < y → B * x + B ≤ B * y := fun {x y} hxy => by
    calc B * x + B = B * (x + 1) := by rw [Nat.mul_add, Nat.mul_one]
      _ ≤ B * y := Nat.mul_le_mul_left _ hxy
  have mo2 : ∀ {x y : Nat}, x ≤ y → B * x ≤ B * y := fun {x y} hxy => Nat.mul_le_mul_left _ hxy
  obtain ⟨W1, T1, a1, a2, a3, a4⟩ := wlk_short2 hn hs hw
  have b1 := hl W1 T1 a1
  have hWW : W1 = W := by
    rcases Nat.lt_or_ge W1 W with c | c
    · have := mo c
      omega
    · omega
  subst hWW
  have hTT : T1 = T := by omega
  subst hTT
  refine ⟨⟨hw, fun W' T' hw' => ?_⟩, a2⟩
  obtain ⟨W2, T2, c1, c2, c3, c4⟩ := wlk_short2 hn hs hw'
  have b2 := hl W2 T2 c1
  rcases Nat.lt_trichotomy W1 W2 with c | c | c
  · left; omega
  · subst c
    rcases Nat.lt_or_ge W1 W' with d | d
    · left; exact d
    · right
      exact ⟨by omega, by omega⟩
  · have := mo c
    omega
theorem ch_uniq {n : Nat} {cm : Option (List Nat)} {h t : Int} {s W T W' T' : Nat} (h1 : CHp n cm h t s W T) (h2 : CHp n cm h t s W' T') : W = W' ∧ T = T' := by
  have a := h1.2 _ _ h2.1
  have b := h2.2 _ _ h1.1
  omega
/-- what a row of costs says: v is NONE where no walk is, B works and turns where one is -/
def CV (n : Nat) (cm : Option (List Nat)) (h t : Int) (B : Nat) (bad : Int) (s : Nat) (v : Int) : Prop := (v = bad ∧ ∀ W T, ¬ Wlk n cm h t s W T) ∨ ∃ W T : Nat, v = ((B * W + T : Nat) : Int) ∧ CHp n cm h t s W T ∧ T < allS n
theorem tn_inv {n s k : Nat} (hn : n < 6) (hs : s < allS n) (hk : k ≤ n) : tnS n (tnS n s k) k = s := by
  have a := oT_inv n hn _ (ord_lt hs) k (by omega)
  have b := sT_inv n hn _ (sid_lt (n := n) (s := s)) k (by omega)
  have c := sT_in n hn _ (sid_lt (n := n) (s := s)) k (by omega)
  have e1 : tnS n s k / 2 ^ n = oT n (s / 2 ^ n) k := by
    unfold tnS
    rw [Nat.mul_comm, Nat.mul_add_div (Nat.pow_pos (by omega)), Nat.div_eq_of_lt c, Nat.add_zero]
  have e2 : tnS n s k % 2 ^ n = sT n (s % 2 ^ n) k := by
    unfold tnS
    rw [Nat.mul_comm, Nat.mul_add_mod, Nat.mod_eq_of_lt c]
  have e3 : tnS n (tnS n s k) k = oT n (tnS n s k / 2 ^ n) k * 2 ^ n + sT n (tnS n s k % 2 ^ n) k := rfl
  rw [e3, e1, e2, a, b, Nat.mul_comm]
  exact Nat.div_add_mod _ _
