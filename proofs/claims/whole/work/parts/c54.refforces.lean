/-! CONTRACTS: forces and best of the reference, laid and asked -/
def finC (n : Nat) (a : Nat → Int) : Nat := cN (fun s => decide (a s < 1073741824)) (allS n)
theorem fin_le {n : Nat} {a : Nat → Int} : finC n a ≤ allS n := cN_le _ _
theorem fin_up {n s : Nat} {a : Nat → Int} {v : Int} (hs : s < allS n) (h1 : a s = 1073741824) (h2 : v < 1073741824) : finC n (upF a s v) = finC n a + 1 := by
  refine cN_add hs (decide_eq_false (by omega)) (by rw [upF_at, decide_eq_true h2]) (fun q _ hne => by rw [upF_off hne])
theorem fin_ge {n s : Nat} {a : Nat → Int} {v : Int} (hv : v ≤ a s) : finC n a ≤ finC n (upF a s v) := by
  refine cN_le2 (fun q hq hp => ?_)
  have hp := of_decide_eq_true hp
  refine decide_eq_true ?_
  by_cases e : q = s
  · rw [e, upF_at]
    rw [e] at hp
    omega
  · rw [upF_off e]
    exact hp
def RFI (n : Nat) (cm : Option (List Nat)) (h : Int) (z : Nat) (a b : Nat → Int) : Prop :=
  (∀ s, s < allS n → (0 ≤ a s ∧ (a s = 1073741824 ∨ (a s ≤ ((finC n a + finC n b : Nat) : Int) ∧ FO n cm h z (a s).toNat true s))) ∧ (0 ≤ b s ∧ (b s = 1073741824 ∨ (b s ≤ ((finC n a + finC n b : Nat) : Int) ∧ FO n cm h z (b s).toNat false s))))
  ∧ (∀ s, s < allS n → szS n s 0 = z → a s = 0 ∧ b s = 0)
  ∧ (∀ s, s < allS n → stkB n cm h s = true → ¬ szS n s 0 = z → a s = 1073741824 ∧ b s = 1073741824)
theorem rfi_rb {n z : Nat} {cm : Option (List Nat)} {h : Int} {a b : Nat → Int} (hn : n < 6) (hr : RFI n cm h z a b) : RB n a ∧ RB n b := by
  have hf := (fct_le n hn).2.2.2
  have f1 := fin_le (n := n) (a := a)
  have f2 := fin_le (n := n) (a := b)
  constructor
  · intro s hs
    obtain ⟨⟨p1, p2⟩, _⟩ := hr.1 s hs
    refine ⟨p1, ?_⟩
    rcases p2 with c | c
    · exact Or.inr c
    · left; omega
  · intro s hs
    obtain ⟨_, p1, p2⟩ := hr.1 s hs
    refine ⟨p1, ?_⟩
    rcases p2 with c | c
    · exact Or.inr c
    · left; omega
def lsF (n : Nat) (cm : Option (List Nat)) (h : Int) (b : Nat → Int) (v0 : Int) (s : Nat) : Nat → Int
  | 0 => v0
  | k + 1 => if fbV n cm h b s k < lsF n cm h b v0 s k then fbV n cm h b s k else lsF n cm h b v0 s k
theorem ls_ok {n s : Nat} {cm : Option (List Nat)} {h v0 : Int} {b : Nat → Int} : ∀ m, lsF n cm h b v0 s m ≤ v0 ∧ (lsF n cm h b v0 s m = v0 ∨ ∃ k, k < m ∧ lsF n cm h b v0 s m = fbV n cm h b s k) ∧ ∀ k, k < m → lsF n cm h b v0 s m ≤ fbV n cm h b s k
  | 0 => ⟨Int.le_refl _, Or.inl rfl, fun k hk => absurd hk (by omega)⟩
  | m + 1 => by
    obtain ⟨i1, i2, i3⟩ := ls_ok (n := n) (s := s) (cm := cm) (h := h) (v0 := v0) (b := b) m
    have e : lsF n cm h b v0 s (m + 1) = if fbV n cm h b s m < lsF n cm h b v0 s m then fbV n cm h b s m else lsF n cm h b v0 s m := rfl
    rw [e]
    split
    · refine ⟨by omega, Or.inr ⟨m, by omega, rfl⟩, fun k hk => ?_⟩
      by_cases c : k = m
      · rw [c]; exact Int.le_refl _
      · have := i3 k (by omega)
        omega
    · refine ⟨i1, ?_, fun k hk => ?_⟩
      · rcases i2 with c | ⟨k, c1, c2⟩
        · exact Or.inl c
        · exact Or.inr ⟨k, by omega, c2⟩
      · by_cases c : k = m
        · rw [c]; omega
        · exact i3 k (by omega)
theorem fb_fo {n z s k : Nat} {cm : Option (List Nat)} {h : Int} {a b : Nat → Int} (hn : n < 6) (hr : RFI n cm h z a b) (hs : s < allS n) (hz : ¬ szS n s 0 = z) (hk : k ≤ n) (hv : fbV n cm h b s k < 1073741824) : 0 ≤ fbV n cm h b s k ∧ fbV n cm h b s k ≤ ((finC n a + finC n b : Nat) : Int) + 1 ∧ FO n cm h z (fbV n cm h b s k).toNat true s ∧ stkB n cm h s = false := by
  unfold fbV at hv ⊢
  rcases fr_in (cm := cm) (h := h) hn hs hk with c | ⟨c1, c2⟩
  · rw [if_pos c] at hv
    omega
  · rw [if_neg (by omega)] at hv ⊢
    by_cases e : b (frT n cm h s k).toNat = 1073741824
    · rw [if_pos e] at hv
      omega
    · rw [if_neg e] at hv ⊢
      by_cases k0 : k = 0
      · exfalso
        have ef : frT n cm h s k = if stkB n cm h s = true then (s : Int) else -1 := if_pos k0
        by_cases hst : stkB n cm h s = true
        · rw [if_pos hst] at ef
          rw [ef, Int.toNat_natCast] at e
          exact e (hr.2.2 s hs hst hz).2
        · rw [if_neg hst] at ef
          omega
      · have ef : frT n cm h s k = thn n cm h s k := if_neg k0
        cases hm : mayB n cm s k h with
        | false =>
          rw [thn_n hm] at ef
          omega
        | true =>
          rw [thn_y (by omega) hk hm] at ef
          rw [ef, Int.toNat_natCast] at e c2 ⊢
          obtain ⟨_, p1, p2⟩ := hr.1 _ c2
          rcases p2 with p2 | ⟨p2, p3⟩
          · exact absurd p2 e
          · refine ⟨by omega, by omega, ?_, ?_⟩
            · rw [show (b (tnS n s k) + 1).toNat = (b (tnS n s k)).toNat + 1 by omega]
              exact Or.inr ⟨k, ⟨by omega, hk⟩, hm, p3⟩
            · cases hst : stkB n cm h s with
              | false => rfl
              | true =>
                rw [stk_t.mp hst k (by omega) hk] at hm
                exact absurd hm (by decide)
theorem oa_all {n s : Nat} {cm : Option (List Nat)} {h : Int} {a : Nat → Int} : ∀ m, oaF n cm h a s m ≠ 1073741824 → ∀ k, k < m → frT n cm h s k ≠ -1 → a (frT n cm h s k).toNat ≠ 1073741824 ∧ a (frT n cm h s k).toNat + 1 ≤ oaF n cm h a s m
  | 0, _, k, hk, _ => absurd hk (by omega)
  | m + 1, hne, k, hk, hfr => by
    have e : oaF n cm h a s (m + 1) = if oaF n cm h a s m = 1073741824 then 1073741824 else if frT n cm h s m = -1 then oaF n cm h a s m else if a (frT n cm h s m).toNat = 1073741824 then 1073741824 else max (oaF n cm h a s m) (a (frT n cm h s m).toNat + 1) := rfl
    rw [e] at hne ⊢
    by_cases c1 : oaF n cm h a s m = 1073741824
    · rw [if_pos c1] at hne
      exact absurd rfl hne
    · rw [if_neg c1] at hne ⊢
      by_cases ck : k = m
      · subst ck
        rw [if_neg hfr] at hne ⊢
        by_cases c2 : a (frT n cm h s k).toNat = 1073741824
        · rw [if_pos c2] at hne
          exact absurd rfl hne
        · rw [if_neg c2]
          exact ⟨c2, by omega⟩
      · obtain ⟨q1, q2⟩ := oa_all m c1 k (by omega) hfr
        refine ⟨q1, ?_⟩
        by_cases c3 : frT n cm h s m = -1
        · rw [if_pos c3]; exact q2
        · rw [if_neg c3] at hne ⊢
          by_cases c2 : a (frT n cm h s m).toNat = 1073741824
          · rw [if_pos c2] at hne
            exact absurd rfl hne
          · rw [if_neg c2]
            omega
theorem oa_le {n s : Nat} {cm : Option (List Nat)} {h : Int} {a : Nat → Int} {B : Int} (hB : 0 ≤ B) (hB2 : B + 1 < 1073741824) : ∀ m, (∀ k, k < m → frT n cm h s k ≠ -1 → a (frT n cm h s k).toNat ≤ B) → oaF n cm h a s m ≤ B + 1
  | 0, _ => by show (0 : Int) ≤ _; omega
  | m + 1, hall => by
    have ih := oa_le (n := n) (s := s) (cm := cm) (h := h) (a := a) hB hB2 m (fun k hk => hall k (by omega))
    have e : oaF n cm h a s (m + 1) = if oaF n cm h a s m = 1073741824 then 1073741824 else if frT n cm h s m = -1 then oaF n cm h a s m else if a (frT n cm h s m).toNat = 1073741824 then 1073741824 else max (oaF n cm h a s m) (a (frT n cm h s m).toNat + 1) := rfl
    rw [e, if_neg (by omega)]
    by_cases c3 : frT n cm h s m = -1
    · rw [if_pos c3]; exact ih
    · have := hall m (by omega) c3
      rw [if_neg c3, if_neg (by omega)]
      omega
theorem oa_fo {n z s : Nat} {cm : Option (List Nat)} {h : Int} {a b : Nat → Int} (hn : n < 6) (hr : RFI n cm h z a b) (hs : s < allS n) (hz : ¬ szS n s 0 = z) (hv : oaF n cm h a s (n + 1) < 1073741824) : 0 ≤ oaF n cm h a s (n + 1) ∧ oaF n cm h a s (n + 1) ≤ ((finC n a + finC n b : Nat) : Int) + 1 ∧ FO n cm h z (oaF n cm h a s (n + 1)).toNat false s ∧ stkB n cm h s = false := by
  have hf := (fct_le n hn).2.2.2
  have f1 := fin_le (n := n) (a := a)
  have f2 := fin_le (n := n) (a := b)
  have h0 := (oa_in (cm := cm) (h := h) hn hs (rfi_rb hn hr).1 (n + 1) (Nat.le_refl _)).1
  have hall := oa_all (n := n) (cm := cm) (h := h) (a := a) (s := s) (n + 1) (by omega)
  have hst : stkB n cm h s = false := by
    cases hst : stkB n cm h s with
    | false => rfl
    | true =>
      have ef : frT n cm h s 0 = (s : Int) := by
        unfold frT
        rw [if_pos rfl, if_pos hst]
      have := (hall 0 (by omega) (by omega)).1
      rw [ef, Int.toNat_natCast] at this
      exact absurd (hr.2.2 s hs hst hz).1 this
  have hfk : ∀ k, 1 ≤ k → k ≤ n → mayB n cm s k h = true → frT n cm h s k = ((tnS n s k : Nat) : Int) := fun k k1 k2 hm => by
    unfold frT
    rw [if_neg (by omega), thn_y k1 k2 hm]
  refine ⟨h0, ?_, ?_, hst⟩
  · refine oa_le (by omega) (by omega) (n + 1) (fun k hk hfr => ?_)
    obtain ⟨q1, q2⟩ := hall k hk hfr
    rcases fr_in (cm := cm) (h := h) hn hs (show k ≤ n by omega) with c | ⟨c1, c2⟩
    · exact absurd c hfr
    · obtain ⟨⟨_, p2⟩, _⟩ := hr.1 _ c2
      rcases p2 with p2 | p2
      · exact absurd p2 q1
      · exact p2.1
  · have hex : ∃ k, (1 ≤ k ∧ k ≤ n) ∧ mayB n cm s k h = true := by
      by_cases c : ∃ k, (1 ≤ k ∧ k ≤ n) ∧ mayB n cm s k h = true
      · exact c
      · have : stkB n cm h s = true := stk_t.mpr (fun k k1 k2 => by
          cases hm : mayB n cm s k h with
          | false => rfl
          | true => exact absurd ⟨k, ⟨k1, k2⟩, hm⟩ c)
        rw [this] at hst
        exact absurd hst (by decide)
    obtain ⟨k0, ⟨k1, k2⟩, hm0⟩ := hex
    have hE0 := tnS_in hn hs k2
    have q0 := hall k0 (by omega) (by rw [hfk k0 k1 k2 hm0]; omega)
    rw [hfk k0 k1 k2 hm0, Int.toNat_natCast] at q0
    have p0 := (hr.1 _ hE0).1.1
    obtain ⟨u, hu⟩ : ∃ u : Nat, (oaF n cm h a s (n + 1)).toNat = u + 1 := ⟨(oaF n cm h a s (n + 1)).toNat - 1, by omega⟩
    rw [hu]
    refine Or.inr ⟨⟨k0, ⟨k1, k2⟩, hm0⟩, fun k a1 a2 hm => ?_⟩
    have hE := tnS_in hn hs a2
    have q := hall k (by omega) (by rw [hfk k a1 a2 hm]; omega)
    rw [hfk k a1 a2 hm, Int.toNat_natCast] at q
    obtain ⟨⟨p1, p2⟩, _⟩ := hr.1 _ hE
    rcases p2 with p2 | ⟨p2, p3⟩
    · exact absurd p2 q.1
    · exact fo_mono (by omega) p3
theorem rfi_put {n z s : Nat} {cm : Option (List Nat)} {h : Int} {a b : Nat → Int} {v u : Int} (hr : RFI n cm h z a b) (hs : s < allS n) (hz : ¬ szS n s 0 = z) (hv1 : v ≤ a s) (hv : v = a s ∨ (v < 1073741824 ∧ 0 ≤ v ∧ v ≤ ((finC n a + finC n b : Nat) : Int) + 1 ∧ FO n cm h z v.toNat true s ∧ stkB n cm h s = false)) (hu1 : u ≤ b s) (hu : u = b s ∨ (u < 1073741824 ∧ 0 ≤ u ∧ u ≤ ((finC n a + finC n b : Nat) : Int) + 1 ∧ FO n cm h z u.toNat false s ∧ stkB n cm h s = false)) : RFI n cm h z (upF a s v) (upF b s u) := by
  obtain ⟨r1, r2, r3⟩ := hr
  have g1 := fin_ge (n := n) (s := s) hv1
  have g2 := fin_ge (n := n) (s := s) hu1
  refine ⟨fun q hq => ?_, fun q hq ht => ?_, fun q hq hst hnz => ?_⟩
  · obtain ⟨⟨p1, p2⟩, p3, p4⟩ := r1 q hq
    by_cases e : q = s
    · subst e
      rw [upF_at, upF_at]
      refine ⟨⟨by omega, ?_⟩, ⟨by omega, ?_⟩⟩
      · rcases hv with c | ⟨c1, c2, c3, c4, c5⟩
        · rw [c] at g1 ⊢
          rcases p2 with d | ⟨d1, d2⟩
          · exact Or.inl d
          · exact Or.inr ⟨by omega, d2⟩
        · refine Or.inr ⟨?_, c4⟩
          rcases p2 with d | ⟨d1, d2⟩
          · have := fin_up (n := n) hq d c1
            omega
          · omega
      · rcases hu with c | ⟨c1, c2, c3, c4, c5⟩
        · rw [c] at g2 ⊢
          rcases p4 with d | ⟨d1, d2⟩
          · exact Or.inl d
          · exact Or.inr ⟨by omega, d2⟩
        · refine Or.inr ⟨?_, c4⟩
          rcases p4 with d | ⟨d1, d2⟩
          · have := fin_up (n := n) hq d c1
            omega
          · omega
    · rw [upF_off e, upF_off e]
      refine ⟨⟨p1, ?_⟩, ⟨p3, ?_⟩⟩
      · rcases p2 with d | ⟨d1, d2⟩
        · exact Or.inl d
        · exact Or.inr ⟨by omega, d2⟩
      · rcases p4 with d | ⟨d1, d2⟩
        · exact Or.inl d
        · exact Or.inr ⟨by omega, d2⟩
  · have e : ¬ q = s := fun e => by rw [e] at ht; exact hz ht
    rw [upF_off e, upF_off e]
    exact r2 q hq ht
  · by_cases e : q = s
    · subst e
      rw [upF_at, upF_at]
      obtain ⟨s1, s2⟩ := r3 q hq hst hnz
      refine ⟨?_, ?_⟩
      · rcases hv with c | c
        · rw [c]; exact s1
        · rw [c.2.2.2.2] at hst; exact absurd hst (by decide)
      · rcases hu with c | c
        · rw [c]; exact s2
        · rw [c.2.2.2.2] at hst; exact absurd hst (by decide)
    · rw [upF_off e, upF_off e]
      exact r3 q hq hst hnz
/-- what the end says -/
def FCl (n : Nat) (cm : Option (List Nat)) (h : Int) (z : Nat) (a b : Nat → Int) : Prop := ∀ s, s < allS n → ¬ szS n s 0 = z → (∀ k, k ≤ n → a s ≤ fbV n cm h b s k) ∧ b s ≤ oaF n cm h a s (n + 1)
theorem fc_comp {n z : Nat} {cm : Option (List Nat)} {h : Int} {a b : Nat → Int} (hn : n < 6) (hr : RFI n cm h z a b) (hcl : FCl n cm h z a b) : ∀ i : Nat, i ≤ 8000 → ∀ s, s < allS n → (FO n cm h z i true s → a s ≤ (i : Int)) ∧ (FO n cm h z i false s → b s ≤ (i : Int)) := by
  intro i
  induction i with
  | zero =>
    intro _ s hs
    exact ⟨fun e => by have := (hr.2.1 s hs e).1; omega, fun e => by have := (hr.2.1 s hs e).2; omega⟩
  | succ i ih =>
    intro hi s hs
    have ih := ih (by omega)
    refine ⟨fun e => ?_, fun e => ?_⟩
    · by_cases hz : szS n s 0 = z
      · have := (hr.2.1 s hs hz).1
        omega
      · rcases e with e | ⟨k, ⟨k1, k2⟩, hm, e⟩
        · exact absurd e hz
        · have hE := tnS_in hn hs k2
          have b1 := (ih _ hE).2 e
          have b0 := (hr.1 _ hE).2.1
          have c1 := (hcl s hs hz).1 k k2
          have ef : frT n cm h s k = ((tnS n s k : Nat) : Int) := by
            unfold frT
            rw [if_neg (by omega), thn_y k1 k2 hm]
          unfold fbV at c1
          rw [ef, if_neg (by omega), Int.toNat_natCast, if_neg (by omega)] at c1
          omega
    · by_cases hz : szS n s 0 = z
      · have := (hr.2.1 s hs hz).2
        omega
      · rcases e with e | ⟨⟨k0, ⟨a1, a2⟩, hm0⟩, e⟩
        · exact absurd e hz
        · have c1 := (hcl s hs hz).2
          have c2 := oa_le (n := n) (s := s) (cm := cm) (h := h) (a := a) (B := (i : Int)) (by omega) (by omega) (n + 1) (fun k hk hfr => by
            by_cases k0' : k = 0
            · exfalso
              have ef : frT n cm h s k = if stkB n cm h s = true then (s : Int) else -1 := if_pos k0'
              by_cases hst : stkB n cm h s = true
              · rw [stk_t.mp hst k0 a1 a2] at hm0
                exact absurd hm0 (by decide)
              · rw [if_neg hst] at ef
                exact hfr ef
            · have ef : frT n cm h s k = thn n cm h s k := if_neg k0'
              cases hm : mayB n cm s k h with
              | false =>
                rw [thn_n hm] at ef
                exact absurd ef hfr
              | true =>
                rw [ef, thn_y (by omega) (by omega) hm, Int.toNat_natCast]
                exact (ih _ (tnS_in hn hs (by omega))).1 (e k (by omega) (by omega) hm))
          omega
theorem fc_for {n z s : Nat} {cm : Option (List Nat)} {h : Int} {a b : Nat → Int} (hn : n < 6) (hr : RFI n cm h z a b) (hcl : FCl n cm h z a b) (hs : s < allS n) : (a s = 1073741824 ∧ forV n cm h z s = -1) ∨ (a s < 1073741824 ∧ forV n cm h z s = a s ∧ a s ≤ 8000) := by
  have hf := (fct_le n hn).2.2.2
  have f1 := fin_le (n := n) (a := a)
  have f2 := fin_le (n := n) (a := b)
  obtain ⟨i0, s1, s2⟩ := fo_stab (z := z) (cm := cm) (h := h) hn
  obtain ⟨⟨p1, p2⟩, _⟩ := hr.1 s hs
  rcases p2 with c | ⟨c1, c2⟩
  · left
    refine ⟨c, for_is (Or.inr ⟨rfl, fun i hi => ?_⟩)⟩
    have := (fc_comp hn hr hcl i0 (by omega) s hs).1 (s2 i true s hs hi)
    omega
  · right
    refine ⟨by omega, for_is (Or.inl ⟨(a s).toNat, by omega, c2, fun j hj hf' => ?_⟩), by omega⟩
    have := (fc_comp hn hr hcl j (by omega) s hs).1 hf'
    omega
