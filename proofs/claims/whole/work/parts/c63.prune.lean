/-! MARKS: forward and back -/
theorem sp_mono {n : Nat} {cm : Option (List Nat)} {h : Int} {z x s : Nat} {acc : Nat → Nat} {t : Nat} : ∀ j, acc t ≤ spF n cm h z x s j acc t
  | 0 => Nat.le_refl _
  | j + 1 => by
    have ih := sp_mono (n := n) (cm := cm) (h := h) (z := z) (x := x) (s := s) (acc := acc) (t := t) j
    show _ ≤ (if _ then _ else _ : Nat → Nat) t
    split
    · by_cases c : t = tnS n s (j + 1)
      · rw [c, upF_at]; rw [c] at ih; omega
      · rw [upF_off c]; exact ih
    · exact ih
theorem sp_hit {n : Nat} {cm : Option (List Nat)} {h : Int} {z x s : Nat} {acc : Nat → Nat} {k : Nat} (hx : 0 < x) (hc : cnd n cm h z s k = true) (h1 : 1 ≤ k) : ∀ j, k ≤ j → 0 < spF n cm h z x s j acc (tnS n s k)
  | 0, hk => by omega
  | j + 1, hk => by
    by_cases e : k = j + 1
    · show 0 < (if _ then _ else _ : Nat → Nat) _
      rw [if_pos (by rw [← e]; exact hc), e, upF_at]
      omega
    · have ih := sp_hit (acc := acc) hx hc h1 j (by omega)
      show 0 < (if _ then _ else _ : Nat → Nat) _
      split
      · by_cases c : tnS n s k = tnS n s (j + 1)
        · rw [c, upF_at]; omega
        · rw [upF_off c]; exact ih
      · exact ih
theorem tr_hit {n : Nat} {cm : Option (List Nat)} {h : Int} {z s : Nat} {w : Nat → Nat} {k : Nat} (hx : 0 < w s) (hc : cnd n cm h z s k = true) (h1 : 1 ≤ k) (hk : k ≤ n) : ∀ A, s < A → 0 < trF n cm h z w A (tnS n s k)
  | 0, hs => by omega
  | A + 1, hs => by
    show 0 < spF n cm h z (w A) A n (trF n cm h z w A) (tnS n s k)
    by_cases e : s = A
    · rw [← e]
      exact sp_hit hx hc h1 n hk
    · have ih := tr_hit (cm := cm) (h := h) (z := z) hx hc h1 hk A (by omega)
      have m := sp_mono (n := n) (cm := cm) (h := h) (z := z) (x := w A) (s := A) (acc := trF n cm h z w A) (t := tnS n s k) n
      omega
def aimZ (n z t : Nat) : Bool := Nat.beq z 0 || Nat.beq (szS n t 0) z
theorem sp_src {n : Nat} {cm : Option (List Nat)} {h : Int} {z x s : Nat} {acc : Nat → Nat} {t : Nat} : ∀ j, 0 < spF n cm h z x s j acc t → 0 < acc t ∨ aimZ n z t = true
  | 0, hp => Or.inl hp
  | j + 1, hp => by
    have ih := sp_src (n := n) (cm := cm) (h := h) (z := z) (x := x) (s := s) (acc := acc) (t := t) j
    have hp : 0 < (if cnd n cm h z s (j + 1) = true then upF (spF n cm h z x s j acc) (tnS n s (j + 1)) (spF n cm h z x s j acc (tnS n s (j + 1)) + x) else spF n cm h z x s j acc) t := hp
    by_cases hc : cnd n cm h z s (j + 1) = true
    · rw [if_pos hc] at hp
      by_cases c : t = tnS n s (j + 1)
      · refine Or.inr ?_
        unfold cnd at hc
        rw [Bool.and_eq_true] at hc
        rw [c]
        exact hc.2
      · rw [upF_off c] at hp
        exact ih hp
    · rw [if_neg hc] at hp
      exact ih hp
theorem tr_src {n : Nat} {cm : Option (List Nat)} {h : Int} {z : Nat} {w : Nat → Nat} {t : Nat} : ∀ A, 0 < trF n cm h z w A t → aimZ n z t = true
  | 0, hp => absurd hp (Nat.lt_irrefl 0)
  | A + 1, hp => by
    rcases sp_src (n := n) (cm := cm) (h := h) (z := z) (x := w A) (s := A) n hp with a | a
    · exact tr_src A a
    · exact a
theorem bk_pos {n : Nat} {cm : Option (List Nat)} {h : Int} {z s : Nat} {g : Nat → Nat} : ∀ j, 0 < bnK n cm h z g s j ↔ ∃ k, (1 ≤ k ∧ k ≤ j) ∧ cnd n cm h z s k = true ∧ 0 < g (tnS n s k)
  | 0 => ⟨fun q => absurd q (Nat.lt_irrefl 0), fun ⟨k, hk, _⟩ => by omega⟩
  | j + 1 => by
    have ih := bk_pos (n := n) (cm := cm) (h := h) (z := z) (s := s) (g := g) j
    show 0 < bnK n cm h z g s j + (if cnd n cm h z s (j + 1) = true then g (tnS n s (j + 1)) else 0) ↔ _
    constructor
    · intro q
      by_cases c : 0 < bnK n cm h z g s j
      · obtain ⟨k, hk, r⟩ := ih.mp c
        exact ⟨k, ⟨hk.1, by omega⟩, r⟩
      · by_cases hc : cnd n cm h z s (j + 1) = true
        · rw [if_pos hc] at q
          exact ⟨j + 1, ⟨by omega, by omega⟩, hc, by omega⟩
        · rw [if_neg hc] at q
          omega
    · rintro ⟨k, hk, r1, r2⟩
      by_cases e : k = j + 1
      · rw [← e, if_pos r1]
        omega
      · have := ih.mpr ⟨k, ⟨hk.1, by omega⟩, r1, r2⟩
        omega
theorem bt_zero {f : Nat → Bool} : ∀ m, bt f m = 0 ↔ ∀ k, k < m → f k = false
  | 0 => ⟨fun _ k hk => by omega, fun _ => rfl⟩
  | m + 1 => by
    have ih := bt_zero (f := f) m
    have hp : 0 < 2 ^ m := Nat.two_pow_pos m
    show bt f m + (bif f m then 2 ^ m else 0) = 0 ↔ _
    constructor
    · intro q k hk
      cases hm : f m with
      | true =>
        rw [hm] at q
        have q : bt f m + 2 ^ m = 0 := q
        omega
      | false =>
        by_cases e : k = m
        · rw [e]; exact hm
        · exact ih.mp (by omega) k (by omega)
    · intro q
      rw [ih.mpr (fun k hk => q k (by omega)), q m (by omega)]
      rfl
/-- the marks when level i is pruned for the stacks below m, and all above it -/
def prB (w b : Nat → Nat → Nat) (L i m : Nat) : Nat → Nat → Bool := fun j t => if j ≤ L then Nat.ble 1 (w j t) && ((Nat.ble (j + 1) i || (Nat.beq j i && Nat.ble m t)) || Nat.ble 1 (b (L - j) t)) else false
theorem pr_clr {w b : Nat → Nat → Nat} {L i m : Nat} (hz : b (L - i) m = 0) : upB (prB w b L i m) i m false = prB w b L i (m + 1) := by
  funext j t
  unfold upB prB
  by_cases c : j = i ∧ t = m
  · rw [if_pos c, c.1, c.2, hz]
    by_cases d : i ≤ L
    · rw [if_pos d]
      have e1 : Nat.ble (i + 1) i = false := by cases q : Nat.ble (i + 1) i with | false => rfl | true => have := Nat.ble_eq.mp q; omega
      have e2 : Nat.ble (m + 1) m = false := by cases q : Nat.ble (m + 1) m with | false => rfl | true => have := Nat.ble_eq.mp q; omega
      rw [e1, e2, Bool.and_false, show Nat.ble 1 0 = false from rfl]
      simp
    · rw [if_neg d]
  · rw [if_neg c]
    by_cases d : j ≤ L
    · rw [if_pos d, if_pos d]
      by_cases e : j = i
      · have hne : ¬ t = m := fun q => c ⟨e, q⟩
        have e2 : Nat.ble m t = Nat.ble (m + 1) t := by
          by_cases l : m ≤ t
          · rw [Nat.ble_eq.mpr l, Nat.ble_eq.mpr (show m + 1 ≤ t by omega)]
          · cases q : Nat.ble m t with
            | true => exact absurd (Nat.ble_eq.mp q) l
            | false =>
              cases q2 : Nat.ble (m + 1) t with
              | false => rfl
              | true => have := Nat.ble_eq.mp q2; omega
        rw [e2]
      · have e1 : Nat.beq j i = false := by cases q : Nat.beq j i with | false => rfl | true => exact absurd (Nat.eq_of_beq_eq_true q) e
        rw [e1]
        rfl
    · rw [if_neg d, if_neg d]
theorem pr_keep {w b : Nat → Nat → Nat} {L i m : Nat} (hz : w i m = 0 ∨ 0 < b (L - i) m) : prB w b L i m = prB w b L i (m + 1) := by
  funext j t
  unfold prB
  by_cases d : j ≤ L
  · rw [if_pos d, if_pos d]
    by_cases c : j = i ∧ t = m
    · rw [c.1, c.2]
      rcases hz with hz | hz
      · rw [hz]; rfl
      · rw [Nat.ble_eq.mpr (show 1 ≤ b (L - i) m from hz), Bool.or_true, Bool.or_true]
    · by_cases e : j = i
      · have hne : ¬ t = m := fun q => c ⟨e, q⟩
        have e2 : Nat.ble m t = Nat.ble (m + 1) t := by
          by_cases l : m ≤ t
          · rw [Nat.ble_eq.mpr l, Nat.ble_eq.mpr (show m + 1 ≤ t by omega)]
          · cases q : Nat.ble m t with
            | true => exact absurd (Nat.ble_eq.mp q) l
            | false =>
              cases q2 : Nat.ble (m + 1) t with
              | false => rfl
              | true => have := Nat.ble_eq.mp q2; omega
        rw [e2]
      · have e1 : Nat.beq j i = false := by cases q : Nat.beq j i with | false => rfl | true => exact absurd (Nat.eq_of_beq_eq_true q) e
        rw [e1]
        rfl
  · rw [if_neg d, if_neg d]
theorem mk_cg {p : Int} {A : Nat} {B B' : Nat → Nat → Bool} {M : Mm} (h : MkAt p A B M) (hB : ∀ j s : Nat, s < A → B j s = B' j s) : MkAt p A B' M := by
  intro s hs
  rw [h s hs, show (fun j => B j s) = (fun j => B' j s) from funext fun j => hB j s hs]
theorem pr_next {w b : Nat → Nat → Nat} {L i A j t : Nat} (ht : t < A) : prB w b L (i + 1) A j t = prB w b L i 0 j t := by
  unfold prB
  by_cases d : j ≤ L
  · rw [if_pos d, if_pos d]
    have e2 : Nat.ble A t = false := by cases q : Nat.ble A t with | false => rfl | true => have := Nat.ble_eq.mp q; omega
    rw [e2, Bool.and_false, Bool.or_false, show Nat.ble 0 t = true from rfl, Bool.and_true]
    congr 2
    by_cases c1 : j < i
    · rw [Nat.ble_eq.mpr (show j + 1 ≤ i + 1 by omega), Nat.ble_eq.mpr (show j + 1 ≤ i by omega), Bool.true_or]
    · have e3 : Nat.ble (j + 1) i = false := by cases q : Nat.ble (j + 1) i with | false => rfl | true => have := Nat.ble_eq.mp q; omega
      rw [e3, Bool.false_or]
      by_cases c2 : j = i
      · rw [c2, Nat.ble_eq.mpr (show i + 1 ≤ i + 1 by omega), Nat.beq_refl]
      · have e4 : Nat.beq j i = false := by cases q : Nat.beq j i with | false => rfl | true => exact absurd (Nat.eq_of_beq_eq_true q) c2
        have e5 : Nat.ble (j + 1) (i + 1) = false := by cases q : Nat.ble (j + 1) (i + 1) with | false => rfl | true => have := Nat.ble_eq.mp q; omega
        rw [e4, e5]
  · rw [if_neg d, if_neg d]
theorem pr_first {w b : Nat → Nat → Nat} {L A j t : Nat} (hb : ∀ t, b 0 t = 1) (ht : t < A) : lvB w L (fun _ => 0) j t = prB w b L L A j t := by
  unfold lvB prB
  by_cases d : j ≤ L
  · rw [if_pos d, if_pos d]
    by_cases c1 : j < L
    · rw [Nat.ble_eq.mpr (show j + 1 ≤ L by omega), Bool.true_or, Bool.true_or, Bool.and_true]
    · rw [show L - j = 0 by omega, hb, show Nat.ble 1 1 = true from rfl, Bool.or_true, Bool.and_true]
  · rw [if_neg d, if_neg d]
    by_cases c : j = L + 1
    · rw [if_pos c]; rfl
    · rw [if_neg c]
/-- a marked stack goes on if and only if the rest can be seen from it -/
theorem go_iff {n st L i s : Nat} {cm : Option (List Nat)} {h : Int} {zf : Nat → Nat} {m : Nat} (hn : n < 6) (hs : s < allS n) (hi : i < L) (hw : 0 < wyG n cm h st zf i s) : (bt (goB n cm h (prB (wyG n cm h st zf) (bnF n cm h zf L) L i m) s i) (n + 1) = 0) ↔ bnF n cm h zf L (L - i) s = 0 := by
  have hL : L - i = (L - (i + 1)) + 1 := by omega
  have hb : bnF n cm h zf L (L - i) s = bnK n cm h (zf i) (bnF n cm h zf L (L - (i + 1))) s n := by
    rw [hL]
    show bnK n cm h (zf (L - (L - (i + 1) + 1))) _ s n = _
    rw [show L - (L - (i + 1) + 1) = i by omega]
  have hlv : ∀ t, prB (wyG n cm h st zf) (bnF n cm h zf L) L i m (i + 1) t = (Nat.ble 1 (wyG n cm h st zf (i + 1) t) && Nat.ble 1 (bnF n cm h zf L (L - (i + 1)) t)) := by
    intro t
    unfold prB
    rw [if_pos (show i + 1 ≤ L by omega)]
    have e1 : Nat.ble (i + 1 + 1) i = false := by cases q : Nat.ble (i + 1 + 1) i with | false => rfl | true => have := Nat.ble_eq.mp q; omega
    have e2 : Nat.beq (i + 1) i = false := by cases q : Nat.beq (i + 1) i with | false => rfl | true => have := Nat.eq_of_beq_eq_true q; omega
    rw [e1, e2, Bool.false_and, Bool.false_or, Bool.false_or]
  have hpos : (0 < bnF n cm h zf L (L - i) s) ↔ ∃ k, k < n + 1 ∧ goB n cm h (prB (wyG n cm h st zf) (bnF n cm h zf L) L i m) s i k = true := by
    rw [hb, bk_pos]
    constructor
    · rintro ⟨k, hk, r1, r2⟩
      refine ⟨k, by omega, ?_⟩
      have r3 := r1
      unfold cnd at r3
      rw [Bool.and_eq_true] at r3
      have hh : 0 < wyG n cm h st zf (i + 1) (tnS n s k) := tr_hit (A := allS n) hw r1 hk.1 hk.2 hs
      unfold goB
      rw [hlv, r3.1, Nat.ble_eq.mpr hk.1, Nat.ble_eq.mpr (show 1 ≤ _ from hh), Nat.ble_eq.mpr (show 1 ≤ _ from r2)]
      rfl
    · rintro ⟨k, hk, r⟩
      unfold goB at r
      rw [hlv, Bool.and_eq_true, Bool.and_eq_true, Bool.and_eq_true] at r
      obtain ⟨⟨r1, r2⟩, r3, r4⟩ := r
      have r1 := Nat.ble_eq.mp r1
      have r3 : 0 < trF n cm h (zf i) (wyG n cm h st zf i) (allS n) (tnS n s k) := Nat.ble_eq.mp r3
      have ha := tr_src _ r3
      refine ⟨k, ⟨r1, by omega⟩, ?_, Nat.ble_eq.mp r4⟩
      unfold cnd
      rw [r2]
      exact ha
  rw [bt_zero]
  constructor
  · intro q
    by_cases c : 0 < bnF n cm h zf L (L - i) s
    · obtain ⟨k, hk, r⟩ := hpos.mp c
      rw [q k hk] at r
      exact absurd r (by decide)
    · omega
  · intro q k hk
    cases r : goB n cm h (prB (wyG n cm h st zf) (bnF n cm h zf L) L i m) s i k with
    | false => rfl
    | true =>
      have := hpos.mpr ⟨k, hk, r⟩
      omega
