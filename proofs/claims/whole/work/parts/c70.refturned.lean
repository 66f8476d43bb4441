/-! CONTRACTS: turned of the reference -/
theorem sp_from {n : Nat} {cm : Option (List Nat)} {h : Int} {z x s : Nat} {acc : Nat → Nat} {t : Nat} : ∀ j, 0 < spF n cm h z x s j acc t → 0 < acc t ∨ (0 < x ∧ ∃ k, (1 ≤ k ∧ k ≤ j) ∧ cnd n cm h z s k = true ∧ t = tnS n s k)
  | 0, hp => Or.inl hp
  | j + 1, hp => by
    have ih := sp_from (n := n) (cm := cm) (h := h) (z := z) (x := x) (s := s) (acc := acc) (t := t) j
    have up : (0 < acc t ∨ (0 < x ∧ ∃ k, (1 ≤ k ∧ k ≤ j) ∧ cnd n cm h z s k = true ∧ t = tnS n s k)) → (0 < acc t ∨ (0 < x ∧ ∃ k, (1 ≤ k ∧ k ≤ j + 1) ∧ cnd n cm h z s k = true ∧ t = tnS n s k)) := by
      rintro (a | ⟨a, k, b, c⟩)
      · exact Or.inl a
      · exact Or.inr ⟨a, k, ⟨b.1, by omega⟩, c⟩
    have hp : 0 < (if cnd n cm h z s (j + 1) = true then upF (spF n cm h z x s j acc) (tnS n s (j + 1)) (spF n cm h z x s j acc (tnS n s (j + 1)) + x) else spF n cm h z x s j acc) t := hp
    by_cases hc : cnd n cm h z s (j + 1) = true
    · rw [if_pos hc] at hp
      by_cases c : t = tnS n s (j + 1)
      · rw [c, upF_at] at hp
        by_cases p : 0 < x
        · exact Or.inr ⟨p, j + 1, ⟨by omega, by omega⟩, hc, c⟩
        · exact up (ih (by rw [c]; omega))
      · rw [upF_off c] at hp
        exact up (ih hp)
    · rw [if_neg hc] at hp
      exact up (ih hp)
theorem tr_from {n : Nat} {cm : Option (List Nat)} {h : Int} {z : Nat} {w : Nat → Nat} {t : Nat} : ∀ A, 0 < trF n cm h z w A t → ∃ s k, s < A ∧ (1 ≤ k ∧ k ≤ n) ∧ 0 < w s ∧ cnd n cm h z s k = true ∧ t = tnS n s k
  | 0, hp => absurd hp (Nat.lt_irrefl 0)
  | A + 1, hp => by
    rcases sp_from (n := n) (cm := cm) (h := h) (z := z) (x := w A) (s := A) n hp with a | ⟨a, k, b, c, e⟩
    · obtain ⟨s, k, q1, q⟩ := tr_from A a
      exact ⟨s, k, by omega, q⟩
    · exact ⟨A, k, by omega, b, a, c, e⟩
def mkB (n : Nat) (cm : Option (List Nat)) (h : Int) (zf : Nat → Nat) (L st j t : Nat) : Bool := Nat.ble 1 (wyG n cm h st zf j t) && Nat.ble 1 (bnF n cm h zf L (L - j) t)
theorem mk_iff {n : Nat} {cm : Option (List Nat)} {h : Int} {zf : Nat → Nat} {L st j t : Nat} : mkB n cm h zf L st j t = true ↔ 0 < wyG n cm h st zf j t ∧ 0 < bnF n cm h zf L (L - j) t := by
  unfold mkB
  rw [Bool.and_eq_true, Nat.ble_eq, Nat.ble_eq]
  exact Iff.rfl
theorem bn_step {n : Nat} {cm : Option (List Nat)} {h : Int} {zf : Nat → Nat} {L j s : Nat} (hj : j < L) : bnF n cm h zf L (L - j) s = bnK n cm h (zf j) (bnF n cm h zf L (L - (j + 1))) s n := by
  rw [show L - j = (L - (j + 1)) + 1 by omega]
  show bnK n cm h (zf (L - (L - (j + 1) + 1))) _ s n = _
  rw [show L - (L - (j + 1) + 1) = j by omega]
theorem mk_step {n : Nat} {cm : Option (List Nat)} {h : Int} {zf : Nat → Nat} {L st j t : Nat} (hj : j < L) : mkB n cm h zf L st (j + 1) t = true ↔ ∃ s k, s < allS n ∧ (1 ≤ k ∧ k ≤ n) ∧ mkB n cm h zf L st j s = true ∧ nxP n cm h zf L j s k = true ∧ t = tnS n s k := by
  rw [mk_iff]
  constructor
  · rintro ⟨a, b⟩
    obtain ⟨s, k, q1, q2, q3, q4, q5⟩ := tr_from (allS n) a
    refine ⟨s, k, q1, q2, ?_, ?_, q5⟩
    · rw [mk_iff, bn_step hj, bk_pos]
      exact ⟨q3, k, q2, q4, by rw [← q5]; exact b⟩
    · unfold nxP
      rw [q4, ← q5, Nat.ble_eq.mpr (show 1 ≤ _ from b)]
      rfl
  · rintro ⟨s, k, q1, q2, q3, q4, q5⟩
    rw [mk_iff] at q3
    obtain ⟨r1, r2⟩ := nx_and q4
    rw [q5]
    exact ⟨tr_hit (A := allS n) q3.1 r1 q2.1 q2.2 q1, r2⟩
theorem mk_none {n : Nat} {cm : Option (List Nat)} {h : Int} {zf : Nat → Nat} {L st : Nat} (hz : bnF n cm h zf L L st = 0) : ∀ j t, j ≤ L → mkB n cm h zf L st j t = false
  | 0, t, _ => by
    cases c : mkB n cm h zf L st 0 t with
    | false => rfl
    | true =>
      obtain ⟨a, b⟩ := mk_iff.mp c
      have a : 0 < (if t = st then 1 else 0) := a
      by_cases e : t = st
      · rw [Nat.sub_zero, e, hz] at b
        omega
      · rw [if_neg e] at a
        omega
  | j + 1, t, hj => by
    cases c : mkB n cm h zf L st (j + 1) t with
    | false => rfl
    | true =>
      obtain ⟨s, k, q1, q2, q3, q4, q5⟩ := (mk_step (by omega)).mp c
      rw [mk_none hz j s (by omega)] at q3
      exact absurd q3 (by decide)
theorem td_mk {n : Nat} {cm : Option (List Nat)} {h : Int} {zf : Nat → Nat} {L st i s k : Nat} : tdS n cm h zf L st i (s + 1) k = (tdS n cm h zf L st i s k || (mkB n cm h zf L st i s && (Nat.ble 1 k && nxP n cm h zf L i s k))) := rfl
theorem td_none {n : Nat} {cm : Option (List Nat)} {h : Int} {zf : Nat → Nat} {L st i : Nat} (hz : bnF n cm h zf L L st = 0) (hi : i ≤ L) : ∀ s k, tdS n cm h zf L st i s k = false
  | 0, _ => rfl
  | s + 1, k => by
    rw [td_mk, td_none hz hi s k, mk_none hz i s hi]
    rfl
theorem bt_one (k : Nat) : ∀ m, k < m → bt (fun i => Nat.beq i k) m = 2 ^ k
  | 0, h => by omega
  | m + 1, h => by
    show bt (fun i => Nat.beq i k) m + (bif Nat.beq m k then 2 ^ m else 0) = _
    by_cases e : m = k
    · rw [e, Nat.beq_refl, (bt_zero (f := fun i => Nat.beq i k) k).mpr (fun i hi => by
        cases q : Nat.beq i k with
        | false => rfl
        | true => have := Nat.eq_of_beq_eq_true q; omega)]
      exact Nat.zero_add _
    · rw [bt_one k m (by omega), show Nat.beq m k = false from by
        cases q : Nat.beq m k with
        | false => rfl
        | true => exact absurd (Nat.eq_of_beq_eq_true q) e]
      rfl
theorem bt_add {f : Nat → Bool} {k m : Nat} (hk : k < m) : (bt f m).lor (2 ^ k) = bt (fun i => f i || Nat.beq i k) m := by
  rw [← bt_one k m hk]
  exact bt_orr m
/-- the set told, the first k looked at -/
def tdK (n : Nat) (cm : Option (List Nat)) (h : Int) (zf : Nat → Nat) (L st i s k : Nat) : Nat → Bool := fun q => tdS n cm h zf L st i s q || (Nat.ble (q + 1) k && (Nat.ble 1 q && nxP n cm h zf L i s q))
theorem tdK_y {n : Nat} {cm : Option (List Nat)} {h : Int} {zf : Nat → Nat} {L st i s k : Nat} (h1 : 1 ≤ k) (hk : k ≤ n) (hy : nxP n cm h zf L i s k = true) : bt (tdK n cm h zf L st i s (k + 1)) (n + 1) = (bt (tdK n cm h zf L st i s k) (n + 1)).lor (2 ^ k) := by
  rw [bt_add (by omega)]
  refine bt_cg _ (fun q hq => ?_)
  unfold tdK
  by_cases e : q = k
  · rw [e, hy, Nat.beq_refl, Nat.ble_eq.mpr (Nat.le_refl (k + 1)), Nat.ble_eq.mpr h1, Bool.or_true]
    exact Bool.or_true _
  · have e1 : Nat.beq q k = false := by cases c : Nat.beq q k with | false => rfl | true => exact absurd (Nat.eq_of_beq_eq_true c) e
    have e2 : Nat.ble (q + 1) (k + 1) = Nat.ble (q + 1) k := by
      by_cases l : q + 1 ≤ k
      · rw [Nat.ble_eq.mpr l, Nat.ble_eq.mpr (show q + 1 ≤ k + 1 by omega)]
      · cases c : Nat.ble (q + 1) k with
        | true => exact absurd (Nat.ble_eq.mp c) l
        | false =>
          cases c2 : Nat.ble (q + 1) (k + 1) with
          | false => rfl
          | true => have := Nat.ble_eq.mp c2; omega
    rw [e1, e2, Bool.or_false]
theorem tdK_n {n : Nat} {cm : Option (List Nat)} {h : Int} {zf : Nat → Nat} {L st i s k : Nat} (hy : nxP n cm h zf L i s k = false) : bt (tdK n cm h zf L st i s (k + 1)) (n + 1) = bt (tdK n cm h zf L st i s k) (n + 1) := by
  refine bt_cg _ (fun q hq => ?_)
  unfold tdK
  by_cases e : q = k
  · rw [e, hy, Bool.and_false, Bool.and_false, Bool.and_false]
  · have e2 : Nat.ble (q + 1) (k + 1) = Nat.ble (q + 1) k := by
      by_cases l : q + 1 ≤ k
      · rw [Nat.ble_eq.mpr l, Nat.ble_eq.mpr (show q + 1 ≤ k + 1 by omega)]
      · cases c : Nat.ble (q + 1) k with
        | true => exact absurd (Nat.ble_eq.mp c) l
        | false =>
          cases c2 : Nat.ble (q + 1) (k + 1) with
          | false => rfl
          | true => have := Nat.ble_eq.mp c2; omega
    rw [e2]
theorem tdK_0 {n : Nat} {cm : Option (List Nat)} {h : Int} {zf : Nat → Nat} {L st i s : Nat} : bt (tdK n cm h zf L st i s 1) (n + 1) = bt (tdS n cm h zf L st i s) (n + 1) := by
  refine bt_cg _ (fun q hq => ?_)
  unfold tdK
  by_cases e : q = 0
  · rw [e]; exact Bool.or_false _
  · rw [show Nat.ble (q + 1) 1 = false from by
      cases c : Nat.ble (q + 1) 1 with
      | false => rfl
      | true => have := Nat.ble_eq.mp c; omega]
    exact Bool.or_false _
theorem tdK_e {n : Nat} {cm : Option (List Nat)} {h : Int} {zf : Nat → Nat} {L st i s : Nat} (hm : mkB n cm h zf L st i s = true) : bt (tdK n cm h zf L st i s (n + 1)) (n + 1) = bt (tdS n cm h zf L st i (s + 1)) (n + 1) := by
  refine bt_cg _ (fun q hq => ?_)
  rw [td_mk, hm]
  unfold tdK
  rw [Nat.ble_eq.mpr (show q + 1 ≤ n + 1 by omega)]
theorem td_skip {n : Nat} {cm : Option (List Nat)} {h : Int} {zf : Nat → Nat} {L st i s : Nat} (hm : mkB n cm h zf L st i s = false) : bt (tdS n cm h zf L st i (s + 1)) (n + 1) = bt (tdS n cm h zf L st i s) (n + 1) := by
  refine bt_cg _ (fun q hq => ?_)
  rw [td_mk, hm]
  exact Bool.or_false _
