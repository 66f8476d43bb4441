/-! FORCING: what is forced within so many turns; the line of those found -/
def FO (n : Nat) (cm : Option (List Nat)) (h : Int) (z : Nat) : Nat → Bool → Nat → Prop
  | 0, _, s => szS n s 0 = z
  | i + 1, true, s => szS n s 0 = z ∨ ∃ k, (1 ≤ k ∧ k ≤ n) ∧ mayB n cm s k h = true ∧ FO n cm h z i false (tnS n s k)
  | i + 1, false, s => szS n s 0 = z ∨ ((∃ k, (1 ≤ k ∧ k ≤ n) ∧ mayB n cm s k h = true) ∧ ∀ k, 1 ≤ k → k ≤ n → mayB n cm s k h = true → FO n cm h z i true (tnS n s k))
theorem fo_top {n z s : Nat} {cm : Option (List Nat)} {h : Int} {b : Bool} (e : szS n s 0 = z) : ∀ i, FO n cm h z i b s
  | 0 => e
  | i + 1 => by cases b <;> exact Or.inl e
theorem fo_mono1 {n z : Nat} {cm : Option (List Nat)} {h : Int} : ∀ (i : Nat) (b : Bool) (s : Nat), FO n cm h z i b s → FO n cm h z (i + 1) b s
  | 0, _, _, e => fo_top e 1
  | i + 1, true, s, e => by
    rcases e with e | ⟨k, k1, k2, k3⟩
    · exact Or.inl e
    · exact Or.inr ⟨k, k1, k2, fo_mono1 i false _ k3⟩
  | i + 1, false, s, e => by
    rcases e with e | ⟨k1, k2⟩
    · exact Or.inl e
    · exact Or.inr ⟨k1, fun k a b c => fo_mono1 i true _ (k2 k a b c)⟩
theorem fo_mono {n z : Nat} {cm : Option (List Nat)} {h : Int} {i j : Nat} {b : Bool} {s : Nat} (hij : i ≤ j) (e : FO n cm h z i b s) : FO n cm h z j b s := by
  induction j with
  | zero => rw [show i = 0 by omega] at e; exact e
  | succ j ih =>
    by_cases c : i = j + 1
    · rw [← c]; exact e
    · exact fo_mono1 j b s (ih (by omega))
/-- just v -/
def FV (n : Nat) (cm : Option (List Nat)) (h : Int) (z : Nat) (b : Bool) (s : Nat) (v : Int) : Prop := v = -1 ∨ ∃ i : Nat, v = (i : Int) ∧ FO n cm h z i b s ∧ ∀ j, j < i → ¬ FO n cm h z j b s
def vqL (own oth : Nat → Int) (lq : Nat → Nat) (j : Nat) : Int := if lq j % 2 = 0 then own (lq j / 2) else oth (lq j / 2)
theorem vq_even {own oth : Nat → Int} {lq : Nat → Nat} {j x : Nat} (h : lq j = 2 * x) : vqL own oth lq j = own x := by
  unfold vqL
  rw [h, if_pos (by omega), show 2 * x / 2 = x by omega]
theorem vq_odd {own oth : Nat → Int} {lq : Nat → Nat} {j x : Nat} (h : lq j = 2 * x + 1) : vqL own oth lq j = oth x := by
  unfold vqL
  rw [h, if_neg (by omega), show (2 * x + 1) / 2 = x by omega]
def BI (n : Nat) (cm : Option (List Nat)) (h : Int) (z : Nat) (X : Nat → Nat → Prop) (own oth : Nat → Int) (dn : Nat → Nat → Bool) (lq : Nat → Nat) (ln i : Nat) (w : Int) : Prop :=
  (∀ s, s < allS n → FV n cm h z true s (own s) ∧ FV n cm h z false s (oth s))
  ∧ (∀ s, s < allS n → szS n s 0 = z → own s = 0 ∧ oth s = 0)
  ∧ (∀ j, j < ln → lq j < 2 * allS n ∧ vqL own oth lq j ≠ -1)
  ∧ (∀ j j', j < j' → j' < ln → lq j ≠ lq j')
  ∧ (∀ s, s < allS n → (own s ≠ -1 → ∃ j, j < ln ∧ lq j = 2 * s) ∧ (oth s ≠ -1 → ∃ j, j < ln ∧ lq j = 2 * s + 1))
  ∧ (∀ j, j < ln → (j < i → vqL own oth lq j ≤ w) ∧ (i ≤ j → w ≤ vqL own oth lq j) ∧ vqL own oth lq j ≤ w + 1)
  ∧ (∀ j, j < i → ∀ x, x < allS n → (lq j = 2 * x + 1 → ∀ k, 1 ≤ k → k ≤ n → mayB n cm (tnS n x k) k h = true → own (tnS n x k) ≠ -1 ∧ own (tnS n x k) ≤ oth x + 1) ∧ (lq j = 2 * x → ∀ k, 1 ≤ k → k ≤ n → mayB n cm (tnS n x k) k h = true → dn (tnS n x k) k = true))
  ∧ (∀ e k, e < allS n → 1 ≤ k → k ≤ n → dn e k = true → own (tnS n e k) ≠ -1 ∧ ((∃ j, j < i ∧ lq j = 2 * tnS n e k) ∨ X e k))
  ∧ (∀ e, e < allS n → (∃ k, (1 ≤ k ∧ k ≤ n) ∧ mayB n cm e k h = true) → (∀ k, 1 ≤ k → k ≤ n → mayB n cm e k h = true → dn e k = true) → oth e ≠ -1 ∧ ∃ k, (1 ≤ k ∧ k ≤ n) ∧ mayB n cm e k h = true ∧ oth e ≤ own (tnS n e k) + 1)
  ∧ i ≤ ln ∧ (∀ j j', j < j' → j' < ln → vqL own oth lq j ≤ vqL own oth lq j') ∧ (∀ j, j < ln → vqL own oth lq j ≤ (j : Int))
/-- those forced within less than what waits have been found -/
theorem bi_comp {n z ln i : Nat} {cm : Option (List Nat)} {h w : Int} {X : Nat → Nat → Prop} {own oth : Nat → Int} {dn : Nat → Nat → Bool} {lq : Nat → Nat} (hn : n < 6) (hb : BI n cm h z X own oth dn lq ln i w) : ∀ v : Nat, ((v : Int) ≤ w ∨ i = ln) → ∀ s, s < allS n → (FO n cm h z v true s → own s ≠ -1 ∧ own s ≤ (v : Int)) ∧ (FO n cm h z v false s → oth s ≠ -1 ∧ oth s ≤ (v : Int)) := by
  obtain ⟨b1, b2, b3, b4, b5, b6, b7, b8, b9, b10, b11, b12⟩ := hb
  intro v
  induction v with
  | zero =>
    intro _ s hs
    refine ⟨fun e => ?_, fun e => ?_⟩
    · have := (b2 s hs e).1
      omega
    · have := (b2 s hs e).2
      omega
  | succ v ih =>
    intro hv s hs
    have ih := ih (by omega)
    refine ⟨fun e => ?_, fun e => ?_⟩
    · rcases e with e | ⟨k, ⟨k1, k2⟩, hm, e⟩
      · have := (b2 s hs e).1
        omega
      · have hE := tnS_in hn hs k2
        have hinv := tn_inv hn hs k2
        obtain ⟨o1, o2⟩ := (ih _ hE).2 e
        obtain ⟨j, j1, j2⟩ := (b5 _ hE).2 o1
        have hj := b6 j j1
        rw [vq_odd j2] at hj
        have hji : j < i := by omega
        have := (b7 j hji _ hE).1 j2 k k1 k2 (by rw [hinv]; exact hm)
        rw [hinv] at this
        omega
    · rcases e with e | ⟨e1, e2⟩
      · have := (b2 s hs e).2
        omega
      · obtain ⟨c1, k, ⟨k1, k2⟩, c2, c3⟩ := b9 s hs e1 (fun k k1 k2 hm => by
          have hE := tnS_in hn hs k2
          have hinv := tn_inv hn hs k2
          obtain ⟨o1, o2⟩ := (ih _ hE).1 (e2 k k1 k2 hm)
          obtain ⟨j, j1, j2⟩ := (b5 _ hE).1 o1
          have hj := b6 j j1
          rw [vq_even j2] at hj
          have hji : j < i := by omega
          have := (b7 j hji _ hE).2 j2 k k1 k2 (by rw [hinv]; exact hm)
          rw [hinv] at this
          exact this)
        obtain ⟨o1, o2⟩ := (ih _ (tnS_in hn hs k2)).1 (e2 k k1 k2 c2)
        omega
theorem bi_ln {n z ln i : Nat} {cm : Option (List Nat)} {h w : Int} {X : Nat → Nat → Prop} {own oth : Nat → Int} {dn : Nat → Nat → Bool} {lq : Nat → Nat} (hb : BI n cm h z X own oth dn lq ln i w) (hA : 1 ≤ allS n) : ln ≤ 2 * allS n := by
  obtain ⟨b1, b2, b3, b4, -⟩ := hb
  refine dst_le (g := fun j => if j < ln then lq j else 0) (fun j => ?_) (fun a b h1 h2 => ?_)
  · show (if j < ln then lq j else 0) < _
    split
    · rename_i hj
      exact (b3 j hj).1
    · omega
  · show (if a < ln then lq a else 0) ≠ (if b < ln then lq b else 0)
    rw [if_pos (by omega), if_pos h2]
    exact b4 a b h1 h2
/-- a new entry of the first one -/
theorem bi_own {n z ln i x k : Nat} {cm : Option (List Nat)} {h w : Int} {X : Nat → Nat → Prop} {own oth : Nat → Int} {dn : Nat → Nat → Bool} {lq : Nat → Nat} (hn : n < 6) (hb : BI n cm h z X own oth dn lq ln i w) (hi : i < ln) (hx : x < allS n) (hlx : lq i = 2 * x + 1) (hox : oth x = w) (k1 : 1 ≤ k) (k2 : k ≤ n) (hm : mayB n cm (tnS n x k) k h = true) (he : own (tnS n x k) = -1) : BI n cm h z X (upF own (tnS n x k) (w + 1)) oth dn (upF lq ln (2 * tnS n x k)) (ln + 1) i w := by
  have hcomp := bi_comp hn hb
  obtain ⟨b1, b2, b3, b4, b5, b6, b7, b8, b9, b10, b11, b12⟩ := hb
  have hE := tnS_in hn hx k2
  have hinv := tn_inv hn hx k2
  generalize hee : tnS n x k = e at *
  obtain ⟨wi, hw, fx, _⟩ : ∃ wi : Nat, w = (wi : Int) ∧ FO n cm h z wi false x ∧ ∀ j, j < wi → ¬ FO n cm h z j false x := by
    rcases (b1 x hx).2 with c | ⟨wi, c1, c2, c3⟩
    · have := (b3 i hi).2
      rw [vq_odd hlx] at this
      exact absurd c this
    · exact ⟨wi, by omega, c2, c3⟩
  have hnq : ∀ j, j < ln → lq j ≠ 2 * e := fun j hj q => by
    have := (b3 j hj).2
    rw [vq_even q, he] at this
    exact this rfl
  have hvq : ∀ j, j < ln → vqL (upF own e (w + 1)) oth (upF lq ln (2 * e)) j = vqL own oth lq j := fun j hj => by
    unfold vqL
    rw [upF_off (show ¬ j = ln by omega)]
    split
    · rename_i hc
      rw [upF_off (fun q => hnq j hj (by omega))]
    · rfl
  have hvl : vqL (upF own e (w + 1)) oth (upF lq ln (2 * e)) ln = w + 1 := by
    rw [vq_even (x := e) (upF_at _ _ _), upF_at]
  refine ⟨fun s hs => ⟨?_, (b1 s hs).2⟩, fun s hs ht => ?_, fun j hj => ?_, fun j j' hjj hj' => ?_, fun s hs => ⟨fun ho => ?_, fun ho => ?_⟩, fun j hj => ?_, fun j hj y hy => ⟨fun hl => ?_, fun hl => ?_⟩, fun e' k' he' a1 a2 hd => ?_, fun e' he' hex hall => ?_, by omega, fun j j' hjj hj' => ?_, fun j hj => ?_⟩
  · by_cases c : s = e
    · rw [c, upF_at]
      refine Or.inr ⟨wi + 1, by omega, Or.inr ⟨k, ⟨k1, k2⟩, hm, by rw [hinv]; exact fx⟩, fun j hj hf => ?_⟩
      exact ((hcomp j (Or.inl (by omega)) e hE).1 hf).1 he
    · rw [upF_off c]
      exact (b1 s hs).1
  · rw [upF_off (fun q => by rw [q] at ht; have := (b2 e hE ht).1; omega)]
    exact b2 s hs ht
  · by_cases c : j = ln
    · rw [c, hvl, upF_at]
      exact ⟨by omega, by omega⟩
    · rw [hvq j (by omega), upF_off c]
      exact b3 j (by omega)
  · by_cases c : j' = ln
    · rw [c, upF_at, upF_off (by omega)]
      exact hnq j (by omega)
    · rw [upF_off (by omega), upF_off c]
      exact b4 j j' hjj (by omega)
  · by_cases c : s = e
    · exact ⟨ln, by omega, by rw [upF_at, c]⟩
    · rw [upF_off c] at ho
      obtain ⟨j, j1, j2⟩ := (b5 s hs).1 ho
      exact ⟨j, by omega, by rw [upF_off (by omega)]; exact j2⟩
  · obtain ⟨j, j1, j2⟩ := (b5 s hs).2 ho
    exact ⟨j, by omega, by rw [upF_off (by omega)]; exact j2⟩
  · by_cases c : j = ln
    · rw [c, hvl]
      exact ⟨fun _ => by omega, fun _ => by omega, by omega⟩
    · rw [hvq j (by omega)]
      exact b6 j (by omega)
  · rw [upF_off (by omega)] at hl
    intro k' a1 a2 hm'
    have := (b7 j hj y hy).1 hl k' a1 a2 hm'
    rw [upF_off (fun q => this.1 (by rw [q]; exact he))]
    exact this
  · rw [upF_off (by omega)] at hl
    exact (b7 j hj y hy).2 hl
  · obtain ⟨c1, c2⟩ := b8 e' k' he' a1 a2 hd
    rw [upF_off (fun q => c1 (by rw [q]; exact he))]
    refine ⟨c1, ?_⟩
    rcases c2 with ⟨j, j1, j2⟩ | c2
    · exact Or.inl ⟨j, j1, by rw [upF_off (by omega)]; exact j2⟩
    · exact Or.inr c2
  · obtain ⟨c1, k', c2, c3, c4⟩ := b9 e' he' hex hall
    refine ⟨c1, k', c2, c3, ?_⟩
    rw [upF_off (fun q => (b8 e' k' he' c2.1 c2.2 (hall k' c2.1 c2.2 c3)).1 (by rw [q]; exact he))]
    exact c4
  · by_cases c : j' = ln
    · rw [c, hvl, hvq j (by omega)]
      exact (b6 j (by omega)).2.2
    · rw [hvq j (by omega), hvq j' (by omega)]
      exact b11 j j' hjj (by omega)
  · by_cases c : j = ln
    · rw [c, hvl]
      have := b12 i hi
      rw [vq_odd hlx, hox] at this
      omega
    · rw [hvq j (by omega)]
      exact b12 j (by omega)
def opC (n : Nat) (cm : Option (List Nat)) (h : Int) (dn : Nat → Nat → Bool) (e : Nat) : Nat := cN (fun k => Nat.ble 1 k && mayB n cm e k h && !dn e k) (n + 1)
def upD (dn : Nat → Nat → Bool) (e k : Nat) : Nat → Nat → Bool := fun e' k' => if e' = e ∧ k' = k then true else dn e' k'
theorem upD_at (dn : Nat → Nat → Bool) (e k : Nat) : upD dn e k e k = true := if_pos ⟨rfl, rfl⟩
theorem upD_off {dn : Nat → Nat → Bool} {e k e' k' : Nat} (h : ¬ (e' = e ∧ k' = k)) : upD dn e k e' k' = dn e' k' := if_neg h
theorem op_dec {n e k : Nat} {cm : Option (List Nat)} {h : Int} {dn : Nat → Nat → Bool} (k1 : 1 ≤ k) (k2 : k ≤ n) (hm : mayB n cm e k h = true) (hd : dn e k = false) : opC n cm h dn e = opC n cm h (upD dn e k) e + 1 := by
  refine cN_add (k := k) (by omega) ?_ ?_ (fun s hs hne => ?_)
  · rw [upD_at]
    simp
  · rw [hd, hm, Nat.ble_eq.mpr k1]
    rfl
  · rw [upD_off (fun q => hne q.2)]
theorem op_oth {n e e' k : Nat} {cm : Option (List Nat)} {h : Int} {dn : Nat → Nat → Bool} (hne : e' ≠ e) : opC n cm h (upD dn e k) e' = opC n cm h dn e' := cN_congr (fun s _ => by rw [upD_off (fun q => hne q.1)])
theorem cN_zero {P : Nat → Bool} {A : Nat} (h : cN P A = 0) {k : Nat} (hk : k < A) : P k = false := by
  cases hp : P k with
  | false => rfl
  | true =>
    have h2 : cN (upF P k false) A + 1 = cN P A := (cN_add hk (upF_at P k false) hp (fun s _ hne => (upF_off hne).symm)).symm
    omega
theorem op_zero {n e : Nat} {cm : Option (List Nat)} {h : Int} {dn : Nat → Nat → Bool} : opC n cm h dn e = 0 ↔ ∀ k, 1 ≤ k → k ≤ n → mayB n cm e k h = true → dn e k = true := by
  refine ⟨fun h0 k k1 k2 hm => ?_, fun hall => cN_none (fun k hk => ?_)⟩
  · have := cN_zero h0 (k := k) (by omega)
    rw [hm, Nat.ble_eq.mpr k1] at this
    cases hd : dn e k with
    | true => rfl
    | false => rw [hd] at this; exact absurd this (by decide)
  · cases hb : Nat.ble 1 k with
    | false => rfl
    | true =>
      cases hm : mayB n cm e k h with
      | false => rfl
      | true =>
        rw [hall k (Nat.ble_eq.mp hb) (by omega) hm]
        rfl
/-- an edge to the first one's entry is gone back -/
theorem bi_dec {n z ln i x k : Nat} {cm : Option (List Nat)} {h w : Int} {own oth : Nat → Int} {dn : Nat → Nat → Bool} {lq : Nat → Nat} (hn : n < 6) (hb : BI n cm h z (fun e' k' => tnS n e' k' = x ∧ k' < k) own oth dn lq ln i w) (hi : i < ln) (hx : x < allS n) (hlx : lq i = 2 * x) (hox : own x = w) (k1 : 1 ≤ k) (k2 : k ≤ n) (hm : mayB n cm (tnS n x k) k h = true) : dn (tnS n x k) k = false
    ∧ ((¬ opC n cm h (upD dn (tnS n x k) k) (tnS n x k) = 0 ∨ oth (tnS n x k) ≠ -1) → BI n cm h z (fun e' k' => tnS n e' k' = x ∧ k' < k + 1) own oth (upD dn (tnS n x k) k) lq ln i w)
    ∧ (opC n cm h (upD dn (tnS n x k) k) (tnS n x k) = 0 → oth (tnS n x k) = -1 → BI n cm h z (fun e' k' => tnS n e' k' = x ∧ k' < k + 1) own (upF oth (tnS n x k) (w + 1)) (upD dn (tnS n x k) k) (upF lq ln (2 * tnS n x k + 1)) (ln + 1) i w) := by
  have hcomp := bi_comp hn hb
  obtain ⟨b1, b2, b3, b4, b5, b6, b7, b8, b9, b10, b11, b12⟩ := hb
  have hE := tnS_in hn hx k2
  have hinv := tn_inv hn hx k2
  generalize hee : tnS n x k = e at *
  have hxne : own x ≠ -1 := by
    have := (b3 i hi).2
    rw [vq_even hlx] at this
    exact this
  have hd0 : dn e k = false := by
    cases hd : dn e k with
    | false => rfl
    | true =>
      rcases (b8 e k hE k1 k2 hd).2 with ⟨j, j1, j2⟩ | ⟨_, c⟩
      · rw [hinv] at j2
        exact absurd (j2.trans hlx.symm) (b4 j i j1 hi)
      · omega
  have n8 : ∀ e' k', e' < allS n → 1 ≤ k' → k' ≤ n → upD dn e k e' k' = true → own (tnS n e' k') ≠ -1 ∧ ((∃ j, j < i ∧ lq j = 2 * tnS n e' k') ∨ (tnS n e' k' = x ∧ k' < k + 1)) := by
    intro e' k' he' a1 a2 hd
    by_cases c : e' = e ∧ k' = k
    · obtain ⟨c1, c2⟩ := c
      subst c1; subst c2
      rw [hinv]
      exact ⟨hxne, Or.inr ⟨rfl, by omega⟩⟩
    · rw [upD_off c] at hd
      obtain ⟨d1, d2⟩ := b8 e' k' he' a1 a2 hd
      refine ⟨d1, ?_⟩
      rcases d2 with d2 | ⟨d2, d3⟩
      · exact Or.inl d2
      · exact Or.inr ⟨d2, by omega⟩
  have n7 : ∀ j, j < i → ∀ y, y < allS n → lq j = 2 * y → ∀ k', 1 ≤ k' → k' ≤ n → mayB n cm (tnS n y k') k' h = true → upD dn e k (tnS n y k') k' = true := by
    intro j hj y hy hl k' a1 a2 hm'
    by_cases c : tnS n y k' = e ∧ k' = k
    · rw [c.1, c.2]
      exact upD_at _ _ _
    · rw [upD_off c]
      exact (b7 j hj y hy).2 hl k' a1 a2 hm'
  have nO : ∀ e', e' < allS n → e' ≠ e → (∀ k', 1 ≤ k' → k' ≤ n → mayB n cm e' k' h = true → upD dn e k e' k' = true) → ∀ k', 1 ≤ k' → k' ≤ n → mayB n cm e' k' h = true → dn e' k' = true := by
    intro e' he' hne hall k' a1 a2 hm'
    have := hall k' a1 a2 hm'
    rw [upD_off (fun q => hne q.1)] at this
    exact this
  refine ⟨hd0, fun hcase => ?_, fun hop hoe => ?_⟩
  · refine ⟨b1, b2, b3, b4, b5, b6, fun j hj y hy => ⟨(b7 j hj y hy).1, n7 j hj y hy⟩, n8, fun e' he' hex hall => ?_, b10, b11, b12⟩
    by_cases c : e' = e
    · subst c
      rcases hcase with hc | hc
      · exact absurd (op_zero.mpr hall) hc
      · refine ⟨hc, k, ⟨k1, k2⟩, hm, ?_⟩
        obtain ⟨j, j1, j2⟩ := (b5 e' hE).2 hc
        have := (b6 j j1).2.2
        rw [vq_odd j2] at this
        rw [hinv]
        omega
    · exact b9 e' he' hex (nO e' he' c hall)
  · have hall0 := op_zero.mp hop
    obtain ⟨wi, hw, fx, _⟩ : ∃ wi : Nat, w = (wi : Int) ∧ FO n cm h z wi true x ∧ ∀ j, j < wi → ¬ FO n cm h z j true x := by
      rcases (b1 x hx).1 with c | ⟨wi, c1, c2, c3⟩
      · exact absurd c hxne
      · exact ⟨wi, by omega, c2, c3⟩
    have hnq : ∀ j, j < ln → lq j ≠ 2 * e + 1 := fun j hj q => by
      have := (b3 j hj).2
      rw [vq_odd q, hoe] at this
      exact this rfl
    have hvq : ∀ j, j < ln → vqL own (upF oth e (w + 1)) (upF lq ln (2 * e + 1)) j = vqL own oth lq j := fun j hj => by
      unfold vqL
      rw [upF_off (show ¬ j = ln by omega)]
      split
      · rfl
      · rename_i hc
        rw [upF_off (fun q => hnq j hj (by omega))]
    have hvl : vqL own (upF oth e (w + 1)) (upF lq ln (2 * e + 1)) ln = w + 1 := by
      rw [vq_odd (x := e) (upF_at _ _ _), upF_at]
    refine ⟨fun s hs => ⟨(b1 s hs).1, ?_⟩, fun s hs ht => ?_, fun j hj => ?_, fun j j' hjj hj' => ?_, fun s hs => ⟨fun ho => ?_, fun ho => ?_⟩, fun j hj => ?_, fun j hj y hy => ⟨fun hl => ?_, fun hl => ?_⟩, fun e' k' he' a1 a2 hd => ?_, fun e' he' hex hall => ?_, by omega, fun j j' hjj hj' => ?_, fun j hj => ?_⟩
    · by_cases c : s = e
      · rw [c, upF_at]
        refine Or.inr ⟨wi + 1, by omega, Or.inr ⟨⟨k, ⟨k1, k2⟩, hm⟩, fun k' a1 a2 hm' => ?_⟩, fun j hj hf => ?_⟩
        · obtain ⟨d1, d2⟩ := n8 e k' hE a1 a2 (hall0 k' a1 a2 hm')
          rcases (b1 _ (tnS_in hn hE a2)).1 with c' | ⟨v, c1, c2, _⟩
          · exact absurd c' d1
          · refine fo_mono ?_ c2
            rcases d2 with ⟨j, j1, j2⟩ | ⟨d2, _⟩
            · have := (b6 j (by omega)).1 j1
              rw [vq_even j2] at this
              omega
            · rw [d2] at c1
              omega
        · exact ((hcomp j (Or.inl (by omega)) e hE).2 hf).1 hoe
      · rw [upF_off c]
        exact (b1 s hs).2
    · rw [upF_off (fun q => by rw [q] at ht; have := (b2 e hE ht).2; omega)]
      exact b2 s hs ht
    · by_cases c : j = ln
      · rw [c, hvl, upF_at]
        exact ⟨by omega, by omega⟩
      · rw [hvq j (by omega), upF_off c]
        exact b3 j (by omega)
    · by_cases c : j' = ln
      · rw [c, upF_at, upF_off (by omega)]
        exact hnq j (by omega)
      · rw [upF_off (by omega), upF_off c]
        exact b4 j j' hjj (by omega)
    · obtain ⟨j, j1, j2⟩ := (b5 s hs).1 ho
      exact ⟨j, by omega, by rw [upF_off (by omega)]; exact j2⟩
    · by_cases c : s = e
      · exact ⟨ln, by omega, by rw [upF_at, c]⟩
      · rw [upF_off c] at ho
        obtain ⟨j, j1, j2⟩ := (b5 s hs).2 ho
        exact ⟨j, by omega, by rw [upF_off (by omega)]; exact j2⟩
    · by_cases c : j = ln
      · rw [c, hvl]
        exact ⟨fun _ => by omega, fun _ => by omega, by omega⟩
      · rw [hvq j (by omega)]
        exact b6 j (by omega)
    · rw [upF_off (by omega)] at hl
      intro k' a1 a2 hm'
      have := (b7 j hj y hy).1 hl k' a1 a2 hm'
      rw [upF_off (fun q => hnq j (by omega) (by rw [hl, q]))]
      exact this
    · rw [upF_off (by omega)] at hl
      exact n7 j hj y hy hl
    · obtain ⟨c1, c2⟩ := n8 e' k' he' a1 a2 hd
      refine ⟨c1, ?_⟩
      rcases c2 with ⟨j, j1, j2⟩ | c2
      · exact Or.inl ⟨j, j1, by rw [upF_off (by omega)]; exact j2⟩
      · exact Or.inr c2
    · by_cases c : e' = e
      · subst c
        rw [upF_at]
        refine ⟨by omega, k, ⟨k1, k2⟩, hm, ?_⟩
        rw [hinv]
        omega
      · rw [upF_off c]
        exact b9 e' he' hex (nO e' he' c hall)
    · by_cases c : j' = ln
      · rw [c, hvl, hvq j (by omega)]
        exact (b6 j (by omega)).2.2
      · rw [hvq j (by omega), hvq j' (by omega)]
        exact b11 j j' hjj (by omega)
    · by_cases c : j = ln
      · rw [c, hvl]
        have := b12 i hi
        rw [vq_even hlx, hox] at this
        omega
      · rw [hvq j (by omega)]
        exact b12 j (by omega)
