/-! THE RELATION between the small machine's memory and the heap -/
theorem numO_eq (i : Nat) : numO i = if i < 26 then i else if i = 26 then 1 else i - 1 := by
  unfold numO
  by_cases h : i < 26
  · have h' : Nat.blt i 26 = true := by rw [Nat.blt_eq]; exact h
    rw [h', if_pos h]; rfl
  · have h' : Nat.blt i 26 = false := by
      cases hc : Nat.blt i 26 with
      | false => rfl
      | true => rw [Nat.blt_eq] at hc; exact absurd hc h
    rw [h', if_neg h]
    by_cases g : i = 26
    · subst g; rfl
    · have g' : Nat.beq i 26 = false := by
        cases hc : Nat.beq i 26 with
        | false => rfl
        | true => exact absurd (Nat.eq_of_beq_eq_true hc) g
      rw [if_neg g]
      show (bif Nat.beq i 26 then 1 else i - 1) = i - 1
      rw [g']; rfl
theorem idxO_eq (j : Nat) : idxO j = if j = 1 then 26 else if j < 26 then j else j + 1 := by
  unfold idxO
  by_cases g : j = 1
  · subst g; rfl
  · have g' : Nat.beq j 1 = false := by
      cases hc : Nat.beq j 1 with
      | false => rfl
      | true => exact absurd (Nat.eq_of_beq_eq_true hc) g
    rw [g', if_neg g]
    by_cases h : j < 26
    · have h' : Nat.blt j 26 = true := by rw [Nat.blt_eq]; exact h
      rw [if_pos h]
      show (bif Nat.blt j 26 then j else j + 1) = j
      rw [h']; rfl
    · have h' : Nat.blt j 26 = false := by
        cases hc : Nat.blt j 26 with
        | false => rfl
        | true => rw [Nat.blt_eq] at hc; exact absurd hc h
      rw [if_neg h]
      show (bif Nat.blt j 26 then j else j + 1) = j + 1
      rw [h']; rfl
theorem num_idx {j : Nat} (h : 1 ≤ j) : numO (idxO j) = j := by
  rw [numO_eq, idxO_eq]
  by_cases g : j = 1
  · subst g; rfl
  · rw [if_neg g]
    by_cases k : j < 26
    · rw [if_pos k, if_pos k]
    · rw [if_neg k, if_neg (by omega), if_neg (by omega)]; omega
theorem idx_num {i : Nat} (h : 2 ≤ i) : idxO (numO i) = i := by
  rw [idxO_eq, numO_eq]
  by_cases k : i < 26
  · rw [if_pos k, if_neg (by omega), if_pos k]
  · rw [if_neg k]
    by_cases g : i = 26
    · subst g; rfl
    · rw [if_neg g, if_neg (by omega), if_neg (by omega)]; omega
theorem idx_2 {j : Nat} (h : 1 ≤ j) : 2 ≤ idxO j := by
  rw [idxO_eq]
  split
  · omega
  · split <;> omega
theorem num_1 {i : Nat} (h : 2 ≤ i) : 1 ≤ numO i := by
  rw [numO_eq]
  split
  · omega
  · split <;> omega
/-- where a number stands in the order of making, for whole numbers -/
def idxI (x : Int) : Int := if x = 1 then 26 else if x < 26 then x else x + 1
theorem idxI_nat {j : Nat} : idxI (j : Int) = (idxO j : Int) := by
  unfold idxI
  rw [idxO_eq]
  by_cases g : j = 1
  · subst g; rfl
  · rw [if_neg (by omega), if_neg g]
    by_cases k : j < 26
    · rw [if_pos (by omega), if_pos k]
    · rw [if_neg (by omega), if_neg k]; omega
theorem idxI_neg {x : Int} (h : x ≤ 0) : idxI x = x := by
  unfold idxI
  rw [if_neg (by omega), if_pos (by omega)]
section REL
variable (dC : Nat → ClassId) (dI : Nat → Nat → Nat) (cA : Nat → ClassId) (sp : Int → Option Nat) (sz : Nat) (L0 : Int) (xs0 : Int → Int) (adK adV : Nat → Nat) (bs : Nat) (fm : Option Nat)
def rvO (ρ : Nat → Nat) (x : Int) : Option Nat := if 0 < x then some (ρ x.toNat) else if x = 0 then none else sp x
def tv (ρ : Nat → Nat) (v : MV) : Value := if v.1 = 0 then .int (Int32.ofInt v.2) else if v.1 = 1 then .long (Int64.ofInt v.2) else va_rf (rvO sp ρ v.2)
def r32 (x : Int) : Prop := -2147483648 ≤ x ∧ x < 2147483648
def r64 (x : Int) : Prop := -9223372036854775808 ≤ x ∧ x < 9223372036854775808
def vd (n : Nat) (v : MV) : Prop := (v.1 = 0 ∧ r32 v.2) ∨ (v.1 = 1 ∧ r64 v.2) ∨ (v.1 = 2 ∧ idxI v.2 < n)
def fvl (ρ : Nat → Nat) (G : GG) (M : Mm) (ci j k : Nat) : Value := if FTc ci k = 2 then va_rf (rvO sp ρ (GL G j k)) else if FTc ci k = 3 then va_rf (rvO sp ρ (M j k)) else .int (Int32.ofInt (M j k))
def cel (ρ : Nat → Nat) (G : GG) (M : Mm) (j : Nat) : va_E :=
  if SHn j < 13 then .inr (SHn j, (List.range (SHm j)).map (fvl sp ρ G M (SHn j) j))
  else if SHn j = 14 then .inl (cA 14, SHm j, .inr (.inl fun k => Int64.ofInt (M j k)))
  else if SHn j < 16 then .inl (cA (SHn j), SHm j, .inl fun k => Int32.ofInt (M j k))
  else .inl (cA (SHn j), SHm j, .inr (.inr (.inr (.inr fun k => rvO sp ρ (M j k)))))
def wl (ρ : Nat → Nat) (G : GG) (M : Mm) : va_W := (List.range (G.1 - 2)).map fun i => (ρ (numO (i + 2)), cel cA sp ρ G M (numO (i + 2)))
def mvd (G : GG) (M : Mm) : Prop := ∀ j : Nat, 1 ≤ j → idxO j < G.1 → ∀ k : Nat, k < SHm j →
  (SHn j < 13 → (FTc (SHn j) k = 2 → idxI (GL G j k) < G.1) ∧ (FTc (SHn j) k = 3 → idxI (M j k) < G.1) ∧ (¬ FTc (SHn j) k = 2 → ¬ FTc (SHn j) k = 3 → r32 (M j k)))
  ∧ (SHn j = 13 ∨ SHn j = 15 → r32 (M j k)) ∧ (SHn j = 14 → r64 (M j k)) ∧ (16 ≤ SHn j → idxI (M j k) < G.1)
def slo : Nat → Nat
  | 0 => 0
  | n + 1 => slo n + SHm (numO n)
def tysA : List (ClassId × FieldType) := [(cA 13, .int), (cA 14, .long), (cA 15, .boolean), (cA 16, .object "GriddleTurn$Hardness"), (cA 17, .object "GriddleTurn$Lying"), (cA 18, .object "GriddleTurn$Plate"), (cA 19, .object "GriddleTurn$Tray")]
def AA : Nat → Prop := fun q => sz ≤ q
def RL (ρ : Nat → Nat) (G : GG) (M : Mm) (H : Heap) : Prop := va_P (dC, dI) vwCl (wl cA sp ρ G M) H ∧ va_D (AA sz) (wl cA sp ρ G M) ∧ mvd G M ∧ M 0 0 = L0 ∧ (∀ k : Nat, M (-1) k = xs0 k) ∧ 2 ≤ G.1 ∧ G.2.length = 116 ∧ (∀ j : Nat, 1 ≤ j → idxO j < G.1 → SHn j < 13 → (nthR G.2 j).length = SHm j) ∧ ∀ j : Nat, 1 ≤ j → idxO j < G.1 → 16 ≤ SHn j → ∀ k : Nat, idxI (M j k) < G.1
def isNest : Jvm.Cond → Bool
  | .fieldLinkNest .. => true
  | .methodLinkNest .. => true
  | _ => false
def txL : List Nat := [tx0.length, tx1.length, tx2.length]
def txB : List (List Int32) := [tx0.map Int32.ofInt, tx1.map Int32.ofInt, tx2.map Int32.ofInt]
def spOk : Prop := sp (-1) = some bs ∧ sp (-2) = fm ∧ (∀ i : Nat, i < 3 → sp (-10 - (i : Int)) = some (adK i)) ∧ ∀ i : Nat, i < 3 → sp (-20 - (i : Int)) = some (adV i)
def GW : List Jvm.Cond := lw_tbl.filter goodWord
/-- what of the tables, the texts and the script holds at a state -/
def WX (U : State) : Prop := va_K (dC, dI) vwCl (tysA cA) U ∧ (∀ w ∈ tables_1, isNest w = true → va_Nw w U) ∧ (∀ C ∈ ["GriddleTurn$Hardness", "GriddleTurn$Lying", "GriddleTurn$Plate", "GriddleTurn$Tray"], va_AO C U)
  ∧ vk_S 3 txL txB adK adV (AA sz) U U.heap ∧ va_Z "java/lang/String" "COMPACT_STRINGS" "Z" (.int 1) (AA sz) U U.heap ∧ va_Z "jdk/internal/util/Preconditions" "SIOOBE_FORMATTER" "Ljava/util/function/BiFunction;" (va_rf fm) (AA sz) U U.heap
  ∧ va_X bs L0.toNat (fun k => Int32.ofInt (xs0 k)) U U.heap ∧ bs < sz ∧ sz ≤ U.heap.size ∧ (0 ≤ L0 ∧ L0 ≤ 3072) ∧ (∀ k : Nat, (k : Int) < L0 → r32 (xs0 k))
  ∧ vk_R "GriddleTurn$Reader" 172 ";:+-*()[]=<>" (adK 0) U ∧ vk_R "GriddleTurn$Reader" 180 "top under up heat many right plate cake may habit if then else end not and or " (adK 1) U
  ∧ vk_R "GriddleTurnModel" 105 " plate heat cake up may habit if then else end top under many right and or not " (adK 2) U ∧ vk_R "GriddleTurnModel" 143 ";:+-*()[]=<>" (adK 0) U
end REL
theorem slo_mono {a b : Nat} (h : a ≤ b) : slo a ≤ slo b := by
  induction h with
  | refl => exact Nat.le_refl _
  | step _ ih => exact Nat.le_trans ih (Nat.le_add_right _ _)
theorem wl_at {cA : Nat → ClassId} {sp : Int → Option Nat} {ρ : Nat → Nat} {G : GG} {M : Mm} {j : Nat} (h1 : 1 ≤ j) (h2 : idxO j < G.1) : (wl cA sp ρ G M)[idxO j - 2]? = some (ρ j, cel cA sp ρ G M j) := by
  have h3 := idx_2 h1
  unfold wl
  rw [List.getElem?_map, List.getElem?_range (by omega)]
  simp only [Option.map_some]
  rw [show idxO j - 2 + 2 = idxO j by omega, num_idx h1]
/-- one object's row is another: the list with that place set -/
theorem wl_set {cA : Nat → ClassId} {sp : Int → Option Nat} {ρ : Nat → Nat} {G G' : GG} {M M' : Mm} {j : Nat} (h1 : 1 ≤ j) (hG : G'.1 = G.1) (h : ∀ i : Nat, 1 ≤ i → ¬ i = j → cel cA sp ρ G' M' i = cel cA sp ρ G M i) : wl cA sp ρ G' M' = (wl cA sp ρ G M).set (idxO j - 2) (ρ j, cel cA sp ρ G' M' j) := by
  have h3 := idx_2 h1
  refine List.ext_getElem? fun i => ?_
  rw [List.getElem?_set]
  unfold wl
  simp only [List.length_map, List.length_range, List.getElem?_map, hG]
  by_cases hi : idxO j - 2 = i
  · rw [if_pos hi]
    by_cases hl : idxO j - 2 < G.1 - 2
    · rw [if_pos hl, List.getElem?_range (by omega)]
      simp only [Option.map_some]
      rw [show i + 2 = idxO j by omega, num_idx h1]
    · rw [if_neg hl, List.getElem?_eq_none (by simp; omega)]
      rfl
  · rw [if_neg hi]
    by_cases hl : i < G.1 - 2
    · rw [List.getElem?_range hl]
      simp only [Option.map_some]
      rw [h (numO (i + 2)) (num_1 (by omega)) (fun e => hi (by have e2 := congrArg idxO e; rw [idx_num (by omega)] at e2; omega))]
    · rw [List.getElem?_eq_none (by simp; omega)]
      rfl
theorem up2_ne {M : Mm} {j k v a b : Int} (h : ¬ a = j) : up2 M j k v a b = M a b := by
  unfold up2
  rw [if_neg fun q => h q.1]
theorem up2_eq {M : Mm} {j k v : Int} : up2 M j k v j k = v := by
  unfold up2
  rw [if_pos ⟨rfl, rfl⟩]
theorem up2_nk {M : Mm} {j k v a b : Int} (h : ¬ b = k) : up2 M j k v a b = M a b := by
  unfold up2
  rw [if_neg fun q => h q.2]
theorem cel_up {cA : Nat → ClassId} {sp : Int → Option Nat} {ρ : Nat → Nat} {G : GG} {M : Mm} {j k v : Int} {i : Nat} (h : ¬ (i : Int) = j) : cel cA sp ρ G (up2 M j k v) i = cel cA sp ρ G M i := by
  have e : ∀ q : Int, up2 M j k v (i : Int) q = M (i : Int) q := fun q => up2_ne h
  unfold cel fvl
  simp only [e]
/-- the same cells under another naming that agrees below n -/
theorem rvO_ext {sp : Int → Option Nat} {ρ ρ' : Nat → Nat} {n : Nat} (h : ∀ j, idxO j < n → ρ' j = ρ j) {x : Int} (hx : idxI x < n) : rvO sp ρ' x = rvO sp ρ x := by
  unfold rvO
  split
  · have e := idxI_nat (j := x.toNat)
    rw [show ((x.toNat : Nat) : Int) = x by omega] at e
    rw [h _ (by omega)]
  · rfl
theorem tv_ext {sp : Int → Option Nat} {ρ ρ' : Nat → Nat} {n : Nat} (h : ∀ j, idxO j < n → ρ' j = ρ j) {v : MV} (hv : vd n v) : tv sp ρ' v = tv sp ρ v := by
  unfold tv
  rcases hv with ⟨e, -⟩ | ⟨e, -⟩ | ⟨e, hx⟩
  · rw [if_pos e, if_pos e]
  · rw [e]; rfl
  · rw [rvO_ext h hx]
theorem vd_up {n n' : Nat} (h : n ≤ n') {v : MV} (hv : vd n v) : vd n' v := by
  rcases hv with q | q | ⟨e, hx⟩
  · exact Or.inl q
  · exact Or.inr (Or.inl q)
  · exact Or.inr (Or.inr ⟨e, by omega⟩)
theorem tv_0 {sp : Int → Option Nat} {ρ : Nat → Nat} {x : Int} : tv sp ρ (0, x) = .int (Int32.ofInt x) := rfl
theorem tv_1 {sp : Int → Option Nat} {ρ : Nat → Nat} {x : Int} : tv sp ρ (1, x) = .long (Int64.ofInt x) := rfl
theorem tv_2 {sp : Int → Option Nat} {ρ : Nat → Nat} {x : Int} : tv sp ρ (2, x) = va_rf (rvO sp ρ x) := rfl
theorem tv_ref {sp : Int → Option Nat} {ρ : Nat → Nat} {j : Nat} (h : 0 < j) : tv sp ρ (2, (j : Int)) = .ref (ρ j) := by
  rw [tv_2]
  unfold rvO
  rw [if_pos (by omega)]
  simp [va_rf]
theorem tv_cat {sp : Int → Option Nat} {ρ : Nat → Nat} {v : MV} : (tv sp ρ v).category = if v.1 = 1 then 2 else 1 := by
  obtain ⟨t, x⟩ := v
  unfold tv
  by_cases h0 : t = 0
  · subst h0; rfl
  · by_cases h1 : t = 1
    · subst h1; rfl
    · simp only [if_neg h0, if_neg h1]
      cases rvO sp ρ x <;> rfl
/-- the kinds: which numbers name an object of ours -/
theorem SHk_pos {j : Int} {k : Nat} (h : SHk j = k) (hk : k < 90) : ∃ i : Nat, j = (i : Int) ∧ SHn i = k ∧ 1 ≤ i ∧ i < 116 := by
  cases j with
  | ofNat i =>
    have h : SHn i = k := h
    refine ⟨i, rfl, h, ?_, ?_⟩
    · rcases Nat.lt_or_ge i 1 with q | q
      · have : SHn i = 99 := by rcases (show i = 0 by omega) with rfl; decide
        omega
      · exact q
    · rcases Nat.lt_or_ge i 116 with q | q
      · exact q
      · have : SHn i = 99 := by
          unfold SHn
          have : Nat.blt i 116 = false := by
            cases hb : Nat.blt i 116 with
            | false => rfl
            | true => exact absurd (Nat.le_of_ble_eq_true hb) (by omega)
          rw [this]; rfl
        omega
  | negSucc i =>
    exfalso
    have : 90 ≤ SHk (Int.negSucc i) := by
      unfold SHk
      split <;> simp_all
    omega
