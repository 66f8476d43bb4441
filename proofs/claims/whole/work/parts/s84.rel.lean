/-! THE RELATION between the small machine's memory and the heap -/
section REL
variable (dC : Nat → ClassId) (dI : Nat → Nat → Nat) (cA : Nat → ClassId) (sp : Int → Option Nat) (sz : Nat) (L0 : Int) (xs0 : Int → Int) (adK adV : Nat → Nat) (bs : Nat) (fm : Option Nat)
def rvO (ρ : Nat → Nat) (x : Int) : Option Nat := if 0 < x then some (ρ x.toNat) else if x = 0 then none else sp x
def tv (ρ : Nat → Nat) (v : MV) : Value := if v.1 = 0 then .int (Int32.ofInt v.2) else if v.1 = 1 then .long (Int64.ofInt v.2) else va_rf (rvO sp ρ v.2)
def r32 (x : Int) : Prop := -2147483648 ≤ x ∧ x < 2147483648
def r64 (x : Int) : Prop := -9223372036854775808 ≤ x ∧ x < 9223372036854775808
def vd (n : Nat) (v : MV) : Prop := (v.1 = 0 ∧ r32 v.2) ∨ (v.1 = 1 ∧ r64 v.2) ∨ (v.1 = 2 ∧ v.2 < n)
def fvl (ρ : Nat → Nat) (G : GG) (M : Mm) (ci j k : Nat) : Value := if FTc ci k = 2 then va_rf (rvO sp ρ (GL G j k)) else if FTc ci k = 3 then va_rf (rvO sp ρ (M j k)) else .int (Int32.ofInt (M j k))
def cel (ρ : Nat → Nat) (G : GG) (M : Mm) (j : Nat) : va_E :=
  if SHn j < 13 then .inr (SHn j, (List.range (SHm j)).map (fvl sp ρ G M (SHn j) j))
  else if SHn j = 14 then .inl (cA 14, SHm j, .inr (.inl fun k => Int64.ofInt (M j k)))
  else if SHn j < 16 then .inl (cA (SHn j), SHm j, .inl fun k => Int32.ofInt (M j k))
  else .inl (cA (SHn j), SHm j, .inr (.inr (.inr (.inr fun k => rvO sp ρ (M j k)))))
def wl (ρ : Nat → Nat) (G : GG) (M : Mm) : va_W := (List.range (G.1 - 2)).map fun i => (ρ (i + 2), cel cA sp ρ G M (i + 2))
def mvd (G : GG) (M : Mm) : Prop := ∀ j : Nat, 2 ≤ j → j < G.1 → ∀ k : Nat, k < SHm j →
  (SHn j < 13 → (FTc (SHn j) k = 2 → GL G j k < G.1) ∧ (FTc (SHn j) k = 3 → M j k < G.1) ∧ (¬ FTc (SHn j) k = 2 → ¬ FTc (SHn j) k = 3 → r32 (M j k)))
  ∧ (SHn j = 13 ∨ SHn j = 15 → r32 (M j k)) ∧ (SHn j = 14 → r64 (M j k)) ∧ (16 ≤ SHn j → M j k < G.1)
def slo : Nat → Nat
  | 0 => 0
  | n + 1 => slo n + SHm n
def tysA : List (ClassId × FieldType) := [(cA 13, .int), (cA 14, .long), (cA 15, .boolean), (cA 16, .object "GriddleTurn$Hardness"), (cA 17, .object "GriddleTurn$Lying"), (cA 18, .object "GriddleTurn$Plate"), (cA 19, .object "GriddleTurn$Tray")]
def AA : Nat → Prop := fun q => sz ≤ q
def RL (ρ : Nat → Nat) (G : GG) (M : Mm) (H : Heap) : Prop := va_P (dC, dI) vwCl (wl cA sp ρ G M) H ∧ va_D (AA sz) (wl cA sp ρ G M) ∧ mvd G M ∧ M 0 0 = L0 ∧ (∀ k : Nat, M 1 k = xs0 k) ∧ 2 ≤ G.1 ∧ G.2.length = G.1 ∧ (∀ j : Nat, 2 ≤ j → j < G.1 → SHn j < 13 → (nthR G.2 j).length = SHm j) ∧ ∀ j : Nat, 2 ≤ j → j < G.1 → 16 ≤ SHn j → ∀ k : Nat, M j k < G.1
def isNest : Jvm.Cond → Bool
  | .fieldLinkNest .. => true
  | .methodLinkNest .. => true
  | _ => false
def txL : List Nat := [tx0.length, tx1.length, tx2.length]
def txB : List (List Int32) := [tx0.map Int32.ofInt, tx1.map Int32.ofInt, tx2.map Int32.ofInt]
def spOk : Prop := sp (-1) = some bs ∧ sp (-2) = fm ∧ (∀ i : Nat, i < 3 → sp (-10 - (i : Int)) = some (adK i)) ∧ ∀ i : Nat, i < 3 → sp (-20 - (i : Int)) = some (adV i)
def GW : List Jvm.Cond := lw_tbl.filter goodWord
/-- what of the tables, the texts and the script holds at a state -/
def WX (U : State) : Prop := va_K (dC, dI) vwCl (tysA cA) U ∧ (∀ w ∈ tables_1, isNest w = true → va_Nw w U) ∧ (∀ C ∈ ["GriddleTurn$Hardness", "GriddleTurn$Lying", "GriddleTurn$Plate", "GriddleTurn$Tray"], va_AO C U)
  ∧ vk_S 3 txL txB adK adV (AA sz) U U.heap ∧ va_Z "java/lang/String" "COMPACT_STRINGS" "Z" (.int 1) (AA sz) U U.heap ∧ va_Z "jdk/internal/util/Preconditions" "SIOOBE_FORMATTER" "Ljava/util/function/BiFunction;" (va_rf fm) (AA sz) U U.heap
  ∧ va_X bs L0.toNat (fun k => Int32.ofInt (xs0 k)) U U.heap ∧ bs < sz ∧ sz ≤ U.heap.size ∧ (0 ≤ L0 ∧ L0 ≤ 3072) ∧ (∀ k : Nat, (k : Int) < L0 → r32 (xs0 k))
  ∧ vk_R "GriddleTurn$Reader" 172 ";:+-*()[]=<>" (adK 0) U ∧ vk_R "GriddleTurn$Reader" 180 "top under up heat many right plate cake may habit if then else end not and or " (adK 1) U
  ∧ vk_R "GriddleTurnModel" 105 " plate heat cake up may habit if then else end top under many right and or not " (adK 2) U ∧ vk_R "GriddleTurnModel" 143 ";:+-*()[]=<>" (adK 0) U
end REL
theorem slo_mono {a b : Nat} (h : a ≤ b) : slo a ≤ slo b := by
  induction h with
  | refl => exact Nat.le_refl _
  | step _ ih => exact Nat.le_trans ih (Nat.le_add_right _ _)
theorem wl_at {cA : Nat → ClassId} {sp : Int → Option Nat} {ρ : Nat → Nat} {G : GG} {M : Mm} {j : Nat} (h1 : 2 ≤ j) (h2 : j < G.1) : (wl cA sp ρ G M)[j - 2]? = some (ρ j, cel cA sp ρ G M j) := by
  unfold wl
  rw [List.getElem?_map, List.getElem?_range (by omega)]
  simp only [Option.map_some]
  rw [show j - 2 + 2 = j by omega]
/-- one object's row is another: the list with that place set -/
theorem wl_set {cA : Nat → ClassId} {sp : Int → Option Nat} {ρ : Nat → Nat} {G G' : GG} {M M' : Mm} {j : Nat} (h1 : 2 ≤ j) (hG : G'.1 = G.1) (h : ∀ i : Nat, 2 ≤ i → ¬ i = j → cel cA sp ρ G' M' i = cel cA sp ρ G M i) : wl cA sp ρ G' M' = (wl cA sp ρ G M).set (j - 2) (ρ j, cel cA sp ρ G' M' j) := by
  refine List.ext_getElem? fun i => ?_
  rw [List.getElem?_set]
  unfold wl
  simp only [List.length_map, List.length_range, List.getElem?_map, hG]
  by_cases hi : j - 2 = i
  · rw [if_pos hi]
    by_cases hl : j - 2 < G.1 - 2
    · rw [if_pos hl, List.getElem?_range (by omega)]
      simp only [Option.map_some]
      rw [show i + 2 = j by omega]
    · rw [if_neg hl, List.getElem?_eq_none (by simp; omega)]
      rfl
  · rw [if_neg hi]
    by_cases hl : i < G.1 - 2
    · rw [List.getElem?_range hl]
      simp only [Option.map_some]
      rw [h (i + 2) (by omega) (by omega)]
    · rw [List.getElem?_eq_none (by simp; omega)]
      rfl
theorem up2_ne {M : Mm} {j k v a b : Int} (h : ¬ a = j) : up2 M j k v a b = M a b := by
  unfold up2
  rw [if_neg fun q => h q.1]
theorem up2_eq {M : Mm} {j k v : Int} : up2 M j k v j k = v := by
  unfold up2
  rw [if_pos ⟨rfl, rfl⟩]
theorem up2_nk {M : Mm} {j k v a b : Int} (h : ¬ b = k) : up2 M j k v a b = M a b := by
  unfold up2
  rw [if_neg fun q => h q.2]
theorem cel_up {cA : Nat → ClassId} {sp : Int → Option Nat} {ρ : Nat → Nat} {G : GG} {M : Mm} {j k v : Int} {i : Nat} (h : ¬ (i : Int) = j) : cel cA sp ρ G (up2 M j k v) i = cel cA sp ρ G M i := by
  have e : ∀ q : Int, up2 M j k v (i : Int) q = M (i : Int) q := fun q => up2_ne h
  unfold cel fvl
  simp only [e]
/-- the same cells under another naming that agrees below n -/
theorem rvO_ext {sp : Int → Option Nat} {ρ ρ' : Nat → Nat} {n : Nat} (h : ∀ j, j < n → ρ' j = ρ j) {x : Int} (hx : x < n) : rvO sp ρ' x = rvO sp ρ x := by
  unfold rvO
  split
  · rw [h _ (by omega)]
  · rfl
theorem tv_ext {sp : Int → Option Nat} {ρ ρ' : Nat → Nat} {n : Nat} (h : ∀ j, j < n → ρ' j = ρ j) {v : MV} (hv : vd n v) : tv sp ρ' v = tv sp ρ v := by
  unfold tv
  rcases hv with ⟨e, -⟩ | ⟨e, -⟩ | ⟨e, hx⟩
  · rw [if_pos e, if_pos e]
  · rw [e]; rfl
  · rw [rvO_ext h hx]
theorem vd_up {n n' : Nat} (h : n ≤ n') {v : MV} (hv : vd n v) : vd n' v := by
  rcases hv with q | q | ⟨e, hx⟩
  · exact Or.inl q
  · exact Or.inr (Or.inl q)
  · exact Or.inr (Or.inr ⟨e, by omega⟩)
theorem tv_0 {sp : Int → Option Nat} {ρ : Nat → Nat} {x : Int} : tv sp ρ (0, x) = .int (Int32.ofInt x) := rfl
theorem tv_1 {sp : Int → Option Nat} {ρ : Nat → Nat} {x : Int} : tv sp ρ (1, x) = .long (Int64.ofInt x) := rfl
theorem tv_2 {sp : Int → Option Nat} {ρ : Nat → Nat} {x : Int} : tv sp ρ (2, x) = va_rf (rvO sp ρ x) := rfl
theorem tv_ref {sp : Int → Option Nat} {ρ : Nat → Nat} {j : Nat} (h : 0 < j) : tv sp ρ (2, (j : Int)) = .ref (ρ j) := by
  rw [tv_2]
  unfold rvO
  rw [if_pos (by omega)]
  simp [va_rf]
theorem tv_cat {sp : Int → Option Nat} {ρ : Nat → Nat} {v : MV} : (tv sp ρ v).category = if v.1 = 1 then 2 else 1 := by
  obtain ⟨t, x⟩ := v
  unfold tv
  by_cases h0 : t = 0
  · subst h0; rfl
  · by_cases h1 : t = 1
    · subst h1; rfl
    · simp only [if_neg h0, if_neg h1]
      cases rvO sp ρ x <;> rfl
/-- the kinds: which numbers name an object of ours -/
theorem SHk_pos {j : Int} {k : Nat} (h : SHk j = k) (hk : k < 90) : ∃ i : Nat, j = (i : Int) ∧ SHn i = k ∧ 2 ≤ i ∧ i < 116 := by
  cases j with
  | ofNat i =>
    have h : SHn i = k := h
    refine ⟨i, rfl, h, ?_, ?_⟩
    · rcases Nat.lt_or_ge i 2 with q | q
      · have : SHn i = 99 := by rcases (show i = 0 ∨ i = 1 by omega) with rfl | rfl <;> decide
        omega
      · exact q
    · rcases Nat.lt_or_ge i 116 with q | q
      · exact q
      · have : SHn i = 99 := by
          unfold SHn
          have : Nat.blt i 116 = false := by
            cases hb : Nat.blt i 116 with
            | false => rfl
            | true => exact absurd (Nat.le_of_ble_eq_true hb) (by omega)
          rw [this]; rfl
        omega
  | negSucc i =>
    exfalso
    have : 90 ≤ SHk (Int.negSucc i) := by
      unfold SHk
      split <;> simp_all
    omega
