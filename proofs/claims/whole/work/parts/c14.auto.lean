/-! STEPS WITHOUT WRAPPING: bounds to be shown, plain numbers behind -/
theorem w64_i {x : Int} (h1 : -9223372036854775808 ≤ x) (h2 : x < 9223372036854775808) : w64 x = x := by unfold w64; omega
theorem bmod_i {x : Int} (h1 : -2147483648 ≤ x) (h2 : x < 2147483648) : x.bmod (2 ^ 32) = x := by
  simp only [Int.bmod]
  split <;> omega
theorem bmod_j {x : Int} (h1 : -9223372036854775808 ≤ x) (h2 : x < 9223372036854775808) : x.bmod (2 ^ 64) = x := by
  simp only [Int.bmod]
  split <;> omega
theorem div32_p {x y : Int} (h1 : 0 ≤ x) (h2 : x < 2147483648) (h3 : 0 < y) (h4 : y < 2147483648) : div32 x y = x / y := by
  have a := Int.ediv_nonneg h1 (Int.le_of_lt h3)
  have b := Int.ediv_le_self y h1
  unfold div32
  rw [Int32.toInt_div, Int32.toInt_ofInt_of_le (by omega) h2, Int32.toInt_ofInt_of_le (by omega) h4, Int.tdiv_eq_ediv_of_nonneg h1]
  exact bmod_i (by omega) (by omega)
theorem rem32_p {x y : Int} (h1 : 0 ≤ x) (h2 : x < 2147483648) (h3 : 0 < y) (h4 : y < 2147483648) : rem32 x y = x % y := by
  have a := Int.ediv_nonneg h1 (Int.le_of_lt h3)
  have b := Int.ediv_le_self y h1
  have c := Int.emod_nonneg x (show y ≠ 0 by omega)
  have e := Int.emod_def x y
  have f : x / y * y = y * (x / y) := Int.mul_comm _ _
  have g : 0 ≤ y * (x / y) := Int.mul_nonneg (Int.le_of_lt h3) a
  have k := div32_p h1 h2 h3 h4
  unfold div32 at k
  unfold rem32
  rw [Int32.toInt_sub, Int32.toInt_mul, k, Int32.toInt_ofInt_of_le (by omega) h2, Int32.toInt_ofInt_of_le (by omega) h4, bmod_i (x := x / y * y) (by omega) (by omega), bmod_i (by omega) (by omega)]
  omega
theorem div64_p {x y : Int} (h1 : 0 ≤ x) (h2 : x < 9223372036854775808) (h3 : 0 < y) (h4 : y < 9223372036854775808) : div64 x y = x / y := by
  have a := Int.ediv_nonneg h1 (Int.le_of_lt h3)
  have b := Int.ediv_le_self y h1
  unfold div64
  rw [Int64.toInt_div, Int64.toInt_ofInt_of_le (by omega) h2, Int64.toInt_ofInt_of_le (by omega) h4, Int.tdiv_eq_ediv_of_nonneg h1]
  exact bmod_j (by omega) (by omega)
theorem rem64_p {x y : Int} (h1 : 0 ≤ x) (h2 : x < 9223372036854775808) (h3 : 0 < y) (h4 : y < 9223372036854775808) : rem64 x y = x % y := by
  have a := Int.ediv_nonneg h1 (Int.le_of_lt h3)
  have b := Int.ediv_le_self y h1
  have c := Int.emod_nonneg x (show y ≠ 0 by omega)
  have e := Int.emod_def x y
  have f : x / y * y = y * (x / y) := Int.mul_comm _ _
  have g : 0 ≤ y * (x / y) := Int.mul_nonneg (Int.le_of_lt h3) a
  have k := div64_p h1 h2 h3 h4
  unfold div64 at k
  unfold rem64
  rw [Int64.toInt_sub, Int64.toInt_mul, k, Int64.toInt_ofInt_of_le (by omega) h2, Int64.toInt_ofInt_of_le (by omega) h4, bmod_j (x := x / y * y) (by omega) (by omega), bmod_j (by omega) (by omega)]
  omega
theorem shr32_p {x y : Int} (h1 : 0 ≤ x) (h2 : x < 2147483648) (h3 : 0 ≤ y) (h4 : y < 32) : shr32 x y = x / 2 ^ y.toNat := by
  obtain ⟨a, rfl⟩ := Int.eq_ofNat_of_zero_le h1
  obtain ⟨b, rfl⟩ := Int.eq_ofNat_of_zero_le h3
  rw [shr32_nat (by omega) (by omega)]
  simp
theorem shl32_p {x y : Int} (h1 : 0 ≤ x) (h3 : 0 ≤ y) (h4 : y < 32) (h2 : x * 2 ^ y.toNat < 2147483648) : shl32 x y = x * 2 ^ y.toNat := by
  obtain ⟨a, rfl⟩ := Int.eq_ofNat_of_zero_le h1
  obtain ⟨b, rfl⟩ := Int.eq_ofNat_of_zero_le h3
  have e : (((a : Nat) : Int) * 2 ^ ((b : Nat) : Int).toNat) = ((a * 2 ^ b : Nat) : Int) := by simp
  rw [e] at h2
  rw [shl32_nat (by omega) (by omega), e]
def stepT (lim : Nat) (call : Nat → List MV → GG → Mm → Po → Prop) (next : Nat → Lc → List MV → GG → Mm → Prop) (Q : Po) (e : En) (L : Lc) (st : List MV) (G : GG) (M : Mm) : Prop := match e with
  | (pc, i, a, b, c, v, np) => match i with
    | .iadd => b2 0 st fun x y r => (-2147483648 ≤ x + y ∧ x + y < 2147483648) ∧ next np L ((0, x + y) :: r) G M
    | .isub => b2 0 st fun x y r => (-2147483648 ≤ x - y ∧ x - y < 2147483648) ∧ next np L ((0, x - y) :: r) G M
    | .imul => b2 0 st fun x y r => (-2147483648 ≤ x * y ∧ x * y < 2147483648) ∧ next np L ((0, x * y) :: r) G M
    | .ineg => st1 0 st fun x r => (-2147483648 ≤ -x ∧ -x < 2147483648) ∧ next np L ((0, -x) :: r) G M
    | .iinc _ _ => tg 0 (ldL L a) fun x => (-2147483648 ≤ x + v ∧ x + v < 2147483648) ∧ next np ((a, (0, x + v)) :: drL L a) st G M
    | .idiv => b2 0 st fun x y r => (0 ≤ x ∧ x < 2147483648 ∧ 0 < y ∧ y < 2147483648) ∧ next np L ((0, x / y) :: r) G M
    | .irem => b2 0 st fun x y r => (0 ≤ x ∧ x < 2147483648 ∧ 0 < y ∧ y < 2147483648) ∧ next np L ((0, x % y) :: r) G M
    | .ishr => b2 0 st fun x y r => (0 ≤ x ∧ x < 2147483648 ∧ 0 ≤ y ∧ y < 32) ∧ next np L ((0, x / 2 ^ y.toNat) :: r) G M
    | .ishl => b2 0 st fun x y r => (0 ≤ x ∧ 0 ≤ y ∧ y < 32 ∧ x * 2 ^ y.toNat < 2147483648) ∧ next np L ((0, x * 2 ^ y.toNat) :: r) G M
    | .ladd => b2 1 st fun x y r => (-9223372036854775808 ≤ x + y ∧ x + y < 9223372036854775808) ∧ next np L ((1, x + y) :: r) G M
    | .lsub => b2 1 st fun x y r => (-9223372036854775808 ≤ x - y ∧ x - y < 9223372036854775808) ∧ next np L ((1, x - y) :: r) G M
    | .lmul => b2 1 st fun x y r => (-9223372036854775808 ≤ x * y ∧ x * y < 9223372036854775808) ∧ next np L ((1, x * y) :: r) G M
    | .ldiv => b2 1 st fun x y r => (0 ≤ x ∧ x < 9223372036854775808 ∧ 0 < y ∧ y < 9223372036854775808) ∧ next np L ((1, x / y) :: r) G M
    | .lrem => b2 1 st fun x y r => (0 ≤ x ∧ x < 9223372036854775808 ∧ 0 < y ∧ y < 9223372036854775808) ∧ next np L ((1, x % y) :: r) G M
    | .l2i => st1 1 st fun x r => (-2147483648 ≤ x ∧ x < 2147483648) ∧ next np L ((0, x) :: r) G M
    | _ => step lim call next Q (pc, i, a, b, c, v, np) L st G M
theorem stepT_step {lim : Nat} {call : Nat → List MV → GG → Mm → Po → Prop} {next : Nat → Lc → List MV → GG → Mm → Prop} {Q : Po} {e : En} {L : Lc} {st : List MV} {G : GG} {M : Mm} : stepT lim call next Q e L st G M → step lim call next Q e L st G M := by
  obtain ⟨pc, i, a, b, c, v, np⟩ := e
  cases i <;> first
    | exact id
    | exact b2_mono fun _ _ _ q => by rw [w32_i q.1.1 q.1.2]; exact q.2
    | exact b2_mono fun _ _ _ q => by rw [w64_i q.1.1 q.1.2]; exact q.2
    | exact st1_mono fun _ _ q => by rw [w32_i q.1.1 q.1.2]; exact q.2
    | exact tg_mono (k := fun x => (-2147483648 ≤ x + v ∧ x + v < 2147483648) ∧ next np ((a, (0, x + v)) :: drL L a) st G M) (k' := fun x => next np ((a, (0, w32 (x + v))) :: drL L a) st G M) fun _ q => by rw [w32_i q.1.1 q.1.2]; exact q.2
    | exact b2_mono fun _ _ _ q => ⟨by have := q.1; omega, by rw [div32_p q.1.1 q.1.2.1 q.1.2.2.1 q.1.2.2.2]; exact q.2⟩
    | exact b2_mono fun _ _ _ q => ⟨by have := q.1; omega, by rw [rem32_p q.1.1 q.1.2.1 q.1.2.2.1 q.1.2.2.2]; exact q.2⟩
    | exact b2_mono fun _ _ _ q => ⟨by have := q.1; omega, by rw [div64_p q.1.1 q.1.2.1 q.1.2.2.1 q.1.2.2.2]; exact q.2⟩
    | exact b2_mono fun _ _ _ q => ⟨by have := q.1; omega, by rw [rem64_p q.1.1 q.1.2.1 q.1.2.2.1 q.1.2.2.2]; exact q.2⟩
    | exact b2_mono fun _ _ _ q => by rw [shr32_p q.1.1 q.1.2.1 q.1.2.2.1 q.1.2.2.2]; exact q.2
    | exact b2_mono fun _ _ _ q => by rw [shl32_p q.1.1 q.1.2.1 q.1.2.2.1 q.1.2.2.2]; exact q.2
def wpT (d lim m : Nat) (cd : List En) (cuts : List (Nat × List Nat)) (Q : Po) : Nat → List En → Lc → List MV → GG → Mm → Prop
  | _, [], _, _, _, _ => False
  | 0, e :: _, L, st, G, M => Run d lim m e.1 L st G M Q
  | k + 1, e :: r, L, st, G, M => stepT lim (CallP d) (fun pc' L' st' G' M' => match cutAt cuts pc' with
      | some live => Run d lim m pc' (pkL live L') st' G' M' Q
      | none => wpT d lim m cd cuts Q k (bif Nat.beq pc' e.2.2.2.2.2.2 then r else seekL cd pc') L' st' G' M') Q e L st G M
theorem wpT_wpS {d lim m : Nat} {cd : List En} {cuts : List (Nat × List Nat)} {Q : Po} : ∀ (k : Nat) (cs : List En) (L : Lc) (st : List MV) (G : GG) (M : Mm), wpT d lim m cd cuts Q k cs L st G M → wpS d lim m cd cuts Q k cs L st G M := by
  intro k
  induction k with
  | zero =>
    intro cs L st G M h
    rcases cs with _ | ⟨e, r⟩
    · exact h
    · exact h
  | succ k ih =>
    intro cs L st G M h
    rcases cs with _ | ⟨e, r⟩
    · exact h
    · refine step_mono (call := CallP d) (fun m as G M K K' hk h => call_mono hk h) ?_ (fun _ _ _ h => h) (stepT_step h)
      intro pc' L' st' G' M' h
      cases hc : cutAt cuts pc' with
      | some live =>
        simp only [hc] at h ⊢
        exact h
      | none =>
        simp only [hc] at h ⊢
        exact ih _ _ _ _ _ h
theorem wt_run {d lim m pc : Nat} {L : Lc} {st : List MV} {G : GG} {M : Mm} {Q : Po} (k : Nat) (cd : List En) (cuts : List (Nat × List Nat)) (hcd : codes m = cd) (hm : m < 317) (h : wpT d lim m cd cuts Q k (seekL cd pc) L st G M) : Run d lim m pc L st G M Q := wp_run k cd cuts hcd hm (wpT_wpS _ _ _ _ _ _ h)
theorem for_up {P : Nat → Prop} {n : Nat} (h : ∀ i, i ≤ n → (i < n → P (i + 1)) → P i) : ∀ i, i ≤ n → P i := by
  have q : ∀ j i, i + j = n → P i := by
    intro j
    induction j with
    | zero => exact fun i hi => h i (by omega) (fun x => absurd x (by omega))
    | succ j ih => exact fun i hi => h i (by omega) (fun _ => ih (i + 1) (by omega))
  exact fun i hi => q (n - i) i (by omega)
theorem cm_lt (x y : Int) : (cmp64 x y < 0) = (x < y) := by
  unfold cmp64
  refine propext ⟨fun h => ?_, fun h => ?_⟩
  · split at h
    · omega
    · split at h <;> omega
  · rw [if_neg (by omega), if_neg (by omega)]
    omega
theorem cm_gt (x y : Int) : (0 < cmp64 x y) = (y < x) := by
  unfold cmp64
  refine propext ⟨fun h => ?_, fun h => ?_⟩
  · split at h
    · omega
    · split at h <;> omega
  · rw [if_pos h]
    omega
theorem cq_eq (x y : Int) : (cmp64 x y = 0) = (x = y) := by
  unfold cmp64
  refine propext ⟨fun h => ?_, fun h => ?_⟩
  · split at h
    · omega
    · split at h <;> omega
  · rw [if_neg (by omega), if_pos h]
theorem and1 (x : Int) : and32 x 1 = x % 2 := by
  unfold and32
  rw [show (Int32.ofInt 1) = Int32.ofBitVec (BitVec.ofNat 32 1) by rfl]
  show ((Int32.ofInt x).toBitVec &&& BitVec.ofNat 32 1).toInt = _
  have h : ((Int32.ofInt x).toBitVec &&& BitVec.ofNat 32 1).toNat = ((Int32.ofInt x).toBitVec).toNat % 2 := by
    rw [BitVec.toNat_and, BitVec.toNat_ofNat, Nat.mod_eq_of_lt (by decide), Nat.and_one_is_mod]
  have g : ((Int32.ofInt x).toBitVec).toNat = (x % 4294967296).toNat := by
    rw [Int32.toBitVec_ofInt, BitVec.toNat_ofInt]
    rfl
  rw [BitVec.toInt_eq_toNat_of_lt (by rw [h]; omega), h, g]
  omega
theorem dv_n (s k : Nat) : ((s : Nat) : Int) / 2 ^ ((k : Nat) : Int).toNat = ((s / 2 ^ k : Nat) : Int) := by simp
theorem ml_n (s k : Nat) : ((s : Nat) : Int) * 2 ^ ((k : Nat) : Int).toNat = ((s * 2 ^ k : Nat) : Int) := by simp
theorem ml_1 (k : Nat) : (1 : Int) * 2 ^ ((k : Nat) : Int).toNat = ((2 ^ k : Nat) : Int) := by simp
