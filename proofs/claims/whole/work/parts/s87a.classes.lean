/-! SOUNDNESS: the classes' own facts -/
def tyB (c : Nat) (t : FieldType) : Bool := match t with
  | .int => Nat.beq c 0
  | .boolean => Nat.beq c 4
  | .object _ => Nat.beq c 2 || Nat.beq c 3
  | .array _ => Nat.beq c 2 || Nat.beq c 3
  | _ => false
def KF (a : Nat) : Prop := ∃ (C : String) (T : u_T) (N : Nat) (ty : Nat → FieldType), vwCl[a]? = some (C, T, N) ∧ clN a = C ∧ (∀ k, clF a k = T k) ∧ clZ a = N ∧ (∀ w ∈ u_ws C T N, w ∈ GW) ∧ (∀ k, k < N → parseFieldDescriptor (T k).2.2.1 = some (ty k)) ∧ (∀ x, x < N → ∀ y, y < N → x ≠ y → (T x).2.1 ≠ (T y).2.1)
  ∧ (∀ k, k < N → (T k).1 = C) ∧ (∀ k, k < N → tyB (FTc a k) (ty k) = true) ∧ Jvm.Cond.instantiable C N ∈ GW ∧ Jvm.Cond.initialized C ∈ GW
theorem gw_of {w : Jvm.Cond} (h : w ∈ tables_1) (h2 : goodWord w = true) : w ∈ GW := List.mem_filter.mpr ⟨List.mem_append_right _ h, h2⟩
theorem gw_all {ws : List Jvm.Cond} (h : ws.all (fun w => decide (w ∈ tables_1) && goodWord w) = true) : ∀ w ∈ ws, w ∈ GW := fun w hw => by
  obtain ⟨h1, h2⟩ := Bool.and_eq_true_iff.mp (List.all_eq_true.mp h w hw)
  exact gw_of (of_decide_eq_true h1) h2
set_option maxRecDepth 100000 in
theorem KF_0 : KF 0 := ⟨RX0, TX0, 7, tyX0, rfl, rfl, fun _ => rfl, rfl, gw_all (by decide +kernel), tyX0_ok, nmX0, by decide +kernel, by decide +kernel, gw_of (List.mem_of_getElem? (i := 309) (by decide +kernel)) rfl, gw_of (List.mem_of_getElem? (i := 10) (by decide +kernel)) rfl⟩
set_option maxRecDepth 100000 in
theorem KF_1 : KF 1 := ⟨RX1, TX1, 5, tyX1, rfl, rfl, fun _ => rfl, rfl, gw_all (by decide +kernel), tyX1_ok, nmX1, by decide +kernel, by decide +kernel, gw_of (List.mem_of_getElem? (i := 266) (by decide +kernel)) rfl, gw_of (List.mem_of_getElem? (i := 8) (by decide +kernel)) rfl⟩
set_option maxRecDepth 100000 in
theorem KF_2 : KF 2 := ⟨RX2, TX2, 8, tyX2, rfl, rfl, fun _ => rfl, rfl, gw_all (by decide +kernel), tyX2_ok, nmX2, by decide +kernel, by decide +kernel, gw_of (List.mem_of_getElem? (i := 338) (by decide +kernel)) rfl, gw_of (List.mem_of_getElem? (i := 11) (by decide +kernel)) rfl⟩
set_option maxRecDepth 100000 in
theorem KF_3 : KF 3 := ⟨RX3, TX3, 9, tyX3, rfl, rfl, fun _ => rfl, rfl, gw_all (by decide +kernel), tyX3_ok, nmX3, by decide +kernel, by decide +kernel, gw_of (List.mem_of_getElem? (i := 232) (by decide +kernel)) rfl, gw_of (List.mem_of_getElem? (i := 7) (by decide +kernel)) rfl⟩
set_option maxRecDepth 100000 in
theorem KF_4 : KF 4 := ⟨RX4, TX4, 3, tyX4, rfl, rfl, fun _ => rfl, rfl, gw_all (by decide +kernel), tyX4_ok, nmX4, by decide +kernel, by decide +kernel, gw_of (List.mem_of_getElem? (i := 43) (by decide +kernel)) rfl, gw_of (List.mem_of_getElem? (i := 4) (by decide +kernel)) rfl⟩
set_option maxRecDepth 100000 in
theorem KF_5 : KF 5 := ⟨RX5, TX5, 3, tyX5, rfl, rfl, fun _ => rfl, rfl, gw_all (by decide +kernel), tyX5_ok, nmX5, by decide +kernel, by decide +kernel, gw_of (List.mem_of_getElem? (i := 369) (by decide +kernel)) rfl, gw_of (List.mem_of_getElem? (i := 12) (by decide +kernel)) rfl⟩
set_option maxRecDepth 100000 in
theorem KF_6 : KF 6 := ⟨RX6, TX6, 7, tyX6, rfl, rfl, fun _ => rfl, rfl, gw_all (by decide +kernel), tyX6_ok, nmX6, by decide +kernel, by decide +kernel, gw_of (List.mem_of_getElem? (i := 37) (by decide +kernel)) rfl, gw_of (List.mem_of_getElem? (i := 3) (by decide +kernel)) rfl⟩
set_option maxRecDepth 100000 in
theorem KF_7 : KF 7 := ⟨RX7, TX7, 13, tyX7, rfl, rfl, fun _ => rfl, rfl, gw_all (by decide +kernel), tyX7_ok, nmX7, by decide +kernel, by decide +kernel, gw_of (List.mem_of_getElem? (i := 31) (by decide +kernel)) rfl, gw_of (List.mem_of_getElem? (i := 2) (by decide +kernel)) rfl⟩
set_option maxRecDepth 100000 in
theorem KF_8 : KF 8 := ⟨RX8, TX8, 4, tyX8, rfl, rfl, fun _ => rfl, rfl, gw_all (by decide +kernel), tyX8_ok, nmX8, by decide +kernel, by decide +kernel, gw_of (List.mem_of_getElem? (i := 290) (by decide +kernel)) rfl, gw_of (List.mem_of_getElem? (i := 9) (by decide +kernel)) rfl⟩
set_option maxRecDepth 100000 in
theorem KF_9 : KF 9 := ⟨RX9, TX9, 11, tyX9, rfl, rfl, fun _ => rfl, rfl, gw_all (by decide +kernel), tyX9_ok, nmX9, by decide +kernel, by decide +kernel, gw_of (List.mem_of_getElem? (i := 143) (by decide +kernel)) rfl, gw_of (List.mem_of_getElem? (i := 5) (by decide +kernel)) rfl⟩
set_option maxRecDepth 100000 in
theorem KF_10 : KF 10 := ⟨RX10, TX10, 3, tyX10, rfl, rfl, fun _ => rfl, rfl, gw_all (by decide +kernel), tyX10_ok, nmX10, by decide +kernel, by decide +kernel, gw_of (List.mem_of_getElem? (i := 390) (by decide +kernel)) rfl, gw_of (List.mem_of_getElem? (i := 13) (by decide +kernel)) rfl⟩
set_option maxRecDepth 100000 in
theorem KF_11 : KF 11 := ⟨RX11, TX11, 16, tyX11, rfl, rfl, fun _ => rfl, rfl, gw_all (by decide +kernel), tyX11_ok, nmX11, by decide +kernel, by decide +kernel, gw_of (List.mem_of_getElem? (i := 23) (by decide +kernel)) rfl, gw_of (List.mem_of_getElem? (i := 1) (by decide +kernel)) rfl⟩
set_option maxRecDepth 100000 in
theorem KF_12 : KF 12 := ⟨RX12, TX12, 41, tyX12, rfl, rfl, fun _ => rfl, rfl, gw_all (by decide +kernel), tyX12_ok, nmX12, by decide +kernel, by decide +kernel, gw_of (List.mem_of_getElem? (i := 1248) (by decide +kernel)) rfl, gw_of (List.mem_of_getElem? (i := 14) (by decide +kernel)) rfl⟩
theorem KF_all : ∀ a, a < 13 → KF a := lt_s (lt_s (lt_s (lt_s (lt_s (lt_s (lt_s (lt_s (lt_s (lt_s (lt_s (lt_s (lt_s (lt_0) KF_0) KF_1) KF_2) KF_3) KF_4) KF_5) KF_6) KF_7) KF_8) KF_9) KF_10) KF_11) KF_12
theorem shm_obj : ∀ i, i < 116 → SHn i < 13 → SHm i = clZ (SHn i) := by decide +kernel
theorem shm_le : ∀ i, i < 116 → SHm i ≤ 34560 := by decide +kernel
