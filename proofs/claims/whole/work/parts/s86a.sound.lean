/-! SOUNDNESS: locals, constants, branches, returns -/
theorem r32_0 : r32 0 := ⟨by omega, by omega⟩
theorem in32_of {v : Int} (h : in32 v = true) : r32 v := by
  obtain ⟨h1, h2⟩ := Bool.and_eq_true_iff.mp h
  exact ⟨of_decide_eq_true h1, of_decide_eq_true h2⟩
theorem in64_of {v : Int} (h : in64 v = true) : r64 v := by
  obtain ⟨h1, h2⟩ := Bool.and_eq_true_iff.mp h
  exact ⟨of_decide_eq_true h1, of_decide_eq_true h2⟩
theorem nar_int {ty : FieldType} {x y : Int32} (h : vp_nar ty x = y) (h2 : ∃ z, narrow ty (.int x) = .int z) : narrow ty (.int x) = .int y := by
  obtain ⟨z, hz⟩ := h2
  unfold vp_nar at h
  rw [hz] at h
  rw [hz, ← h]
theorem nar_byte {x : Int} (h1 : -128 ≤ x) (h2 : x < 128) : narrow .byte (.int (Int32.ofInt x)) = .int (Int32.ofInt x) := by
  refine nar_int ?_ ⟨_, rfl⟩
  rw [vp_nar_byte, Int32.toInt8_ofInt, o8_i h1 h2]
theorem nar_char {x : Int} (h1 : 0 ≤ x) (h2 : x < 65536) : narrow .char (.int (Int32.ofInt x)) = .int (Int32.ofInt x) := by
  refine nar_int ?_ ⟨_, rfl⟩
  rw [vp_nar_char]
  obtain ⟨n, rfl⟩ := Int.eq_ofNat_of_zero_le h1
  rw [Int32.ofInt_eq_ofNat, Int32.toUInt32_ofNat']
  have hn : n < 65536 := by omega
  have e1 : (UInt32.ofNat n).toUInt16.toUInt32 = UInt32.ofNat n := by
    refine UInt32.toNat_inj.mp ?_
    simp
    omega
  rw [e1]
  rfl
section SND
variable {l : Launch} {dC : Nat → ClassId} {dI : Nat → Nat → Nat} {cA : Nat → ClassId} {sp : Int → Option Nat} {sz : Nat} {L0 : Int} {xs0 : Int → Int} {adK adV : Nat → Nat} {bs : Nat} {fm : Option Nat}
theorem sok_iload {k : Nat} : SOK l dC dI cA sp sz L0 xs0 adK adV bs fm (.iload k) := by
  intro d lim mi pc a b c v np L st G M Q p e R s m args below meth cc H locs ls ρ n0 Qm hC hR hS hl hvL hvS hn0 hret hd hk hen hst
  obtain ⟨hx, hb, hml, hr, hlk, hown, hnm, hts, hW, hfr, hlo, hmi, hce, hsl, hsp⟩ := id hC
  obtain ⟨hk1, hk2⟩ := Bool.and_eq_true_iff.mp hk
  have hnp : np = pc + 2 := Nat.eq_of_beq_eq_true hk1
  subst hnp
  rw [Nat.add_sub_cancel_left] at hd
  have hak : a = k := Nat.eq_of_beq_eq_true hk2
  subst hak
  have hst : tg 0 (ldL L a) (fun x => SX l dC dI cA sp sz L0 xs0 adK adV bs fm d lim mi (pc + 2) L ((0, x) :: st) G M Q) := hst
  obtain ⟨x, hld, hst⟩ := tg_inv hst
  refine lv_iload (rest := st.map (tv sp ρ)) hx hb hd (ld_at hl hld rfl) ?_
  exact hst p e R s m args below meth cc H locs ls ρ n0 Qm hC hR hS hl hvL (vd_c (ld_vd hvL hld rfl) hvS) hn0 hret

theorem sok_iload_n {k : Fin 4} : SOK l dC dI cA sp sz L0 xs0 adK adV bs fm (.iload_n k) := by
  intro d lim mi pc a b c v np L st G M Q p e R s m args below meth cc H locs ls ρ n0 Qm hC hR hS hl hvL hvS hn0 hret hd hk hen hst
  obtain ⟨hx, hb, hml, hr, hlk, hown, hnm, hts, hW, hfr, hlo, hmi, hce, hsl, hsp⟩ := id hC
  obtain ⟨hk1, hk2⟩ := Bool.and_eq_true_iff.mp hk
  have hnp : np = pc + 1 := Nat.eq_of_beq_eq_true hk1
  subst hnp
  rw [Nat.add_sub_cancel_left] at hd
  have hak : a = k.val := Nat.eq_of_beq_eq_true hk2
  subst hak
  have hst : tg 0 (ldL L k.val) (fun x => SX l dC dI cA sp sz L0 xs0 adK adV bs fm d lim mi (pc + 1) L ((0, x) :: st) G M Q) := hst
  obtain ⟨x, hld, hst⟩ := tg_inv hst
  refine lv_iload_n (rest := st.map (tv sp ρ)) hx hb hd rfl (ld_at hl hld rfl) ?_
  exact hst p e R s m args below meth cc H locs ls ρ n0 Qm hC hR hS hl hvL (vd_c (ld_vd hvL hld rfl) hvS) hn0 hret

theorem sok_aload {k : Nat} : SOK l dC dI cA sp sz L0 xs0 adK adV bs fm (.aload k) := by
  intro d lim mi pc a b c v np L st G M Q p e R s m args below meth cc H locs ls ρ n0 Qm hC hR hS hl hvL hvS hn0 hret hd hk hen hst
  obtain ⟨hx, hb, hml, hr, hlk, hown, hnm, hts, hW, hfr, hlo, hmi, hce, hsl, hsp⟩ := id hC
  obtain ⟨hk1, hk2⟩ := Bool.and_eq_true_iff.mp hk
  have hnp : np = pc + 2 := Nat.eq_of_beq_eq_true hk1
  subst hnp
  rw [Nat.add_sub_cancel_left] at hd
  have hak : a = k := Nat.eq_of_beq_eq_true hk2
  subst hak
  have hst : tg 2 (ldL L a) (fun x => SX l dC dI cA sp sz L0 xs0 adK adV bs fm d lim mi (pc + 2) L ((2, x) :: st) G M Q) := hst
  obtain ⟨x, hld, hst⟩ := tg_inv hst
  have h0 := ld_at hl hld rfl
  rw [tv_2] at h0
  have hv0 := ld_vd hvL hld rfl
  cases hq : rvO sp ρ x with
  | none =>
    rw [hq] at h0
    refine lv_aloadN (rest := st.map (tv sp ρ)) hx hb hd h0 ?_
    have e1 : Value.null = tv sp ρ (2, x) := by rw [tv_2, hq]; rfl
    rw [e1]
    exact hst p e R s m args below meth cc H locs ls ρ n0 Qm hC hR hS hl hvL (vd_c hv0 hvS) hn0 hret
  | some y =>
    rw [hq] at h0
    refine lv_aload (rest := st.map (tv sp ρ)) hx hb hd h0 ?_
    have e1 : Value.ref y = tv sp ρ (2, x) := by rw [tv_2, hq]; rfl
    rw [e1]
    exact hst p e R s m args below meth cc H locs ls ρ n0 Qm hC hR hS hl hvL (vd_c hv0 hvS) hn0 hret

theorem sok_aload_n {k : Fin 4} : SOK l dC dI cA sp sz L0 xs0 adK adV bs fm (.aload_n k) := by
  intro d lim mi pc a b c v np L st G M Q p e R s m args below meth cc H locs ls ρ n0 Qm hC hR hS hl hvL hvS hn0 hret hd hk hen hst
  obtain ⟨hx, hb, hml, hr, hlk, hown, hnm, hts, hW, hfr, hlo, hmi, hce, hsl, hsp⟩ := id hC
  obtain ⟨hk1, hk2⟩ := Bool.and_eq_true_iff.mp hk
  have hnp : np = pc + 1 := Nat.eq_of_beq_eq_true hk1
  subst hnp
  rw [Nat.add_sub_cancel_left] at hd
  have hak : a = k.val := Nat.eq_of_beq_eq_true hk2
  subst hak
  have hst : tg 2 (ldL L k.val) (fun x => SX l dC dI cA sp sz L0 xs0 adK adV bs fm d lim mi (pc + 1) L ((2, x) :: st) G M Q) := hst
  obtain ⟨x, hld, hst⟩ := tg_inv hst
  have h0 := ld_at hl hld rfl
  rw [tv_2] at h0
  have hv0 := ld_vd hvL hld rfl
  cases hq : rvO sp ρ x with
  | none =>
    rw [hq] at h0
    refine lv_aload_nN (rest := st.map (tv sp ρ)) hx hb hd rfl h0 ?_
    have e1 : Value.null = tv sp ρ (2, x) := by rw [tv_2, hq]; rfl
    rw [e1]
    exact hst p e R s m args below meth cc H locs ls ρ n0 Qm hC hR hS hl hvL (vd_c hv0 hvS) hn0 hret
  | some y =>
    rw [hq] at h0
    refine lv_aload_n (rest := st.map (tv sp ρ)) hx hb hd rfl h0 ?_
    have e1 : Value.ref y = tv sp ρ (2, x) := by rw [tv_2, hq]; rfl
    rw [e1]
    exact hst p e R s m args below meth cc H locs ls ρ n0 Qm hC hR hS hl hvL (vd_c hv0 hvS) hn0 hret

theorem sok_lload {k : Nat} : SOK l dC dI cA sp sz L0 xs0 adK adV bs fm (.lload k) := by
  intro d lim mi pc a b c v np L st G M Q p e R s m args below meth cc H locs ls ρ n0 Qm hC hR hS hl hvL hvS hn0 hret hd hk hen hst
  obtain ⟨hx, hb, hml, hr, hlk, hown, hnm, hts, hW, hfr, hlo, hmi, hce, hsl, hsp⟩ := id hC
  obtain ⟨hk1, hk2⟩ := Bool.and_eq_true_iff.mp hk
  have hnp : np = pc + 2 := Nat.eq_of_beq_eq_true hk1
  subst hnp
  rw [Nat.add_sub_cancel_left] at hd
  have hak : a = k := Nat.eq_of_beq_eq_true hk2
  subst hak
  have hst : tg 1 (ldL L a) (fun x => SX l dC dI cA sp sz L0 xs0 adK adV bs fm d lim mi (pc + 2) L ((1, x) :: st) G M Q) := hst
  obtain ⟨x, hld, hst⟩ := tg_inv hst
  refine lv_lload (rest := st.map (tv sp ρ)) hx hb hd (ld_at hl hld rfl) ?_
  exact hst p e R s m args below meth cc H locs ls ρ n0 Qm hC hR hS hl hvL (vd_c (ld_vd hvL hld rfl) hvS) hn0 hret

theorem sok_lload_n {k : Fin 4} : SOK l dC dI cA sp sz L0 xs0 adK adV bs fm (.lload_n k) := by
  intro d lim mi pc a b c v np L st G M Q p e R s m args below meth cc H locs ls ρ n0 Qm hC hR hS hl hvL hvS hn0 hret hd hk hen hst
  obtain ⟨hx, hb, hml, hr, hlk, hown, hnm, hts, hW, hfr, hlo, hmi, hce, hsl, hsp⟩ := id hC
  obtain ⟨hk1, hk2⟩ := Bool.and_eq_true_iff.mp hk
  have hnp : np = pc + 1 := Nat.eq_of_beq_eq_true hk1
  subst hnp
  rw [Nat.add_sub_cancel_left] at hd
  have hak : a = k.val := Nat.eq_of_beq_eq_true hk2
  subst hak
  have hst : tg 1 (ldL L k.val) (fun x => SX l dC dI cA sp sz L0 xs0 adK adV bs fm d lim mi (pc + 1) L ((1, x) :: st) G M Q) := hst
  obtain ⟨x, hld, hst⟩ := tg_inv hst
  refine lv_lload_n (rest := st.map (tv sp ρ)) hx hb hd rfl (ld_at hl hld rfl) ?_
  exact hst p e R s m args below meth cc H locs ls ρ n0 Qm hC hR hS hl hvL (vd_c (ld_vd hvL hld rfl) hvS) hn0 hret

theorem sok_istore {k : Nat} : SOK l dC dI cA sp sz L0 xs0 adK adV bs fm (.istore k) := by
  intro d lim mi pc a b c v np L st G M Q p e R s m args below meth cc H locs ls ρ n0 Qm hC hR hS hl hvL hvS hn0 hret hd hk hen hst
  obtain ⟨hx, hb, hml, hr, hlk, hown, hnm, hts, hW, hfr, hlo, hmi, hce, hsl, hsp⟩ := id hC
  obtain ⟨hk1, hk2⟩ := Bool.and_eq_true_iff.mp hk
  have hnp : np = pc + 2 := Nat.eq_of_beq_eq_true hk1
  subst hnp
  rw [Nat.add_sub_cancel_left] at hd
  obtain ⟨hk3, hk4⟩ := Bool.and_eq_true_iff.mp hk2
  have hak : a = k := Nat.eq_of_beq_eq_true hk3
  subst hak
  obtain ⟨x, r, rfl, hst⟩ := st1_inv hst
  have hlt : a < myM mi := Nat.le_of_ble_eq_true hk4
  refine lv_istore (rest := r.map (tv sp ρ)) hx hb hd hl hlt (by rw [← drL_map]) (fun ls' hl' => ?_)
  exact hst p e R s m args below meth cc H locs ls' ρ n0 Qm hC hR hS hl' (fun q hq => (List.mem_cons.mp hq).elim (fun e => e ▸ vd_h hvS) (fun h => hvL q (drL_sub q h))) (vd_t hvS) hn0 hret

theorem sok_istore_n {k : Fin 4} : SOK l dC dI cA sp sz L0 xs0 adK adV bs fm (.istore_n k) := by
  intro d lim mi pc a b c v np L st G M Q p e R s m args below meth cc H locs ls ρ n0 Qm hC hR hS hl hvL hvS hn0 hret hd hk hen hst
  obtain ⟨hx, hb, hml, hr, hlk, hown, hnm, hts, hW, hfr, hlo, hmi, hce, hsl, hsp⟩ := id hC
  obtain ⟨hk1, hk2⟩ := Bool.and_eq_true_iff.mp hk
  have hnp : np = pc + 1 := Nat.eq_of_beq_eq_true hk1
  subst hnp
  rw [Nat.add_sub_cancel_left] at hd
  obtain ⟨hk3, hk4⟩ := Bool.and_eq_true_iff.mp hk2
  have hak : a = k.val := Nat.eq_of_beq_eq_true hk3
  subst hak
  obtain ⟨x, r, rfl, hst⟩ := st1_inv hst
  have hlt : k.val < myM mi := Nat.le_of_ble_eq_true hk4
  refine lv_istore_n (rest := r.map (tv sp ρ)) hx hb hd rfl hl hlt (by rw [← drL_map]) (fun ls' hl' => ?_)
  exact hst p e R s m args below meth cc H locs ls' ρ n0 Qm hC hR hS hl' (fun q hq => (List.mem_cons.mp hq).elim (fun e => e ▸ vd_h hvS) (fun h => hvL q (drL_sub q h))) (vd_t hvS) hn0 hret

theorem sok_astore {k : Nat} : SOK l dC dI cA sp sz L0 xs0 adK adV bs fm (.astore k) := by
  intro d lim mi pc a b c v np L st G M Q p e R s m args below meth cc H locs ls ρ n0 Qm hC hR hS hl hvL hvS hn0 hret hd hk hen hst
  obtain ⟨hx, hb, hml, hr, hlk, hown, hnm, hts, hW, hfr, hlo, hmi, hce, hsl, hsp⟩ := id hC
  obtain ⟨hk1, hk2⟩ := Bool.and_eq_true_iff.mp hk
  have hnp : np = pc + 2 := Nat.eq_of_beq_eq_true hk1
  subst hnp
  rw [Nat.add_sub_cancel_left] at hd
  obtain ⟨hk3, hk4⟩ := Bool.and_eq_true_iff.mp hk2
  have hak : a = k := Nat.eq_of_beq_eq_true hk3
  subst hak
  obtain ⟨x, r, rfl, hst⟩ := st1_inv hst
  have hlt : a < myM mi := Nat.le_of_ble_eq_true hk4
  cases hq : rvO sp ρ x with
  | none =>
    have e0 : tv sp ρ (2, x) = Value.null := by rw [tv_2, hq]; rfl
    show W p l e R s m args below meth cc H locs _ _ Qm (F0 m pc ls (tv sp ρ (2, x) :: r.map (tv sp ρ)))
    rw [e0]
    refine lv_astoreN (rest := r.map (tv sp ρ)) hx hb hd hl hlt (by rw [← drL_map, ← e0]) (fun ls' hl' => ?_)
    exact hst p e R s m args below meth cc H locs ls' ρ n0 Qm hC hR hS hl' (fun q hq => (List.mem_cons.mp hq).elim (fun e => e ▸ vd_h hvS) (fun h => hvL q (drL_sub q h))) (vd_t hvS) hn0 hret
  | some y =>
    have e0 : tv sp ρ (2, x) = Value.ref y := by rw [tv_2, hq]; rfl
    show W p l e R s m args below meth cc H locs _ _ Qm (F0 m pc ls (tv sp ρ (2, x) :: r.map (tv sp ρ)))
    rw [e0]
    refine lv_astore (rest := r.map (tv sp ρ)) hx hb hd hl hlt (by rw [← drL_map, ← e0]) (fun ls' hl' => ?_)
    exact hst p e R s m args below meth cc H locs ls' ρ n0 Qm hC hR hS hl' (fun q hq => (List.mem_cons.mp hq).elim (fun e => e ▸ vd_h hvS) (fun h => hvL q (drL_sub q h))) (vd_t hvS) hn0 hret

theorem sok_astore_n {k : Fin 4} : SOK l dC dI cA sp sz L0 xs0 adK adV bs fm (.astore_n k) := by
  intro d lim mi pc a b c v np L st G M Q p e R s m args below meth cc H locs ls ρ n0 Qm hC hR hS hl hvL hvS hn0 hret hd hk hen hst
  obtain ⟨hx, hb, hml, hr, hlk, hown, hnm, hts, hW, hfr, hlo, hmi, hce, hsl, hsp⟩ := id hC
  obtain ⟨hk1, hk2⟩ := Bool.and_eq_true_iff.mp hk
  have hnp : np = pc + 1 := Nat.eq_of_beq_eq_true hk1
  subst hnp
  rw [Nat.add_sub_cancel_left] at hd
  obtain ⟨hk3, hk4⟩ := Bool.and_eq_true_iff.mp hk2
  have hak : a = k.val := Nat.eq_of_beq_eq_true hk3
  subst hak
  obtain ⟨x, r, rfl, hst⟩ := st1_inv hst
  have hlt : k.val < myM mi := Nat.le_of_ble_eq_true hk4
  cases hq : rvO sp ρ x with
  | none =>
    have e0 : tv sp ρ (2, x) = Value.null := by rw [tv_2, hq]; rfl
    show W p l e R s m args below meth cc H locs _ _ Qm (F0 m pc ls (tv sp ρ (2, x) :: r.map (tv sp ρ)))
    rw [e0]
    refine lv_astore_nN (rest := r.map (tv sp ρ)) hx hb hd rfl hl hlt (by rw [← drL_map, ← e0]) (fun ls' hl' => ?_)
    exact hst p e R s m args below meth cc H locs ls' ρ n0 Qm hC hR hS hl' (fun q hq => (List.mem_cons.mp hq).elim (fun e => e ▸ vd_h hvS) (fun h => hvL q (drL_sub q h))) (vd_t hvS) hn0 hret
  | some y =>
    have e0 : tv sp ρ (2, x) = Value.ref y := by rw [tv_2, hq]; rfl
    show W p l e R s m args below meth cc H locs _ _ Qm (F0 m pc ls (tv sp ρ (2, x) :: r.map (tv sp ρ)))
    rw [e0]
    refine lv_astore_n (rest := r.map (tv sp ρ)) hx hb hd rfl hl hlt (by rw [← drL_map, ← e0]) (fun ls' hl' => ?_)
    exact hst p e R s m args below meth cc H locs ls' ρ n0 Qm hC hR hS hl' (fun q hq => (List.mem_cons.mp hq).elim (fun e => e ▸ vd_h hvS) (fun h => hvL q (drL_sub q h))) (vd_t hvS) hn0 hret

theorem sok_lstore {k : Nat} : SOK l dC dI cA sp sz L0 xs0 adK adV bs fm (.lstore k) := by
  intro d lim mi pc a b c v np L st G M Q p e R s m args below meth cc H locs ls ρ n0 Qm hC hR hS hl hvL hvS hn0 hret hd hk hen hst
  obtain ⟨hx, hb, hml, hr, hlk, hown, hnm, hts, hW, hfr, hlo, hmi, hce, hsl, hsp⟩ := id hC
  obtain ⟨hk1, hk2⟩ := Bool.and_eq_true_iff.mp hk
  have hnp : np = pc + 2 := Nat.eq_of_beq_eq_true hk1
  subst hnp
  rw [Nat.add_sub_cancel_left] at hd
  obtain ⟨hk3, hk4⟩ := Bool.and_eq_true_iff.mp hk2
  have hak : a = k := Nat.eq_of_beq_eq_true hk3
  subst hak
  obtain ⟨x, r, rfl, hst⟩ := st1_inv hst
  have hlt : a + 1 < myM mi := Nat.le_of_ble_eq_true hk4
  refine lv_lstore (rest := r.map (tv sp ρ)) hx hb hd hl hlt (by rw [← drL_map2]) (fun ls' hl' => ?_)
  exact hst p e R s m args below meth cc H locs ls' ρ n0 Qm hC hR hS hl' (fun q hq => (List.mem_cons.mp hq).elim (fun e => e ▸ vd_h hvS) (fun h => hvL q (drL_sub q (drL_sub q h)))) (vd_t hvS) hn0 hret

theorem sok_lstore_n {k : Fin 4} : SOK l dC dI cA sp sz L0 xs0 adK adV bs fm (.lstore_n k) := by
  intro d lim mi pc a b c v np L st G M Q p e R s m args below meth cc H locs ls ρ n0 Qm hC hR hS hl hvL hvS hn0 hret hd hk hen hst
  obtain ⟨hx, hb, hml, hr, hlk, hown, hnm, hts, hW, hfr, hlo, hmi, hce, hsl, hsp⟩ := id hC
  obtain ⟨hk1, hk2⟩ := Bool.and_eq_true_iff.mp hk
  have hnp : np = pc + 1 := Nat.eq_of_beq_eq_true hk1
  subst hnp
  rw [Nat.add_sub_cancel_left] at hd
  obtain ⟨hk3, hk4⟩ := Bool.and_eq_true_iff.mp hk2
  have hak : a = k.val := Nat.eq_of_beq_eq_true hk3
  subst hak
  obtain ⟨x, r, rfl, hst⟩ := st1_inv hst
  have hlt : k.val + 1 < myM mi := Nat.le_of_ble_eq_true hk4
  refine lv_lstore_n (rest := r.map (tv sp ρ)) hx hb hd rfl hl hlt (by rw [← drL_map2]) (fun ls' hl' => ?_)
  exact hst p e R s m args below meth cc H locs ls' ρ n0 Qm hC hR hS hl' (fun q hq => (List.mem_cons.mp hq).elim (fun e => e ▸ vd_h hvS) (fun h => hvL q (drL_sub q (drL_sub q h)))) (vd_t hvS) hn0 hret

theorem sok_iinc {k : Nat} {n : Int} : SOK l dC dI cA sp sz L0 xs0 adK adV bs fm (.iinc k n) := by
  intro d lim mi pc a b c v np L st G M Q p e R s m args below meth cc H locs ls ρ n0 Qm hC hR hS hl hvL hvS hn0 hret hd hk hen hst
  obtain ⟨hx, hb, hml, hr, hlk, hown, hnm, hts, hW, hfr, hlo, hmi, hce, hsl, hsp⟩ := id hC
  obtain ⟨hk1, hk2⟩ := Bool.and_eq_true_iff.mp hk
  have hnp : np = pc + 3 := Nat.eq_of_beq_eq_true hk1
  subst hnp
  rw [Nat.add_sub_cancel_left] at hd
  obtain ⟨hk3, hk4⟩ := Bool.and_eq_true_iff.mp hk2
  obtain ⟨hk5, hk6⟩ := Bool.and_eq_true_iff.mp hk3
  have hak : a = k := Nat.eq_of_beq_eq_true hk5
  subst hak
  have hnv : n = v := of_decide_eq_true hk6
  subst hnv
  have hst : tg 0 (ldL L a) (fun x => SX l dC dI cA sp sz L0 xs0 adK adV bs fm d lim mi (pc + 3) ((a, (0, w32 (x + n))) :: drL L a) st G M Q) := hst
  obtain ⟨x, hld, hst⟩ := tg_inv hst
  have hlt : a < myM mi := Nat.le_of_ble_eq_true hk4
  have hm : (a, tv sp ρ (0, x)) ∈ L.map fun q => (q.1, tv sp ρ q.2) := List.mem_map.mpr ⟨_, ldL_mem hld rfl, rfl⟩
  obtain ⟨i, hi⟩ := List.getElem?_of_mem hm
  refine lv_iinc (x := Int32.ofInt x) (v := Int32.ofInt (w32 (x + n))) (rest := st.map (tv sp ρ)) hx hb hd hl hi (by rw [o32_w, Int32.ofInt_add]) hlt (by rw [← drL_map]) (fun ls' hl' => ?_)
  exact hst p e R s m args below meth cc H locs ls' ρ n0 Qm hC hR hS hl' (fun q hq => (List.mem_cons.mp hq).elim (fun e => e ▸ vd_0 (w32_in _)) (fun h => hvL q (drL_sub q h))) hvS hn0 hret

theorem sok_iconst {n : Int} : SOK l dC dI cA sp sz L0 xs0 adK adV bs fm (.iconst n) := by
  intro d lim mi pc a b c v np L st G M Q p e R s m args below meth cc H locs ls ρ n0 Qm hC hR hS hl hvL hvS hn0 hret hd hk hen hst
  obtain ⟨hx, hb, hml, hr, hlk, hown, hnm, hts, hW, hfr, hlo, hmi, hce, hsl, hsp⟩ := id hC
  obtain ⟨hk1, hk2⟩ := Bool.and_eq_true_iff.mp hk
  have hnp : np = pc + 1 := Nat.eq_of_beq_eq_true hk1
  subst hnp
  rw [Nat.add_sub_cancel_left] at hd
  obtain ⟨hk3, hk4⟩ := Bool.and_eq_true_iff.mp hk2
  obtain ⟨hk5, hk6⟩ := Bool.and_eq_true_iff.mp hk3
  have hnv : n = v := of_decide_eq_true hk5
  have hb0 : b = 0 := Nat.eq_of_beq_eq_true hk6
  subst hnv hb0
  have hr2 := in32_of hk4
  refine lv_iconst (v := Int32.ofInt n) (rest := st.map (tv sp ρ)) hx hb hd rfl ?_
  exact hst p e R s m args below meth cc H locs ls ρ n0 Qm hC hR hS hl hvL (vd_c (vd_0 hr2) hvS) hn0 hret

theorem sok_bipush {n : Int} : SOK l dC dI cA sp sz L0 xs0 adK adV bs fm (.bipush n) := by
  intro d lim mi pc a b c v np L st G M Q p e R s m args below meth cc H locs ls ρ n0 Qm hC hR hS hl hvL hvS hn0 hret hd hk hen hst
  obtain ⟨hx, hb, hml, hr, hlk, hown, hnm, hts, hW, hfr, hlo, hmi, hce, hsl, hsp⟩ := id hC
  obtain ⟨hk1, hk2⟩ := Bool.and_eq_true_iff.mp hk
  have hnp : np = pc + 2 := Nat.eq_of_beq_eq_true hk1
  subst hnp
  rw [Nat.add_sub_cancel_left] at hd
  obtain ⟨hk3, hk4⟩ := Bool.and_eq_true_iff.mp hk2
  obtain ⟨hk5, hk6⟩ := Bool.and_eq_true_iff.mp hk3
  obtain ⟨hk7, hk8⟩ := Bool.and_eq_true_iff.mp hk5
  have hnv : n = v := of_decide_eq_true hk7
  have hb0 : b = 0 := Nat.eq_of_beq_eq_true hk8
  subst hnv hb0
  have g1 : -128 ≤ n := of_decide_eq_true hk6
  have g2 : n < 128 := of_decide_eq_true hk4
  refine lv_bipush (v := Int32.ofInt n) (rest := st.map (tv sp ρ)) hx hb hd (o8_i g1 g2) ?_
  exact hst p e R s m args below meth cc H locs ls ρ n0 Qm hC hR hS hl hvL (vd_c (vd_0 ⟨by omega, by omega⟩) hvS) hn0 hret

theorem sok_sipush {n : Int} : SOK l dC dI cA sp sz L0 xs0 adK adV bs fm (.sipush n) := by
  intro d lim mi pc a b c v np L st G M Q p e R s m args below meth cc H locs ls ρ n0 Qm hC hR hS hl hvL hvS hn0 hret hd hk hen hst
  obtain ⟨hx, hb, hml, hr, hlk, hown, hnm, hts, hW, hfr, hlo, hmi, hce, hsl, hsp⟩ := id hC
  obtain ⟨hk1, hk2⟩ := Bool.and_eq_true_iff.mp hk
  have hnp : np = pc + 3 := Nat.eq_of_beq_eq_true hk1
  subst hnp
  rw [Nat.add_sub_cancel_left] at hd
  obtain ⟨hk3, hk4⟩ := Bool.and_eq_true_iff.mp hk2
  obtain ⟨hk5, hk6⟩ := Bool.and_eq_true_iff.mp hk3
  obtain ⟨hk7, hk8⟩ := Bool.and_eq_true_iff.mp hk5
  have hnv : n = v := of_decide_eq_true hk7
  have hb0 : b = 0 := Nat.eq_of_beq_eq_true hk8
  subst hnv hb0
  have g1 : -32768 ≤ n := of_decide_eq_true hk6
  have g2 : n < 32768 := of_decide_eq_true hk4
  refine lv_sipush (v := Int32.ofInt n) (rest := st.map (tv sp ρ)) hx hb hd (o16_i g1 g2) ?_
  exact hst p e R s m args below meth cc H locs ls ρ n0 Qm hC hR hS hl hvL (vd_c (vd_0 ⟨by omega, by omega⟩) hvS) hn0 hret

theorem sok_lconst {n : Fin 2} : SOK l dC dI cA sp sz L0 xs0 adK adV bs fm (.lconst n) := by
  intro d lim mi pc a b c v np L st G M Q p e R s m args below meth cc H locs ls ρ n0 Qm hC hR hS hl hvL hvS hn0 hret hd hk hen hst
  obtain ⟨hx, hb, hml, hr, hlk, hown, hnm, hts, hW, hfr, hlo, hmi, hce, hsl, hsp⟩ := id hC
  obtain ⟨hk1, hk2⟩ := Bool.and_eq_true_iff.mp hk
  have hnp : np = pc + 1 := Nat.eq_of_beq_eq_true hk1
  subst hnp
  rw [Nat.add_sub_cancel_left] at hd
  obtain ⟨hk3, hk4⟩ := Bool.and_eq_true_iff.mp hk2
  have hnv : ((n : Nat) : Int) = v := of_decide_eq_true hk3
  have hb0 : b = 1 := Nat.eq_of_beq_eq_true hk4
  subst hnv hb0
  refine lv_lconst (v := Int64.ofInt (n : Nat)) (rest := st.map (tv sp ρ)) hx hb hd Int64.ofInt_eq_ofNat.symm ?_
  exact hst p e R s m args below meth cc H locs ls ρ n0 Qm hC hR hS hl hvL (vd_c (vd_1 ⟨by omega, by omega⟩) hvS) hn0 hret

end SND
