section SND
variable {l : Launch} {dC : Nat → ClassId} {dI : Nat → Nat → Nat} {cA : Nat → ClassId} {sp : Int → Option Nat} {sz : Nat} {L0 : Int} {xs0 : Int → Int} {adK adV : Nat → Nat} {bs : Nat} {fm : Option Nat}
theorem sok_goto {o : Int} : SOK l dC dI cA sp sz L0 xs0 adK adV bs fm (.goto o) := by
  intro d lim mi pc a b c v np L st G M Q p e R s m args below meth cc H locs ls ρ n0 Qm hC hR hS hl hvL hvS hn0 hret hd hk hen hst
  obtain ⟨hx, hb, hml, hr, hlk, hown, hnm, hts, hW, hfr, hlo, hmi, hce, hsl, hsp⟩ := id hC
  obtain ⟨hk1, hk2⟩ := Bool.and_eq_true_iff.mp hk
  have hnp : np = pc + 3 := Nat.eq_of_beq_eq_true hk1
  subst hnp
  rw [Nat.add_sub_cancel_left] at hd
  have ht : (pc : Int) + o = (a : Int) := of_decide_eq_true hk2
  refine lv_goto (rest := st.map (tv sp ρ)) hx hb hd ht ?_
  exact hst p e R s m args below meth cc H locs ls ρ n0 Qm hC hR hS hl hvL hvS hn0 hret

theorem sok_ifCond_eq {o : Int} : SOK l dC dI cA sp sz L0 xs0 adK adV bs fm (.ifCond .eq o) := by
  intro d lim mi pc a b c v np L st G M Q p e R s m args below meth cc H locs ls ρ n0 Qm hC hR hS hl hvL hvS hn0 hret hd hk hen hst
  obtain ⟨hx, hb, hml, hr, hlk, hown, hnm, hts, hW, hfr, hlo, hmi, hce, hsl, hsp⟩ := id hC
  obtain ⟨hk1, hk2⟩ := Bool.and_eq_true_iff.mp hk
  have hnp : np = pc + 3 := Nat.eq_of_beq_eq_true hk1
  subst hnp
  rw [Nat.add_sub_cancel_left] at hd
  have ht : (pc : Int) + o = (a : Int) := of_decide_eq_true hk2
  obtain ⟨x, r, rfl, hst⟩ := st1_inv hst
  have hxx := vd_i (vd_h hvS)
  have hv2 := vd_t hvS
  have q1 : Int32.ofInt x = 0 ↔ x = 0 := by rw [o32_0]; exact o32_eq hxx r32_0
  have q2 : Int32.ofInt x < 0 ↔ x < 0 := by rw [o32_0]; exact o32_lt hxx r32_0
  have q3 : 0 < Int32.ofInt x ↔ 0 < x := by rw [o32_0]; exact o32_lt r32_0 hxx
  have q4 : 0 ≤ Int32.ofInt x ↔ 0 ≤ x := by rw [o32_0]; exact o32_le r32_0 hxx
  have q5 : Int32.ofInt x ≤ 0 ↔ x ≤ 0 := by rw [o32_0]; exact o32_le hxx r32_0
  refine lv_if_eq (x := Int32.ofInt x) (rest := r.map (tv sp ρ)) hx hb hd ht (fun q => ?_) (fun q => ?_)
  · exact (hst.1 (q1.mp q)) p e R s m args below meth cc H locs ls ρ n0 Qm hC hR hS hl hvL hv2 hn0 hret
  · exact (hst.2 (fun z => q (q1.mpr z))) p e R s m args below meth cc H locs ls ρ n0 Qm hC hR hS hl hvL hv2 hn0 hret

theorem sok_ifCond_ne {o : Int} : SOK l dC dI cA sp sz L0 xs0 adK adV bs fm (.ifCond .ne o) := by
  intro d lim mi pc a b c v np L st G M Q p e R s m args below meth cc H locs ls ρ n0 Qm hC hR hS hl hvL hvS hn0 hret hd hk hen hst
  obtain ⟨hx, hb, hml, hr, hlk, hown, hnm, hts, hW, hfr, hlo, hmi, hce, hsl, hsp⟩ := id hC
  obtain ⟨hk1, hk2⟩ := Bool.and_eq_true_iff.mp hk
  have hnp : np = pc + 3 := Nat.eq_of_beq_eq_true hk1
  subst hnp
  rw [Nat.add_sub_cancel_left] at hd
  have ht : (pc : Int) + o = (a : Int) := of_decide_eq_true hk2
  obtain ⟨x, r, rfl, hst⟩ := st1_inv hst
  have hxx := vd_i (vd_h hvS)
  have hv2 := vd_t hvS
  have q1 : Int32.ofInt x = 0 ↔ x = 0 := by rw [o32_0]; exact o32_eq hxx r32_0
  have q2 : Int32.ofInt x < 0 ↔ x < 0 := by rw [o32_0]; exact o32_lt hxx r32_0
  have q3 : 0 < Int32.ofInt x ↔ 0 < x := by rw [o32_0]; exact o32_lt r32_0 hxx
  have q4 : 0 ≤ Int32.ofInt x ↔ 0 ≤ x := by rw [o32_0]; exact o32_le r32_0 hxx
  have q5 : Int32.ofInt x ≤ 0 ↔ x ≤ 0 := by rw [o32_0]; exact o32_le hxx r32_0
  refine lv_if_ne (x := Int32.ofInt x) (rest := r.map (tv sp ρ)) hx hb hd ht (fun q => ?_) (fun q => ?_)
  · exact (hst.2 (fun z => q (q1.mpr z))) p e R s m args below meth cc H locs ls ρ n0 Qm hC hR hS hl hvL hv2 hn0 hret
  · exact (hst.1 (q1.mp q)) p e R s m args below meth cc H locs ls ρ n0 Qm hC hR hS hl hvL hv2 hn0 hret

theorem sok_ifCond_lt {o : Int} : SOK l dC dI cA sp sz L0 xs0 adK adV bs fm (.ifCond .lt o) := by
  intro d lim mi pc a b c v np L st G M Q p e R s m args below meth cc H locs ls ρ n0 Qm hC hR hS hl hvL hvS hn0 hret hd hk hen hst
  obtain ⟨hx, hb, hml, hr, hlk, hown, hnm, hts, hW, hfr, hlo, hmi, hce, hsl, hsp⟩ := id hC
  obtain ⟨hk1, hk2⟩ := Bool.and_eq_true_iff.mp hk
  have hnp : np = pc + 3 := Nat.eq_of_beq_eq_true hk1
  subst hnp
  rw [Nat.add_sub_cancel_left] at hd
  have ht : (pc : Int) + o = (a : Int) := of_decide_eq_true hk2
  obtain ⟨x, r, rfl, hst⟩ := st1_inv hst
  have hxx := vd_i (vd_h hvS)
  have hv2 := vd_t hvS
  have q1 : Int32.ofInt x = 0 ↔ x = 0 := by rw [o32_0]; exact o32_eq hxx r32_0
  have q2 : Int32.ofInt x < 0 ↔ x < 0 := by rw [o32_0]; exact o32_lt hxx r32_0
  have q3 : 0 < Int32.ofInt x ↔ 0 < x := by rw [o32_0]; exact o32_lt r32_0 hxx
  have q4 : 0 ≤ Int32.ofInt x ↔ 0 ≤ x := by rw [o32_0]; exact o32_le r32_0 hxx
  have q5 : Int32.ofInt x ≤ 0 ↔ x ≤ 0 := by rw [o32_0]; exact o32_le hxx r32_0
  refine lv_if_lt (x := Int32.ofInt x) (rest := r.map (tv sp ρ)) hx hb hd ht (fun q => ?_) (fun q => ?_)
  · exact (hst.1 (q2.mp q)) p e R s m args below meth cc H locs ls ρ n0 Qm hC hR hS hl hvL hv2 hn0 hret
  · exact (hst.2 (fun z => q (q2.mpr z))) p e R s m args below meth cc H locs ls ρ n0 Qm hC hR hS hl hvL hv2 hn0 hret

theorem sok_ifCond_ge {o : Int} : SOK l dC dI cA sp sz L0 xs0 adK adV bs fm (.ifCond .ge o) := by
  intro d lim mi pc a b c v np L st G M Q p e R s m args below meth cc H locs ls ρ n0 Qm hC hR hS hl hvL hvS hn0 hret hd hk hen hst
  obtain ⟨hx, hb, hml, hr, hlk, hown, hnm, hts, hW, hfr, hlo, hmi, hce, hsl, hsp⟩ := id hC
  obtain ⟨hk1, hk2⟩ := Bool.and_eq_true_iff.mp hk
  have hnp : np = pc + 3 := Nat.eq_of_beq_eq_true hk1
  subst hnp
  rw [Nat.add_sub_cancel_left] at hd
  have ht : (pc : Int) + o = (a : Int) := of_decide_eq_true hk2
  obtain ⟨x, r, rfl, hst⟩ := st1_inv hst
  have hxx := vd_i (vd_h hvS)
  have hv2 := vd_t hvS
  have q1 : Int32.ofInt x = 0 ↔ x = 0 := by rw [o32_0]; exact o32_eq hxx r32_0
  have q2 : Int32.ofInt x < 0 ↔ x < 0 := by rw [o32_0]; exact o32_lt hxx r32_0
  have q3 : 0 < Int32.ofInt x ↔ 0 < x := by rw [o32_0]; exact o32_lt r32_0 hxx
  have q4 : 0 ≤ Int32.ofInt x ↔ 0 ≤ x := by rw [o32_0]; exact o32_le r32_0 hxx
  have q5 : Int32.ofInt x ≤ 0 ↔ x ≤ 0 := by rw [o32_0]; exact o32_le hxx r32_0
  refine lv_if_ge (x := Int32.ofInt x) (rest := r.map (tv sp ρ)) hx hb hd ht (fun q => ?_) (fun q => ?_)
  · exact (hst.2 (fun z => absurd (q4.mp q) (Int.not_le.mpr z))) p e R s m args below meth cc H locs ls ρ n0 Qm hC hR hS hl hvL hv2 hn0 hret
  · exact (hst.1 (Int.not_le.mp fun z => q (q4.mpr z))) p e R s m args below meth cc H locs ls ρ n0 Qm hC hR hS hl hvL hv2 hn0 hret

theorem sok_ifCond_gt {o : Int} : SOK l dC dI cA sp sz L0 xs0 adK adV bs fm (.ifCond .gt o) := by
  intro d lim mi pc a b c v np L st G M Q p e R s m args below meth cc H locs ls ρ n0 Qm hC hR hS hl hvL hvS hn0 hret hd hk hen hst
  obtain ⟨hx, hb, hml, hr, hlk, hown, hnm, hts, hW, hfr, hlo, hmi, hce, hsl, hsp⟩ := id hC
  obtain ⟨hk1, hk2⟩ := Bool.and_eq_true_iff.mp hk
  have hnp : np = pc + 3 := Nat.eq_of_beq_eq_true hk1
  subst hnp
  rw [Nat.add_sub_cancel_left] at hd
  have ht : (pc : Int) + o = (a : Int) := of_decide_eq_true hk2
  obtain ⟨x, r, rfl, hst⟩ := st1_inv hst
  have hxx := vd_i (vd_h hvS)
  have hv2 := vd_t hvS
  have q1 : Int32.ofInt x = 0 ↔ x = 0 := by rw [o32_0]; exact o32_eq hxx r32_0
  have q2 : Int32.ofInt x < 0 ↔ x < 0 := by rw [o32_0]; exact o32_lt hxx r32_0
  have q3 : 0 < Int32.ofInt x ↔ 0 < x := by rw [o32_0]; exact o32_lt r32_0 hxx
  have q4 : 0 ≤ Int32.ofInt x ↔ 0 ≤ x := by rw [o32_0]; exact o32_le r32_0 hxx
  have q5 : Int32.ofInt x ≤ 0 ↔ x ≤ 0 := by rw [o32_0]; exact o32_le hxx r32_0
  refine lv_if_gt (x := Int32.ofInt x) (rest := r.map (tv sp ρ)) hx hb hd ht (fun q => ?_) (fun q => ?_)
  · exact (hst.1 (q3.mp q)) p e R s m args below meth cc H locs ls ρ n0 Qm hC hR hS hl hvL hv2 hn0 hret
  · exact (hst.2 (fun z => q (q3.mpr z))) p e R s m args below meth cc H locs ls ρ n0 Qm hC hR hS hl hvL hv2 hn0 hret

theorem sok_ifCond_le {o : Int} : SOK l dC dI cA sp sz L0 xs0 adK adV bs fm (.ifCond .le o) := by
  intro d lim mi pc a b c v np L st G M Q p e R s m args below meth cc H locs ls ρ n0 Qm hC hR hS hl hvL hvS hn0 hret hd hk hen hst
  obtain ⟨hx, hb, hml, hr, hlk, hown, hnm, hts, hW, hfr, hlo, hmi, hce, hsl, hsp⟩ := id hC
  obtain ⟨hk1, hk2⟩ := Bool.and_eq_true_iff.mp hk
  have hnp : np = pc + 3 := Nat.eq_of_beq_eq_true hk1
  subst hnp
  rw [Nat.add_sub_cancel_left] at hd
  have ht : (pc : Int) + o = (a : Int) := of_decide_eq_true hk2
  obtain ⟨x, r, rfl, hst⟩ := st1_inv hst
  have hxx := vd_i (vd_h hvS)
  have hv2 := vd_t hvS
  have q1 : Int32.ofInt x = 0 ↔ x = 0 := by rw [o32_0]; exact o32_eq hxx r32_0
  have q2 : Int32.ofInt x < 0 ↔ x < 0 := by rw [o32_0]; exact o32_lt hxx r32_0
  have q3 : 0 < Int32.ofInt x ↔ 0 < x := by rw [o32_0]; exact o32_lt r32_0 hxx
  have q4 : 0 ≤ Int32.ofInt x ↔ 0 ≤ x := by rw [o32_0]; exact o32_le r32_0 hxx
  have q5 : Int32.ofInt x ≤ 0 ↔ x ≤ 0 := by rw [o32_0]; exact o32_le hxx r32_0
  refine lv_if_le (x := Int32.ofInt x) (rest := r.map (tv sp ρ)) hx hb hd ht (fun q => ?_) (fun q => ?_)
  · exact (hst.2 (fun z => absurd (q5.mp q) (Int.not_le.mpr z))) p e R s m args below meth cc H locs ls ρ n0 Qm hC hR hS hl hvL hv2 hn0 hret
  · exact (hst.1 (Int.not_le.mp fun z => q (q5.mpr z))) p e R s m args below meth cc H locs ls ρ n0 Qm hC hR hS hl hvL hv2 hn0 hret

theorem sok_if_icmp_eq {o : Int} : SOK l dC dI cA sp sz L0 xs0 adK adV bs fm (.if_icmp .eq o) := by
  intro d lim mi pc a b c v np L st G M Q p e R s m args below meth cc H locs ls ρ n0 Qm hC hR hS hl hvL hvS hn0 hret hd hk hen hst
  obtain ⟨hx, hb, hml, hr, hlk, hown, hnm, hts, hW, hfr, hlo, hmi, hce, hsl, hsp⟩ := id hC
  obtain ⟨hk1, hk2⟩ := Bool.and_eq_true_iff.mp hk
  have hnp : np = pc + 3 := Nat.eq_of_beq_eq_true hk1
  subst hnp
  rw [Nat.add_sub_cancel_left] at hd
  have ht : (pc : Int) + o = (a : Int) := of_decide_eq_true hk2
  obtain ⟨x, y, r, rfl, hst⟩ := b2_inv hst
  have hy := vd_i (vd_h hvS)
  have hxx := vd_i (vd_h (vd_t hvS))
  have hv2 := vd_t (vd_t hvS)
  have q1 : Int32.ofInt x = Int32.ofInt y ↔ x = y := by exact o32_eq hxx hy
  have q2 : Int32.ofInt x < Int32.ofInt y ↔ x < y := by exact o32_lt hxx hy
  have q3 : Int32.ofInt y < Int32.ofInt x ↔ y < x := by exact o32_lt hy hxx
  have q4 : Int32.ofInt y ≤ Int32.ofInt x ↔ y ≤ x := by exact o32_le hy hxx
  have q5 : Int32.ofInt x ≤ Int32.ofInt y ↔ x ≤ y := by exact o32_le hxx hy
  refine lv_icmp_eq (x := Int32.ofInt x) (y := Int32.ofInt y) (rest := r.map (tv sp ρ)) hx hb hd ht (fun q => ?_) (fun q => ?_)
  · exact (hst.1 (q1.mp q)) p e R s m args below meth cc H locs ls ρ n0 Qm hC hR hS hl hvL hv2 hn0 hret
  · exact (hst.2 (fun z => q (q1.mpr z))) p e R s m args below meth cc H locs ls ρ n0 Qm hC hR hS hl hvL hv2 hn0 hret

theorem sok_if_icmp_ne {o : Int} : SOK l dC dI cA sp sz L0 xs0 adK adV bs fm (.if_icmp .ne o) := by
  intro d lim mi pc a b c v np L st G M Q p e R s m args below meth cc H locs ls ρ n0 Qm hC hR hS hl hvL hvS hn0 hret hd hk hen hst
  obtain ⟨hx, hb, hml, hr, hlk, hown, hnm, hts, hW, hfr, hlo, hmi, hce, hsl, hsp⟩ := id hC
  obtain ⟨hk1, hk2⟩ := Bool.and_eq_true_iff.mp hk
  have hnp : np = pc + 3 := Nat.eq_of_beq_eq_true hk1
  subst hnp
  rw [Nat.add_sub_cancel_left] at hd
  have ht : (pc : Int) + o = (a : Int) := of_decide_eq_true hk2
  obtain ⟨x, y, r, rfl, hst⟩ := b2_inv hst
  have hy := vd_i (vd_h hvS)
  have hxx := vd_i (vd_h (vd_t hvS))
  have hv2 := vd_t (vd_t hvS)
  have q1 : Int32.ofInt x = Int32.ofInt y ↔ x = y := by exact o32_eq hxx hy
  have q2 : Int32.ofInt x < Int32.ofInt y ↔ x < y := by exact o32_lt hxx hy
  have q3 : Int32.ofInt y < Int32.ofInt x ↔ y < x := by exact o32_lt hy hxx
  have q4 : Int32.ofInt y ≤ Int32.ofInt x ↔ y ≤ x := by exact o32_le hy hxx
  have q5 : Int32.ofInt x ≤ Int32.ofInt y ↔ x ≤ y := by exact o32_le hxx hy
  refine lv_icmp_ne (x := Int32.ofInt x) (y := Int32.ofInt y) (rest := r.map (tv sp ρ)) hx hb hd ht (fun q => ?_) (fun q => ?_)
  · exact (hst.2 (fun z => q (q1.mpr z))) p e R s m args below meth cc H locs ls ρ n0 Qm hC hR hS hl hvL hv2 hn0 hret
  · exact (hst.1 (q1.mp q)) p e R s m args below meth cc H locs ls ρ n0 Qm hC hR hS hl hvL hv2 hn0 hret

theorem sok_if_icmp_lt {o : Int} : SOK l dC dI cA sp sz L0 xs0 adK adV bs fm (.if_icmp .lt o) := by
  intro d lim mi pc a b c v np L st G M Q p e R s m args below meth cc H locs ls ρ n0 Qm hC hR hS hl hvL hvS hn0 hret hd hk hen hst
  obtain ⟨hx, hb, hml, hr, hlk, hown, hnm, hts, hW, hfr, hlo, hmi, hce, hsl, hsp⟩ := id hC
  obtain ⟨hk1, hk2⟩ := Bool.and_eq_true_iff.mp hk
  have hnp : np = pc + 3 := Nat.eq_of_beq_eq_true hk1
  subst hnp
  rw [Nat.add_sub_cancel_left] at hd
  have ht : (pc : Int) + o = (a : Int) := of_decide_eq_true hk2
  obtain ⟨x, y, r, rfl, hst⟩ := b2_inv hst
  have hy := vd_i (vd_h hvS)
  have hxx := vd_i (vd_h (vd_t hvS))
  have hv2 := vd_t (vd_t hvS)
  have q1 : Int32.ofInt x = Int32.ofInt y ↔ x = y := by exact o32_eq hxx hy
  have q2 : Int32.ofInt x < Int32.ofInt y ↔ x < y := by exact o32_lt hxx hy
  have q3 : Int32.ofInt y < Int32.ofInt x ↔ y < x := by exact o32_lt hy hxx
  have q4 : Int32.ofInt y ≤ Int32.ofInt x ↔ y ≤ x := by exact o32_le hy hxx
  have q5 : Int32.ofInt x ≤ Int32.ofInt y ↔ x ≤ y := by exact o32_le hxx hy
  refine lv_icmp_lt (x := Int32.ofInt x) (y := Int32.ofInt y) (rest := r.map (tv sp ρ)) hx hb hd ht (fun q => ?_) (fun q => ?_)
  · exact (hst.1 (q2.mp q)) p e R s m args below meth cc H locs ls ρ n0 Qm hC hR hS hl hvL hv2 hn0 hret
  · exact (hst.2 (fun z => q (q2.mpr z))) p e R s m args below meth cc H locs ls ρ n0 Qm hC hR hS hl hvL hv2 hn0 hret

theorem sok_if_icmp_ge {o : Int} : SOK l dC dI cA sp sz L0 xs0 adK adV bs fm (.if_icmp .ge o) := by
  intro d lim mi pc a b c v np L st G M Q p e R s m args below meth cc H locs ls ρ n0 Qm hC hR hS hl hvL hvS hn0 hret hd hk hen hst
  obtain ⟨hx, hb, hml, hr, hlk, hown, hnm, hts, hW, hfr, hlo, hmi, hce, hsl, hsp⟩ := id hC
  obtain ⟨hk1, hk2⟩ := Bool.and_eq_true_iff.mp hk
  have hnp : np = pc + 3 := Nat.eq_of_beq_eq_true hk1
  subst hnp
  rw [Nat.add_sub_cancel_left] at hd
  have ht : (pc : Int) + o = (a : Int) := of_decide_eq_true hk2
  obtain ⟨x, y, r, rfl, hst⟩ := b2_inv hst
  have hy := vd_i (vd_h hvS)
  have hxx := vd_i (vd_h (vd_t hvS))
  have hv2 := vd_t (vd_t hvS)
  have q1 : Int32.ofInt x = Int32.ofInt y ↔ x = y := by exact o32_eq hxx hy
  have q2 : Int32.ofInt x < Int32.ofInt y ↔ x < y := by exact o32_lt hxx hy
  have q3 : Int32.ofInt y < Int32.ofInt x ↔ y < x := by exact o32_lt hy hxx
  have q4 : Int32.ofInt y ≤ Int32.ofInt x ↔ y ≤ x := by exact o32_le hy hxx
  have q5 : Int32.ofInt x ≤ Int32.ofInt y ↔ x ≤ y := by exact o32_le hxx hy
  refine lv_icmp_ge (x := Int32.ofInt x) (y := Int32.ofInt y) (rest := r.map (tv sp ρ)) hx hb hd ht (fun q => ?_) (fun q => ?_)
  · exact (hst.2 (fun z => absurd (q4.mp q) (Int.not_le.mpr z))) p e R s m args below meth cc H locs ls ρ n0 Qm hC hR hS hl hvL hv2 hn0 hret
  · exact (hst.1 (Int.not_le.mp fun z => q (q4.mpr z))) p e R s m args below meth cc H locs ls ρ n0 Qm hC hR hS hl hvL hv2 hn0 hret

theorem sok_if_icmp_gt {o : Int} : SOK l dC dI cA sp sz L0 xs0 adK adV bs fm (.if_icmp .gt o) := by
  intro d lim mi pc a b c v np L st G M Q p e R s m args below meth cc H locs ls ρ n0 Qm hC hR hS hl hvL hvS hn0 hret hd hk hen hst
  obtain ⟨hx, hb, hml, hr, hlk, hown, hnm, hts, hW, hfr, hlo, hmi, hce, hsl, hsp⟩ := id hC
  obtain ⟨hk1, hk2⟩ := Bool.and_eq_true_iff.mp hk
  have hnp : np = pc + 3 := Nat.eq_of_beq_eq_true hk1
  subst hnp
  rw [Nat.add_sub_cancel_left] at hd
  have ht : (pc : Int) + o = (a : Int) := of_decide_eq_true hk2
  obtain ⟨x, y, r, rfl, hst⟩ := b2_inv hst
  have hy := vd_i (vd_h hvS)
  have hxx := vd_i (vd_h (vd_t hvS))
  have hv2 := vd_t (vd_t hvS)
  have q1 : Int32.ofInt x = Int32.ofInt y ↔ x = y := by exact o32_eq hxx hy
  have q2 : Int32.ofInt x < Int32.ofInt y ↔ x < y := by exact o32_lt hxx hy
  have q3 : Int32.ofInt y < Int32.ofInt x ↔ y < x := by exact o32_lt hy hxx
  have q4 : Int32.ofInt y ≤ Int32.ofInt x ↔ y ≤ x := by exact o32_le hy hxx
  have q5 : Int32.ofInt x ≤ Int32.ofInt y ↔ x ≤ y := by exact o32_le hxx hy
  refine lv_icmp_gt (x := Int32.ofInt x) (y := Int32.ofInt y) (rest := r.map (tv sp ρ)) hx hb hd ht (fun q => ?_) (fun q => ?_)
  · exact (hst.1 (q3.mp q)) p e R s m args below meth cc H locs ls ρ n0 Qm hC hR hS hl hvL hv2 hn0 hret
  · exact (hst.2 (fun z => q (q3.mpr z))) p e R s m args below meth cc H locs ls ρ n0 Qm hC hR hS hl hvL hv2 hn0 hret

theorem sok_if_icmp_le {o : Int} : SOK l dC dI cA sp sz L0 xs0 adK adV bs fm (.if_icmp .le o) := by
  intro d lim mi pc a b c v np L st G M Q p e R s m args below meth cc H locs ls ρ n0 Qm hC hR hS hl hvL hvS hn0 hret hd hk hen hst
  obtain ⟨hx, hb, hml, hr, hlk, hown, hnm, hts, hW, hfr, hlo, hmi, hce, hsl, hsp⟩ := id hC
  obtain ⟨hk1, hk2⟩ := Bool.and_eq_true_iff.mp hk
  have hnp : np = pc + 3 := Nat.eq_of_beq_eq_true hk1
  subst hnp
  rw [Nat.add_sub_cancel_left] at hd
  have ht : (pc : Int) + o = (a : Int) := of_decide_eq_true hk2
  obtain ⟨x, y, r, rfl, hst⟩ := b2_inv hst
  have hy := vd_i (vd_h hvS)
  have hxx := vd_i (vd_h (vd_t hvS))
  have hv2 := vd_t (vd_t hvS)
  have q1 : Int32.ofInt x = Int32.ofInt y ↔ x = y := by exact o32_eq hxx hy
  have q2 : Int32.ofInt x < Int32.ofInt y ↔ x < y := by exact o32_lt hxx hy
  have q3 : Int32.ofInt y < Int32.ofInt x ↔ y < x := by exact o32_lt hy hxx
  have q4 : Int32.ofInt y ≤ Int32.ofInt x ↔ y ≤ x := by exact o32_le hy hxx
  have q5 : Int32.ofInt x ≤ Int32.ofInt y ↔ x ≤ y := by exact o32_le hxx hy
  refine lv_icmp_le (x := Int32.ofInt x) (y := Int32.ofInt y) (rest := r.map (tv sp ρ)) hx hb hd ht (fun q => ?_) (fun q => ?_)
  · exact (hst.2 (fun z => absurd (q5.mp q) (Int.not_le.mpr z))) p e R s m args below meth cc H locs ls ρ n0 Qm hC hR hS hl hvL hv2 hn0 hret
  · exact (hst.1 (Int.not_le.mp fun z => q (q5.mpr z))) p e R s m args below meth cc H locs ls ρ n0 Qm hC hR hS hl hvL hv2 hn0 hret

end SND
