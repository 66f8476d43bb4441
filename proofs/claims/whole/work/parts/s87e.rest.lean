/-! SOUNDNESS: the rest that stays in its frame -/
section SND
variable {l : Launch} {dC : Nat → ClassId} {dI : Nat → Nat → Nat} {cA : Nat → ClassId} {sp : Int → Option Nat} {sz : Nat} {L0 : Int} {xs0 : Int → Int} {adK adV : Nat → Nat} {bs : Nat} {fm : Option Nat}
theorem sok_aastore : SOK l dC dI cA sp sz L0 xs0 adK adV bs fm (.aastore) := by
  intro d lim mi pc a b c v np L st G M Q p e R s m args below meth cc H locs ls ρ n0 Qm hC hR hS hl hvL hvS hn0 hret hd hk hen hst
  obtain ⟨hx, hb, hml, hr, hlk, hown, hnm, hts, hW, hfr, hlo, hmi, hce, hsl, hsp⟩ := id hC
  obtain ⟨hk1, hk2⟩ := Bool.and_eq_true_iff.mp hk
  have hnp : np = pc + 1 := Nat.eq_of_beq_eq_true hk1
  subst hnp
  rw [Nat.add_sub_cancel_left] at hd
  have hst : st1 2 st (fun y r => st1 0 r fun i r => st1 2 r fun j r => gd (isCell j y) ((0 ≤ i ∧ i < SHl j) ∧ SX l dC dI cA sp sz L0 xs0 adK adV bs fm d lim mi (pc + 1) L r G (up2 M j i y) Q)) := hst
  obtain ⟨y, r0, e0, hs0⟩ := st1_inv hst
  obtain ⟨x, r1, e1, hs1⟩ := st1_inv hs0
  obtain ⟨j, r, e2, hs2⟩ := st1_inv hs1
  clear hst hs0 hs1
  subst e2
  subst e1
  subst e0
  obtain ⟨hkj, hs3⟩ := gd_inv hs2
  have hvy := vd_h hvS
  have hvj := vd_h (vd_t (vd_t hvS))
  have hvr := vd_t (vd_t (vd_t hvS))
  obtain ⟨k, a1, t0, hk16, hk20, ha1, hkj, hay, ht⟩ : ∃ (k a1 t0 : Nat), 16 ≤ k ∧ k < 20 ∧ a1 < 13 ∧ SHk j = k ∧ SHk y = a1 ∧ ∀ C T N, vwCl[a1]? = some (C, T, N) → (tysA cA)[t0]? = some (cA k, .object C) := by
    unfold isCell at hkj
    cases q1 : Nat.beq (SHk j) 16 with
    | true =>
      rw [q1] at hkj
      exact ⟨16, 2, 3, by omega, by omega, by omega, Nat.eq_of_beq_eq_true q1, Nat.eq_of_beq_eq_true hkj, fun C T N h => by cases h; rfl⟩
    | false =>
      rw [q1] at hkj
      cases q2 : Nat.beq (SHk j) 17 with
      | true =>
        rw [q2] at hkj
        exact ⟨17, 5, 4, by omega, by omega, by omega, Nat.eq_of_beq_eq_true q2, Nat.eq_of_beq_eq_true hkj, fun C T N h => by cases h; rfl⟩
      | false =>
        rw [q2] at hkj
        cases q3 : Nat.beq (SHk j) 18 with
        | true =>
          rw [q3] at hkj
          exact ⟨18, 6, 5, by omega, by omega, by omega, Nat.eq_of_beq_eq_true q3, Nat.eq_of_beq_eq_true hkj, fun C T N h => by cases h; rfl⟩
        | false =>
          rw [q3] at hkj
          cases q4 : Nat.beq (SHk j) 19 with
          | true =>
            rw [q4] at hkj
            exact ⟨19, 10, 6, by omega, by omega, by omega, Nat.eq_of_beq_eq_true q4, Nat.eq_of_beq_eq_true hkj, fun C T N h => by cases h; rfl⟩
          | false =>
            rw [q4] at hkj
            cases hkj
  obtain ⟨C, T, N, ty, f1, -⟩ := KF_all a1 ha1
  obtain ⟨i, rfl, g1, g2, g3, g4, g5, g6⟩ := ar_at (cA := cA) (sp := sp) (ρ := ρ) (M := M) hkj ⟨by omega, by omega⟩ hvj
  obtain ⟨iy, rfl, y1, y2, y3, y4, y5, y6, y7, y8⟩ := ob_at (cA := cA) (sp := sp) (ρ := ρ) (M := M) hay ha1 hvy
  obtain ⟨v1, v2, v3, v4⟩ := idx_ok g3 hs3.1
  rw [cel_r g1 hk16] at g5
  show W p l e R s m args below meth cc H locs _ _ Qm (F0 m pc ls (tv sp ρ (2, (iy : Int)) :: .int (Int32.ofInt x) :: tv sp ρ (2, (i : Int)) :: r.map (tv sp ρ)))
  rw [g6, y8]
  refine va_astq (D := (dC, dI)) (rest := r.map (tv sp ρ)) hx hb hW.1 hR.1 hR.2.1 hS (idxO i - 2) t0 (idxO iy - 2) a1 (r := (C, T, N)) g5 (ht C T N f1) y7 f1 v1 hd (fun H1 locs1 hP1 hD1 hS1 => ?_)
  rw [v2] at hP1 hD1
  have hmv : mvd G (up2 M (i : Int) x (iy : Int)) := mvd_up hR.2.2.1 (by omega) ⟨fun q => absurd q (by omega), fun q => absurd q (by omega), fun _ => vd_r hvy⟩
  have ew : wl cA sp ρ G (up2 M (i : Int) x (iy : Int)) = (wl cA sp ρ G M).set (idxO i - 2) (ρ i, .inl (cA k, SHm i, .inr (.inr (.inr (.inr (va_up (fun q => rvO sp ρ (M (i : Int) q)) x.toNat (some (ρ iy)))))))) := by
    rw [wl_up g2, cel_r g1 hk16]
    refine congrArg (fun z => (wl cA sp ρ G M).set (idxO i - 2) (ρ i, z)) ?_
    refine congrArg (fun z : Nat → Option Nat => (Sum.inl (cA k, SHm i, Sum.inr (Sum.inr (Sum.inr (Sum.inr z)))) : va_E)) (funext fun q => ?_)
    unfold va_up
    by_cases hq : q = x.toNat
    · rw [if_pos hq, hq, v3, up2_eq]
      unfold rvO
      rw [if_pos (by omega)]
      rfl
    · rw [if_neg hq, up2_nk (by omega)]
  rw [← ew] at hP1 hD1
  exact hs3.2 p e R s m args below meth cc H1 locs1 ls ρ n0 Qm hC (RL_up hR g2 (fun _ => vd_r hvy) hmv hP1 hD1) hS1 hl hvL hvr hn0 hret

theorem sok_tableswitch {df lo hi : Int} {offs : Array Int} : SOK l dC dI cA sp sz L0 xs0 adK adV bs fm (.tableswitch df lo hi offs) := by
  intro d lim mi pc a b c v np L st G M Q p e R s m args below meth cc H locs ls ρ n0 Qm hC hR hS hl hvL hvS hn0 hret hd hk hen hst
  obtain ⟨hx, hb, hml, hr, hlk, hown, hnm, hts, hW, hfr, hlo, hmi, hce, hsl, hsp⟩ := id hC
  obtain ⟨hk1, hk2⟩ := Bool.and_eq_true_iff.mp hk
  have hst : st1 0 st (fun x r => swt x (SX l dC dI cA sp sz L0 xs0 adK adV bs fm d lim mi ((pc : Int) + df).toNat L r G M Q) (fun o => SX l dC dI cA sp sz L0 xs0 adK adV bs fm d lim mi ((pc : Int) + o).toNat L r G M Q) lo offs.toList) := hst
  obtain ⟨x, r, e1, hs1⟩ := st1_inv hst
  clear hst
  subst e1
  have hxx := vd_i (vd_h hvS)
  have hvr := vd_t hvS
  have k2 := hk2
  have k1 : (decide (0 ≤ (pc : Int) + df) && offs.toList.all (fun o => decide (0 ≤ (pc : Int) + o)) && decide (hi - lo + 1 = (offs.size : Int))) = true := hk1
  obtain ⟨k3, k4⟩ := Bool.and_eq_true_iff.mp k1
  obtain ⟨k5, k6⟩ := Bool.and_eq_true_iff.mp k3
  have k2 : lo ≤ hi := of_decide_eq_true k2
  have k4 : hi - lo + 1 = (offs.size : Int) := of_decide_eq_true k4
  have k5 : 0 ≤ (pc : Int) + df := of_decide_eq_true k5
  obtain ⟨s1, s2⟩ := swt_spec hs1
  have ex : (Int32.ofInt x).toInt = x := o32_to hxx.1 hxx.2
  show W p l e R s m args below meth cc H locs _ _ Qm (F0 m pc ls (.int (Int32.ofInt x) :: r.map (tv sp ρ)))
  by_cases hin : x < lo ∨ hi < x
  · refine lv_tableOut (rest := r.map (tv sp ρ)) (tgt := ((pc : Int) + df).toNat) hx hb hd (by rw [ex]; exact hin) (by omega) ?_
    exact (s2 (by rw [Array.length_toList]; omega)) p e R s m args below meth cc H locs ls ρ n0 Qm hC hR hS hl hvL hvr hn0 hret
  · have hlt : (x - lo).toNat < offs.size := by omega
    have ho : offs[(x - lo).toNat]? = some offs[(x - lo).toNat] := Array.getElem?_eq_getElem hlt
    have hp : 0 ≤ (pc : Int) + offs[(x - lo).toNat] := of_decide_eq_true (List.all_eq_true.mp k6 _ (by rw [Array.mem_toList_iff]; exact Array.getElem_mem hlt))
    refine lv_tableIn (rest := r.map (tv sp ρ)) (off := offs[(x - lo).toNat]) (tgt := ((pc : Int) + offs[(x - lo).toNat]).toNat) hx hb hd (by rw [ex]; omega) (by rw [ex]; omega) (by rw [ex]; exact ho) (by omega) ?_
    exact (s1 (x - lo).toNat offs[(x - lo).toNat] (by omega) (by rw [Array.getElem?_toList]; exact ho)) p e R s m args below meth cc H locs ls ρ n0 Qm hC hR hS hl hvL hvr hn0 hret

theorem sok_ldc {x : Nat} : SOK l dC dI cA sp sz L0 xs0 adK adV bs fm (.ldc x) := by
  intro d lim mi pc a b c v np L st G M Q p e R s m args below meth cc H locs ls ρ n0 Qm hC hR hS hl hvL hvS hn0 hret hd hk hen hst
  obtain ⟨hx, hb, hml, hr, hlk, hown, hnm, hts, hW, hfr, hlo, hmi, hce, hsl, hsp⟩ := id hC
  obtain ⟨hk1, hk2⟩ := Bool.and_eq_true_iff.mp hk
  have hnp : np = pc + 2 := Nat.eq_of_beq_eq_true hk1
  subst hnp
  rw [Nat.add_sub_cancel_left] at hd
  rcases Bool.or_eq_true_iff.mp hk2 with hk2 | hk2
  · obtain ⟨q1, q2⟩ := Bool.and_eq_true_iff.mp hk2
    obtain ⟨q3, q4⟩ := Bool.and_eq_true_iff.mp q1
    have hb0 : b = 0 := Nat.eq_of_beq_eq_true q3
    subst hb0
    have hw := of_decide_eq_true q2
    have hrv := in32_of q4
    refine lv_ldc (v := Int32.ofInt v) (rest := st.map (tv sp ρ)) hx hb hown (gw_good hts hw rfl) hd ?_
    exact hst p e R s m args below meth cc H locs ls ρ n0 Qm hC hR hS hl hvL (vd_c (vd_0 hrv) hvS) hn0 hret
  · obtain ⟨q1, q2⟩ := Bool.and_eq_true_iff.mp hk2
    have hb0 : b = 2 := Nat.eq_of_beq_eq_true q1
    subst hb0
    have hmem := of_decide_eq_true q2
    obtain ⟨w1, w2, w3, w4, w5, w6, w7, w8, w9, w10, w11, w12, w13, w14, w15⟩ := id hW
    have key : ∀ (i : Nat) (tx : String), i < 3 → v = -10 - (i : Int) → vk_R (ownS mi) x tx (adK i) s → W p l e R s m args below meth cc H locs (G.1 - n0) (slo G.1 - slo n0) Qm (F0 m pc ls (st.map (tv sp ρ))) := by
      intro i tx hi hv hz
      refine va_ldcS (rest := st.map (tv sp ρ)) hx hb hown hz hd ?_
      have e1 : Value.ref (adK i) = tv sp ρ (2, v) := by
        rw [tv_2, hv]
        unfold rvO
        rw [if_neg (by omega), if_neg (by omega), hsp.2.2.1 i hi]
        rfl
      rw [e1]
      exact hst p e R s m args below meth cc H locs ls ρ n0 Qm hC hR hS hl hvL (vd_c (vd_n (by omega)) hvS) hn0 hret
    simp only [List.mem_cons, List.not_mem_nil, or_false, Prod.mk.injEq] at hmem
    rcases hmem with ⟨h1, h2, h3⟩ | ⟨h1, h2, h3⟩ | ⟨h1, h2, h3⟩ | ⟨h1, h2, h3⟩
    · exact key 0 _ (by omega) (by omega) (by rw [h1, h2]; exact w12)
    · exact key 1 _ (by omega) (by omega) (by rw [h1, h2]; exact w13)
    · exact key 2 _ (by omega) (by omega) (by rw [h1, h2]; exact w14)
    · exact key 0 _ (by omega) (by omega) (by rw [h1, h2]; exact w15)

theorem sok_ldc_w {x : Nat} : SOK l dC dI cA sp sz L0 xs0 adK adV bs fm (.ldc_w x) := by
  intro d lim mi pc a b c v np L st G M Q p e R s m args below meth cc H locs ls ρ n0 Qm hC hR hS hl hvL hvS hn0 hret hd hk hen hst
  obtain ⟨hx, hb, hml, hr, hlk, hown, hnm, hts, hW, hfr, hlo, hmi, hce, hsl, hsp⟩ := id hC
  obtain ⟨hk1, hk2⟩ := Bool.and_eq_true_iff.mp hk
  have hnp : np = pc + 3 := Nat.eq_of_beq_eq_true hk1
  subst hnp
  rw [Nat.add_sub_cancel_left] at hd
  obtain ⟨q1, q2⟩ := Bool.and_eq_true_iff.mp hk2
  obtain ⟨q3, q4⟩ := Bool.and_eq_true_iff.mp q1
  have hb0 : b = 0 := Nat.eq_of_beq_eq_true q3
  subst hb0
  have hw := of_decide_eq_true q2
  have hrv := in32_of q4
  refine lv_ldcw (v := Int32.ofInt v) (rest := st.map (tv sp ρ)) hx hb hown (gw_good hts hw rfl) hd ?_
  exact hst p e R s m args below meth cc H locs ls ρ n0 Qm hC hR hS hl hvL (vd_c (vd_0 hrv) hvS) hn0 hret

theorem sok_ldc2_w {x : Nat} : SOK l dC dI cA sp sz L0 xs0 adK adV bs fm (.ldc2_w x) := by
  intro d lim mi pc a b c v np L st G M Q p e R s m args below meth cc H locs ls ρ n0 Qm hC hR hS hl hvL hvS hn0 hret hd hk hen hst
  obtain ⟨hx, hb, hml, hr, hlk, hown, hnm, hts, hW, hfr, hlo, hmi, hce, hsl, hsp⟩ := id hC
  obtain ⟨hk1, hk2⟩ := Bool.and_eq_true_iff.mp hk
  have hnp : np = pc + 3 := Nat.eq_of_beq_eq_true hk1
  subst hnp
  rw [Nat.add_sub_cancel_left] at hd
  obtain ⟨q1, q2⟩ := Bool.and_eq_true_iff.mp hk2
  obtain ⟨q3, q4⟩ := Bool.and_eq_true_iff.mp q1
  have hb0 : b = 1 := Nat.eq_of_beq_eq_true q3
  subst hb0
  have hw := of_decide_eq_true q2
  have hrv := in64_of q4
  refine lv_ldc2 (v := Int64.ofInt v) (rest := st.map (tv sp ρ)) hx hb hown (gw_good hts hw rfl) hd ?_
  exact hst p e R s m args below meth cc H locs ls ρ n0 Qm hC hR hS hl hvL (vd_c (vd_1 hrv) hvS) hn0 hret

theorem sok_getstatic {x : Nat} : SOK l dC dI cA sp sz L0 xs0 adK adV bs fm (.getstatic x) := by
  intro d lim mi pc a b c v np L st G M Q p e R s m args below meth cc H locs ls ρ n0 Qm hC hR hS hl hvL hvS hn0 hret hd hk hen hst
  obtain ⟨hx, hb, hml, hr, hlk, hown, hnm, hts, hW, hfr, hlo, hmi, hce, hsl, hsp⟩ := id hC
  obtain ⟨hk1, hk2⟩ := Bool.and_eq_true_iff.mp hk
  have hnp : np = pc + 3 := Nat.eq_of_beq_eq_true hk1
  subst hnp
  rw [Nat.add_sub_cancel_left] at hd
  obtain ⟨w1, w2, w3, w4, w5, w6, w7, w8, w9, w10, w11, w12, w13, w14, w15⟩ := id hW
  rcases Bool.or_eq_true_iff.mp hk2 with hk2 | hk2
  · obtain ⟨q1, q2⟩ := Bool.and_eq_true_iff.mp hk2
    obtain ⟨q3, q4⟩ := Bool.and_eq_true_iff.mp q1
    have hb0 : b = 0 := Nat.eq_of_beq_eq_true q3
    have hv0 : v = 1 := of_decide_eq_true q4
    subst hb0 hv0
    refine va_gets (A := AA sz) (rest := st.map (tv sp ρ)) hx hb w5 hS hown (gw_good hts (of_decide_eq_true q2) rfl) (fun _ h => h) hd ?_
    exact hst p e R s m args below meth cc H locs ls ρ n0 Qm hC hR hS hl hvL (vd_c (vd_0 ⟨by omega, by omega⟩) hvS) hn0 hret
  · obtain ⟨q1, q2⟩ := Bool.and_eq_true_iff.mp hk2
    obtain ⟨q3, q4⟩ := Bool.and_eq_true_iff.mp q1
    have hb0 : b = 2 := Nat.eq_of_beq_eq_true q3
    have hv0 : v = -2 := of_decide_eq_true q4
    subst hb0 hv0
    refine va_gets (A := AA sz) (rest := st.map (tv sp ρ)) hx hb w6 hS hown (gw_good hts (of_decide_eq_true q2) rfl) (fun _ h => h) hd ?_
    have e1 : va_rf fm = tv sp ρ (2, -2) := by
      rw [tv_2]
      unfold rvO
      rw [if_neg (by omega), if_neg (by omega), hsp.2.1]
    rw [e1]
    exact hst p e R s m args below meth cc H locs ls ρ n0 Qm hC hR hS hl hvL (vd_c (vd_n (by omega)) hvS) hn0 hret

end SND
