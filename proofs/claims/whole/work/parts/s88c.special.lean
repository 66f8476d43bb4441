/-! SOUNDNESS: makers called -/
section SND
variable {l : Launch} {dC : Nat → ClassId} {dI : Nat → Nat → Nat} {cA : Nat → ClassId} {sp : Int → Option Nat} {sz : Nat} {L0 : Int} {xs0 : Int → Int} {adK adV : Nat → Nat} {bs : Nat} {fm : Option Nat}
theorem sok_invokespecial {x : Nat} : SOK l dC dI cA sp sz L0 xs0 adK adV bs fm (.invokespecial x) := by
  intro d lim mi pc a b c v np L st G M Q p e R s m args below meth cc H locs ls ρ n0 Qm hC hR hS hl hvL hvS hn0 hret hd hk hen hst
  obtain ⟨hx, hb, hml, hr, hlk, hown, hnm, hts, hW, hfr, hlo, hmi, hce, hsl, hsp⟩ := id hC
  obtain ⟨hk1, hk2⟩ := Bool.and_eq_true_iff.mp hk
  have hnp : np = pc + 3 := Nat.eq_of_beq_eq_true hk1
  subst hnp
  rw [Nat.add_sub_cancel_left] at hd
  obtain ⟨as0, rest, e1, hlen, hs1⟩ := popA_inv hst
  rw [List.append_nil] at hs1
  obtain ⟨hg, hs2⟩ := gd_inv hs1
  cases h1000 : Nat.beq a 1000 with
  | true =>
    rw [h1000] at hs2
    have ha : a = 1000 := Nat.eq_of_beq_eq_true h1000
    subst ha
    have hs2 : st1 2 as0.reverse (fun j r => st0 r (gd (Nat.ble (SHk j) 12) (SX l dC dI cA sp sz L0 xs0 adK adV bs fm d lim mi (pc + 3) L rest G M Q))) := hs2
    obtain ⟨j, r, hal, hs3⟩ := st1_inv hs2
    obtain ⟨rfl, hs4⟩ := st0_inv hs3
    obtain ⟨hk12, hs5⟩ := gd_inv hs4
    have hk12 := Nat.le_of_ble_eq_true hk12
    have has : as0 = [(2, j)] := by
      have := congrArg List.reverse hal
      rw [List.reverse_reverse] at this
      exact this
    subst has
    clear hs1 hs2 hs3 hst
    subst e1
    have hvj : vd G.1 (2, j) := hvS _ (List.mem_append_left _ List.mem_cons_self)
    have hvr : ∀ v ∈ rest, vd G.1 v := fun v hv => hvS v (List.mem_append_right _ hv)
    have hrest : cat1 rest ≤ 8 := Nat.le_of_ble_eq_true hg
    obtain ⟨i, rfl, g1, g2, g3, g4, g5, g6, g7, g8⟩ := ob_at (cA := cA) (sp := sp) (ρ := ρ) (M := M) (a := SHk j) rfl (by omega) hvj
    have hw : wrd mi x = some (.methodLink (ownS mi) x Lib.objectInit) := by
      rcases Bool.or_eq_true_iff.mp hk2 with hk2 | hk2
      · rcases Bool.or_eq_true_iff.mp hk2 with hk2 | hk2
        · exact of_decide_eq_true (Bool.and_eq_true_iff.mp hk2).2
        · cases hk2
      · cases hk2
    have hsum : ((rest.map (tv sp ρ)).map fun v => v.category).sum ≤ 8 := by rw [cat1_sum]; exact hrest
    show W p l e R s m args below meth cc H locs _ _ Qm (F0 m pc ls (tv sp ρ (2, (i : Int)) :: rest.map (tv sp ρ)))
    rw [g8]
    have hrm := lv_room (m := m) (pc := pc) (ls := ls) (rest := .ref (ρ i) :: rest.map (tv sp ρ)) hsum
    refine W.objInit (idx := x) (a := ρ i) (rest := rest.map (tv sp ρ)) hx hb hown (gw_good hts hw rfl) (hts _ (gw_of (List.mem_of_getElem? (i := 28) (by decide +kernel)) rfl)) (hts _ (gw_of (List.mem_of_getElem? (i := 29) (by decide +kernel)) rfl)) rfl (by rw [hml]; exact hl.1) rfl hd (by omega) (by omega) ?_
    exact hs5 p e R s m args below meth cc H locs ls ρ n0 Qm hC hR hS hl hvL hvr hn0 hret
  | false =>
    rw [h1000] at hs2
    obtain ⟨hg2, hs2⟩ := gd_inv (show gd _ _ from hs2)
    have hga := hg
    obtain ⟨hg3, hge⟩ := Bool.and_eq_true_iff.mp hg2
    obtain ⟨hg4, hgd⟩ := Bool.and_eq_true_iff.mp hg3
    obtain ⟨hgb, hgc⟩ := Bool.and_eq_true_iff.mp hg4
    have hrest : cat1 rest ≤ 8 := Nat.le_of_ble_eq_true hga
    have ha : a < 316 := Nat.le_of_ble_eq_true hgb
    have hcat : cat1 as0.reverse ≤ myM a := Nat.le_of_ble_eq_true hgd
    have hac : G.1 + acs a ≤ lim := Nat.le_of_ble_eq_true hge
    obtain ⟨d', rfl, hX⟩ := hs2
    clear hs1 hst
    subst e1
    have hva : ∀ v ∈ as0.reverse, vd G.1 v := fun v hv => hvS v (List.mem_append_left _ (List.mem_reverse.mp hv))
    have hvr : ∀ v ∈ rest, vd G.1 v := fun v hv => hvS v (List.mem_append_right _ hv)
    rcases Bool.or_eq_true_iff.mp hk2 with hq | hk2
    · exfalso
      rcases Bool.or_eq_true_iff.mp hq with hq | hq
      · rw [(Bool.and_eq_true_iff.mp (Bool.and_eq_true_iff.mp hq).1).1] at h1000
        cases h1000
      · obtain ⟨z1, z2⟩ := Bool.and_eq_true_iff.mp hq
        rw [hgb] at z1
        cases z1
    obtain ⟨k1, k2⟩ := Bool.and_eq_true_iff.mp hk2
    obtain ⟨k3, k4⟩ := Bool.and_eq_true_iff.mp k1
    obtain ⟨k5, k6⟩ := Bool.and_eq_true_iff.mp k3
    obtain ⟨k7, k8⟩ := Bool.and_eq_true_iff.mp k5
    obtain ⟨k9, k10⟩ := Bool.and_eq_true_iff.mp k7
    obtain ⟨k11, k12⟩ := Bool.and_eq_true_iff.mp k9
    have hnp2 : nPar a = some (b - 1) := of_decide_eq_true k10
    have hRn : myR a = none := of_decide_eq_true k2
    have hni : (myY a).name = "<init>" := of_decide_eq_true k4
    have hstat : isS a = false := by rw [Bool.not_eq_true'] at k12; exact k12
    have hsy := slo_mono hn0.1
    have hmk := mokM_all a ha
    obtain ⟨hmk, hm41⟩ := Bool.and_eq_true_iff.mp hmk
    obtain ⟨hmk, hmk5⟩ := Bool.and_eq_true_iff.mp hmk
    obtain ⟨hmk, hmk4⟩ := Bool.and_eq_true_iff.mp hmk
    obtain ⟨hmk1, hmk3⟩ := Bool.and_eq_true_iff.mp hmk
    have hini : (Jvm.Cond.initialized (myY a).cls).before args s = true := hts _ (gw_of (List.mem_of_getElem? (of_decide_eq_true hmk1)) rfl)
    have hne : (myY a).cls ≠ "java/lang/invoke/MethodHandle" ∧ (myY a).cls ≠ "java/lang/invoke/VarHandle" := ⟨of_decide_eq_true hmk3, of_decide_eq_true hmk4⟩
    have hcG : Jvm.Cond.code (myY a) (myB a) (myM a) (myR a) ∈ GW := gw_of (mcu_316 a ha) rfl
    have hm41 := Nat.le_of_ble_eq_true hm41
    have hs4 := slo_mono hac
    have hs5 := slo_mono (show G.1 ≤ G.1 + acs a by omega)
    have hroom : G.1 - n0 + acs a ≤ R.cells ∧ slo G.1 - slo n0 + (slo (G.1 + acs a) - slo G.1) ≤ R.slots := ⟨by omega, by omega⟩
    have hRm : (rmD d' a G.1).frames + 1 ≤ R.frames ∧ 8 + (myM a + 11) + (rmD d' a G.1).locals ≤ R.locals := ⟨by show d' + 1 + 1 ≤ R.frames; omega, by show 8 + (myM a + 11) + 60 * (d' + 1) ≤ R.locals; omega⟩
    have hMet := met_of (l := l) (dC := dC) (dI := dI) (cA := cA) (L0 := L0) (xs0 := xs0) (sz := sz) (ρ := ρ) ha hR.2.2.2.2.2.1 hsp hva hcat hX
    obtain ⟨j, tl, hal, hkj⟩ : ∃ (j : Int) (tl : List MV), as0.reverse = (2, j) :: tl ∧ SHk j = c := by
      cases hq : as0.reverse with
      | nil => rw [hq] at hgc; cases hgc
      | cons w tl =>
        obtain ⟨t, j⟩ := w
        rw [hq] at hgc
        obtain ⟨z1, z2⟩ := Bool.and_eq_true_iff.mp (show (_ && _) = true from hgc)
        refine ⟨j, tl, ?_, Nat.eq_of_beq_eq_true z2⟩
        rw [Nat.eq_of_beq_eq_true z1]
    have hvj : vd G.1 (2, j) := hva _ (by rw [hal]; exact List.mem_cons_self)
    have has : as0 = tl.reverse ++ [(2, j)] := by
      have := congrArg List.reverse hal
      rw [List.reverse_reverse] at this
      rw [this]
      simp
    have htl : tl.length = b - 1 := by
      have := congrArg List.length has
      simp at this
      omega
    rw [hstat] at hmk5
    obtain ⟨m1, m2⟩ := Bool.and_eq_true_iff.mp (show (_ && _) = true from hmk5)
    have hinst : (Jvm.Cond.instanceMethod (myY a)).before args s = true := hts _ (gw_of (List.mem_of_getElem? (of_decide_eq_true m1)) rfl)
    obtain ⟨adr, hadr⟩ : ∃ adr : Nat, tv sp ρ (2, j) = .ref adr := by
      by_cases hj0 : 0 < j
      · refine ⟨ρ j.toNat, ?_⟩
        rw [tv_2]
        unfold rvO
        rw [if_pos hj0]
        rfl
      · exfalso
        have hc13 := init_c hmi hen h1000
        obtain ⟨i, hji, -, hi2, -⟩ := SHk_pos hkj (by omega)
        omega
    have estk : (as0 ++ rest).map (tv sp ρ) = (tl.map (tv sp ρ)).reverse ++ .ref adr :: rest.map (tv sp ρ) := by
      rw [has, List.map_append, List.map_append, List.map_reverse, List.map_cons, hadr]
      simp
    have eargs : (Value.ref adr :: tl.map (tv sp ρ)).toArray = (as0.reverse.map (tv sp ρ)).toArray := by rw [hal, List.map_cons, hadr]
    have hPS : PreS s H (va_Pc (as0.reverse.map (tv sp ρ)) (fun U => WX dC dI cA sz L0 xs0 adK adV bs fm U ∧ RL dC dI cA sp sz L0 xs0 ρ G M U.heap)) (.ref adr :: tl.map (tv sp ρ)) := ⟨fun a U g mk q => ⟨q.1, WX_same (u := U) (U := U.calling g mk a) rfl rfl q.2.1, q.2.2⟩, (fun U hU hW1 => ⟨eargs, WX_warm hW1 hU hS hW, by rw [hU]; exact hR⟩)⟩
    have hsum : ((rest.map (tv sp ρ)).map fun v => v.category).sum ≤ 8 := by rw [cat1_sum]; exact hrest
    have hcw : Jvm.Cond.code (myY a) (myB a) (myM a) (myR a) :: GW = Jvm.Cond.code (myY a) (myB a) (myM a) none :: GW := by rw [hRn]
    rcases Bool.or_eq_true_iff.mp k6 with hw | hw
    · have hw := of_decide_eq_true hw
      refine call_go (st0 := (as0 ++ rest).map (tv sp ρ)) (rest := rest) (ar := (Value.ref adr :: tl.map (tv sp ρ)).toArray) hC hS hl hvL hvr hn0 hac hret ?_
      exact va_runI (As := tl.map (tv sp ρ)) (rest := rest.map (tv sp ρ)) (nL := myM mi) ⟨hx, hb, hml, hown, hts⟩ hMet ⟨callB_of (b - 1) hts (gw_goodIn hcG) hcw rfl rfl hini (gw_good hts hw rfl) ⟨hne.1, hne.2, hnp2⟩ hRm, hni, hinst⟩ hPS rfl (by simp [htl]) hl.1 estk (lv_room hsum) hd hroom
    · have hw := of_decide_eq_true hw
      refine call_go (st0 := (as0 ++ rest).map (tv sp ρ)) (rest := rest) (ar := (Value.ref adr :: tl.map (tv sp ρ)).toArray) hC hS hl hvL hvr hn0 hac hret ?_
      exact va_runIN (As := tl.map (tv sp ρ)) (rest := rest.map (tv sp ρ)) (nL := myM mi) ⟨hx, hb, hml, hown, hts⟩ hMet ⟨va_cnB (b - 1) hts (gw_goodIn hcG) hcw rfl rfl (hW.2.1 _ (List.mem_of_getElem? hw) rfl) hini ⟨hne.1, hne.2, hnp2⟩ hRm, hni, hinst⟩ hPS rfl (by simp [htl]) hl.1 estk (lv_room hsum) hd hroom

end SND
