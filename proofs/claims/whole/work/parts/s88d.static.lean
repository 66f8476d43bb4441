/-! SOUNDNESS: calls without a receiver, copies -/
section SND
variable {l : Launch} {dC : Nat → ClassId} {dI : Nat → Nat → Nat} {cA : Nat → ClassId} {sp : Int → Option Nat} {sz : Nat} {L0 : Int} {xs0 : Int → Int} {adK adV : Nat → Nat} {bs : Nat} {fm : Option Nat}
theorem sok_invokestatic {x : Nat} : SOK l dC dI cA sp sz L0 xs0 adK adV bs fm (.invokestatic x) := by
  intro d lim mi pc a b c v np L st G M Q p e R s m args below meth cc H locs ls ρ n0 Qm hC hR hS hl hvL hvS hn0 hret hd hk hen hst
  obtain ⟨hx, hb, hml, hr, hlk, hown, hnm, hts, hW, hfr, hlo, hmi, hce, hsl, hsp⟩ := id hC
  obtain ⟨hk1, hk2⟩ := Bool.and_eq_true_iff.mp hk
  have hnp : np = pc + 3 := Nat.eq_of_beq_eq_true hk1
  subst hnp
  rw [Nat.add_sub_cancel_left] at hd
  cases h1001 : Nat.beq a 1001 with
  | true =>
    have ha : a = 1001 := Nat.eq_of_beq_eq_true h1001
    subst ha
    have hst : st1 0 st (fun n r => st1 0 r fun dp r => st1 2 r fun d1 r => st1 0 r fun sp1 r => st1 2 r fun s1 r => gd (Nat.ble (cat1 r) 8 && Nat.beq (SHk s1) 13 && Nat.beq (SHk d1) 13) ((¬ s1 = d1 ∧ 0 ≤ sp1 ∧ 0 ≤ dp ∧ 0 ≤ n ∧ sp1 + n ≤ SHl s1 ∧ dp + n ≤ SHl d1) ∧ SX l dC dI cA sp sz L0 xs0 adK adV bs fm d lim mi (pc + 3) L r G (cpy2 M s1 sp1 d1 dp n) Q)) := hst
    obtain ⟨n, r1, e1, hs1⟩ := st1_inv hst
    obtain ⟨dp, r2, e2, hs2⟩ := st1_inv hs1
    obtain ⟨d1, r3, e3, hs3⟩ := st1_inv hs2
    obtain ⟨sp1, r4, e4, hs4⟩ := st1_inv hs3
    obtain ⟨s1, r, e5, hs5⟩ := st1_inv hs4
    clear hst hs1 hs2 hs3 hs4
    subst e5 e4 e3 e2 e1
    obtain ⟨hg, ⟨hne, h1, h2, h3, h4, h5⟩, hs6⟩ := gd_inv hs5
    obtain ⟨hg1, hg2⟩ := Bool.and_eq_true_iff.mp hg
    obtain ⟨hg3, hg4⟩ := Bool.and_eq_true_iff.mp hg1
    have hrest : cat1 r ≤ 8 := Nat.le_of_ble_eq_true hg3
    have hsk : SHk s1 = 13 := Nat.eq_of_beq_eq_true hg4
    have hdk : SHk d1 = 13 := Nat.eq_of_beq_eq_true hg2
    have hvd1 := vd_h (vd_t (vd_t hvS))
    have hvs1 := vd_h (vd_t (vd_t (vd_t (vd_t hvS))))
    have hvr := vd_t (vd_t (vd_t (vd_t (vd_t hvS))))
    obtain ⟨i, rfl, g1, g2, g3, g4, g5, g6⟩ := ar_at (cA := cA) (sp := sp) (ρ := ρ) (M := M) hsk ⟨by omega, by omega⟩ hvs1
    obtain ⟨q, rfl, k1, k2', k3, k4, k5, k6⟩ := ar_at (cA := cA) (sp := sp) (ρ := ρ) (M := M) hdk ⟨by omega, by omega⟩ hvd1
    rw [cel_i g1 (Or.inl rfl)] at g5
    rw [cel_i k1 (Or.inl rfl)] at k5
    have hle1 := shm_le i g3
    have hle2 := shm_le q k3
    rw [SHl_of] at h4 h5
    have hw : wrd mi x = some (.methodLink (ownS mi) x arraycopyName) := by
      rcases Bool.or_eq_true_iff.mp hk2 with hk2 | hk2
      · rcases Bool.or_eq_true_iff.mp hk2 with hk2 | hk2
        · exact of_decide_eq_true (Bool.and_eq_true_iff.mp hk2).2
        · cases hk2
      · cases hk2
    have hsum : ((r.map (tv sp ρ)).map fun v => v.category).sum ≤ 8 := by rw [cat1_sum]; exact hrest
    have t1 : (Int32.ofInt sp1).toNatClampNeg = sp1.toNat := o32_nat h1 (by omega)
    have t2 : (Int32.ofInt dp).toNatClampNeg = dp.toNat := o32_nat h2 (by omega)
    have t3 : (Int32.ofInt n).toNatClampNeg = n.toNat := o32_nat h3 (by omega)
    have neg : ∀ y : Int, 0 ≤ y → y < 2147483648 → ¬ Int32.ofInt y < 0 := fun y a b => by
      rw [o32_0, o32_lt ⟨by omega, b⟩ r32_0]
      omega
    show W p l e R s m args below meth cc H locs _ _ Qm (F0 m pc ls (.int (Int32.ofInt n) :: .int (Int32.ofInt dp) :: tv sp ρ (2, (q : Int)) :: .int (Int32.ofInt sp1) :: tv sp ρ (2, (i : Int)) :: r.map (tv sp ρ)))
    rw [g6, k6]
    refine va_copyi (D := (dC, dI)) (A := AA sz) (H0 := s.heap) (ty := .int) hx hb (by rw [hml]; exact hl.1.symm) hown (gw_good hts hw rfl) (hts _ (gw_of (List.mem_of_getElem? (i := 704) (by decide +kernel)) rfl)) (hts _ (gw_of (List.mem_of_getElem? (i := 703) (by decide +kernel)) rfl)) (hts _ (gw_of (List.mem_of_getElem? (i := 21) (by decide +kernel)) rfl)) hW.1 hR.1 hR.2.1 hS (idxO i - 2) (idxO q - 2) 0 0 g5 k5 rfl rfl rfl (neg sp1 h1 (by omega)) (neg dp h2 (by omega)) (neg n h3 (by omega)) (by rw [t1, t3]; omega) (by rw [t2, t3]; omega) (fun _ _ => rfl) (by omega) (by show _ + (7 + 11) ≤ R.locals; omega) hd (fun H1 locs1 hP1 hD1 hS1 => ?_)
    rw [t1, t2, t3] at hP1 hD1
    have ec : ∀ (a b : Int), ¬ a = (q : Int) → cpy2 M (i : Int) sp1 (q : Int) dp n a b = M a b := fun a b h => if_neg (fun z => h z.1)
    have ew : wl cA sp ρ G (cpy2 M (i : Int) sp1 (q : Int) dp n) = (wl cA sp ρ G M).set (idxO q - 2) (ρ q, .inl (cA 13, SHm q, .inl (va_cpy (fun z => Int32.ofInt (M (i : Int) z)) (fun z => Int32.ofInt (M (q : Int) z)) sp1.toNat dp.toNat n.toNat))) := by
      rw [wl_set (G := G) (M := M) k2' rfl (fun z _ hz => by unfold cel fvl; simp only [ec (z : Int) _ (by omega)]), cel_i k1 (Or.inl rfl)]
      refine congrArg (fun z => (wl cA sp ρ G M).set (idxO q - 2) (ρ q, z)) ?_
      refine congrArg (fun z : Nat → Int32 => (Sum.inl (cA 13, SHm q, Sum.inl z) : va_E)) (funext fun z => ?_)
      unfold va_cpy cpy2
      by_cases hz : dp.toNat ≤ z ∧ z < dp.toNat + n.toNat
      · rw [if_pos hz, if_pos ⟨rfl, by omega, by omega⟩, show sp1 + ((z : Int) - dp) = ((sp1.toNat + (z - dp.toNat) : Nat) : Int) by omega]
      · rw [if_neg hz, if_neg (fun y => hz (by omega))]
    rw [← ew] at hP1 hD1
    have hmv : mvd G (cpy2 M (i : Int) sp1 (q : Int) dp n) := by
      intro j a1 a2 k a3
      have a4 := hR.2.2.1 j a1 a2 k a3
      by_cases hj : j = q
      · subst hj
        have a5 : r32 (cpy2 M (i : Int) sp1 (j : Int) dp n (j : Int) (k : Int)) := by
          unfold cpy2
          split
          · rename_i hz
            have a6 := hR.2.2.1 i g2 g4 (sp1 + ((k : Int) - dp)).toNat (by omega)
            rw [show (((sp1 + ((k : Int) - dp)).toNat : Nat) : Int) = sp1 + ((k : Int) - dp) by omega] at a6
            exact a6.2.1 (Or.inl g1)
          · exact a4.2.1 (Or.inl k1)
        exact ⟨fun z => absurd z (by omega), fun _ => a5, fun z => absurd z (by omega), fun z => absurd z (by omega)⟩
      · rw [ec _ _ (by omega)]
        exact a4
    refine hs6 p e R s m args below meth cc H1 locs1 ls ρ n0 Qm hC ⟨hP1, hD1, hmv, by rw [ec _ _ (by omega)]; exact hR.2.2.2.1, fun k => by rw [ec _ _ (by omega)]; exact hR.2.2.2.2.1 k, hR.2.2.2.2.2.1, hR.2.2.2.2.2.2.1, hR.2.2.2.2.2.2.2.1, fun j a1 a2 a3 k => ?_⟩ hS1 hl hvL hvr hn0 hret
    have hj : ¬ j = q := fun z => by
      rw [z] at a3
      omega
    rw [ec _ _ (by omega)]
    exact hR.2.2.2.2.2.2.2.2 j a1 a2 a3 k
  | false =>
    have hst : (bif Nat.beq a 1001 then _ else popA b st [] fun as rest => gd (Nat.ble (cat1 rest) 8 && Nat.blt a 316 && Nat.ble (cat1 as) (myM a) && Nat.ble (G.1 + acs a) lim) (callX (SX l dC dI cA sp sz L0 xs0 adK adV bs fm) d a as G M (fun r G' M' => SX l dC dI cA sp sz L0 xs0 adK adV bs fm d lim mi (pc + 3) L (psh r rest) G' M' Q))) := hst
    rw [h1001] at hst
    have hst : popA b st [] (fun as rest => gd (Nat.ble (cat1 rest) 8 && Nat.blt a 316 && Nat.ble (cat1 as) (myM a) && Nat.ble (G.1 + acs a) lim) (callX (SX l dC dI cA sp sz L0 xs0 adK adV bs fm) d a as G M (fun r G' M' => SX l dC dI cA sp sz L0 xs0 adK adV bs fm d lim mi (pc + 3) L (psh r rest) G' M' Q))) := hst
    obtain ⟨as0, rest, e1, hlen, hs1⟩ := popA_inv hst
    rw [List.append_nil] at hs1
    obtain ⟨hg, hs2⟩ := gd_inv hs1
    obtain ⟨hg3, hge⟩ := Bool.and_eq_true_iff.mp hg
    obtain ⟨hg2, hgd⟩ := Bool.and_eq_true_iff.mp hg3
    obtain ⟨hga, hgb⟩ := Bool.and_eq_true_iff.mp hg2
    have hrest : cat1 rest ≤ 8 := Nat.le_of_ble_eq_true hga
    have ha : a < 316 := Nat.le_of_ble_eq_true hgb
    have hcat : cat1 as0.reverse ≤ myM a := Nat.le_of_ble_eq_true hgd
    have hac : G.1 + acs a ≤ lim := Nat.le_of_ble_eq_true hge
    obtain ⟨d', rfl, hX⟩ := hs2
    clear hs1 hst
    subst e1
    have hva : ∀ v ∈ as0.reverse, vd G.1 v := fun v hv => hvS v (List.mem_append_left _ (List.mem_reverse.mp hv))
    have hvr : ∀ v ∈ rest, vd G.1 v := fun v hv => hvS v (List.mem_append_right _ hv)
    rcases Bool.or_eq_true_iff.mp hk2 with hq | hk2
    · exfalso
      rcases Bool.or_eq_true_iff.mp hq with hq | hq
      · rw [(Bool.and_eq_true_iff.mp hq).1] at h1001
        cases h1001
      · obtain ⟨z1, z2⟩ := Bool.and_eq_true_iff.mp hq
        rw [hgb] at z1
        cases z1
    obtain ⟨k1, k2⟩ := Bool.and_eq_true_iff.mp hk2
    obtain ⟨k3, k4⟩ := Bool.and_eq_true_iff.mp k1
    obtain ⟨k5, k6⟩ := Bool.and_eq_true_iff.mp k3
    have hnp2 : nPar a = some b := of_decide_eq_true k4
    have hsy := slo_mono hn0.1
    have hmk := mokM_all a ha
    obtain ⟨hmk, hm41⟩ := Bool.and_eq_true_iff.mp hmk
    obtain ⟨hmk, hmk5⟩ := Bool.and_eq_true_iff.mp hmk
    obtain ⟨hmk, hmk4⟩ := Bool.and_eq_true_iff.mp hmk
    obtain ⟨hmk1, hmk3⟩ := Bool.and_eq_true_iff.mp hmk
    have hini : (Jvm.Cond.initialized (myY a).cls).before args s = true := hts _ (gw_of (List.mem_of_getElem? (of_decide_eq_true hmk1)) rfl)
    have hne : (myY a).cls ≠ "java/lang/invoke/MethodHandle" ∧ (myY a).cls ≠ "java/lang/invoke/VarHandle" := ⟨of_decide_eq_true hmk3, of_decide_eq_true hmk4⟩
    have hcG : Jvm.Cond.code (myY a) (myB a) (myM a) (myR a) ∈ GW := gw_of (mcu_316 a ha) rfl
    have hm41 := Nat.le_of_ble_eq_true hm41
    have hs4 := slo_mono hac
    have hs5 := slo_mono (show G.1 ≤ G.1 + acs a by omega)
    have hroom : G.1 - n0 + acs a ≤ R.cells ∧ slo G.1 - slo n0 + (slo (G.1 + acs a) - slo G.1) ≤ R.slots := ⟨by omega, by omega⟩
    have hRm : (rmD d' a G.1).frames + 1 ≤ R.frames ∧ 8 + (myM a + 11) + (rmD d' a G.1).locals ≤ R.locals := ⟨by show d' + 1 + 1 ≤ R.frames; omega, by show 8 + (myM a + 11) + 60 * (d' + 1) ≤ R.locals; omega⟩
    have hMet := met_of (l := l) (dC := dC) (dI := dI) (cA := cA) (L0 := L0) (xs0 := xs0) (sz := sz) (ρ := ρ) ha hR.2.2.2.2.2.1 hsp hva hcat hX
    rw [k6] at hmk5
    have hstt : (Jvm.Cond.static (myY a)).before args s = true := hts _ (gw_of (List.mem_of_getElem? (of_decide_eq_true hmk5)) rfl)
    have estk : (as0 ++ rest).map (tv sp ρ) = (as0.reverse.map (tv sp ρ)).reverse ++ rest.map (tv sp ρ) := by
      rw [List.map_append, List.map_reverse, List.reverse_reverse]
    have hPS : PreS s H (va_Pc (as0.reverse.map (tv sp ρ)) (fun U => WX dC dI cA sz L0 xs0 adK adV bs fm U ∧ RL dC dI cA sp sz L0 xs0 ρ G M U.heap)) (as0.reverse.map (tv sp ρ)) := ⟨fun a U g mk q => ⟨q.1, WX_same (u := U) (U := U.calling g mk a) rfl rfl q.2.1, q.2.2⟩, (fun U hU hW1 => ⟨rfl, WX_warm hW1 hU hS hW, by rw [hU]; exact hR⟩)⟩
    have hsum : ((rest.map (tv sp ρ)).map fun v => v.category).sum ≤ 8 := by rw [cat1_sum]; exact hrest
    rcases Bool.or_eq_true_iff.mp k2 with hw | hw
    · have hw := of_decide_eq_true hw
      refine call_go (st0 := (as0 ++ rest).map (tv sp ρ)) (rest := rest) (ar := (as0.reverse.map (tv sp ρ)).toArray) hC hS hl hvL hvr hn0 hac hret ?_
      exact va_runS (As := as0.reverse.map (tv sp ρ)) (rest := rest.map (tv sp ρ)) (nL := myM mi) ⟨hx, hb, hml, hown, hts⟩ hMet ⟨callB_of b hts (gw_goodIn hcG) rfl rfl rfl hini (gw_good hts hw rfl) ⟨hne.1, hne.2, hnp2⟩ hRm, hstt⟩ hPS rfl (by simp [hlen]) hl.1 estk (lv_room hsum) hd hroom
    · have hw := of_decide_eq_true hw
      refine call_go (st0 := (as0 ++ rest).map (tv sp ρ)) (rest := rest) (ar := (as0.reverse.map (tv sp ρ)).toArray) hC hS hl hvL hvr hn0 hac hret ?_
      exact va_runSN (As := as0.reverse.map (tv sp ρ)) (rest := rest.map (tv sp ρ)) (nL := myM mi) ⟨hx, hb, hml, hown, hts⟩ hMet ⟨va_cnB b hts (gw_goodIn hcG) rfl rfl rfl (hW.2.1 _ (List.mem_of_getElem? hw) rfl) hini ⟨hne.1, hne.2, hnp2⟩ hRm, hstt, trivial⟩ hPS rfl (by simp [hlen]) hl.1 estk (lv_room hsum) hd hroom

end SND
