/-! SOUNDNESS: what is made -/
section NEW
variable {l : Launch} {dC : Nat → ClassId} {dI : Nat → Nat → Nat} {cA : Nat → ClassId} {sp : Int → Option Nat} {sz : Nat} {L0 : Int} {xs0 : Int → Int} {adK adV : Nat → Nat} {bs : Nat} {fm : Option Nat} {ρ : Nat → Nat} {G : GG} {M : Mm} {H : Heap}
def nmR (ρ : Nat → Nat) (n q : Nat) : Nat → Nat := fun j => if j = n then q else ρ j
theorem nmR_lt {n q j : Nat} (h : idxO j < n) (h2 : 2 ≤ n) : nmR ρ (numO n) q j = ρ j := if_neg (fun e => by rw [e, idx_num h2] at h; omega)
theorem nmR_eq {n q : Nat} : nmR ρ n q n = q := if_pos rfl
theorem upR_ne {f : Int → Int} {a b n : Int} (h : ¬ a = n) : upR M n f a b = M a b := if_neg h
theorem upR_eq {f : Int → Int} {b n : Int} : upR M n f n b = f b := if_pos rfl
theorem nthR_sn {l : List (List Int)} {x : List Int} {a j : Nat} (h : ¬ j = a) : nthR (l.set a x) j = nthR l j := by
  rw [nthR_eq, nthR_eq, List.getElem?_set_ne (fun e => h e.symm)]
theorem nthR_se {l : List (List Int)} {x : List Int} {a : Nat} (h : a < l.length) : nthR (l.set a x) a = x := by
  rw [nthR_eq, List.getElem?_set_self h]
  rfl
theorem num_off {n j : Nat} (h2 : 2 ≤ n) (h : idxO j < n) : ¬ j = numO n := fun e => by
  rw [e, idx_num h2] at h
  omega
theorem cel_old {row : List Int} {q j : Nat} (hR : RL dC dI cA sp sz L0 xs0 ρ G M H) (h2 : idxO j < G.1) (h1 : 1 ≤ j) : cel cA sp (nmR ρ (numO G.1) q) (G.1 + 1, G.2.set (numO G.1) row) (upR M ((numO G.1 : Nat) : Int) fun _ => 0) j = cel cA sp ρ G M j := by
  have hg2 := hR.2.2.2.2.2.1
  have hne := num_off hg2 h2
  have eM : ∀ k : Int, upR M ((numO G.1 : Nat) : Int) (fun _ => 0) (j : Int) k = M (j : Int) k := fun k => upR_ne (by omega)
  have eG : ∀ k : Nat, GL (G.1 + 1, G.2.set (numO G.1) row) (j : Int) k = GL G (j : Int) k := fun k => by
    rw [GL_nat, GL_nat]
    show nth0 (nthR (G.2.set (numO G.1) row) j) k = _
    rw [nthR_sn hne]
  have hm := hR.2.2.1 j h1 h2
  unfold cel
  by_cases k1 : SHn j < 13
  · rw [if_pos k1, if_pos k1]
    refine congrArg (fun z => (Sum.inr (SHn j, z) : va_E)) (List.map_congr_left fun k hk => ?_)
    have hk := List.mem_range.mp hk
    have hq := (hm k hk).1 k1
    unfold fvl
    rw [eG, eM]
    split
    · rw [rvO_ext (fun i hi => nmR_lt hi hg2) (hq.1 (by assumption))]
    · split
      · rw [rvO_ext (fun i hi => nmR_lt hi hg2) (hq.2.1 (by assumption))]
      · rfl
  · rw [if_neg k1, if_neg k1]
    simp only [eM]
    split
    · rfl
    · split
      · rfl
      · refine congrArg (fun z : Nat → Option Nat => (Sum.inl (cA (SHn j), SHm j, Sum.inr (Sum.inr (Sum.inr (Sum.inr z)))) : va_E)) (funext fun k => ?_)
        exact rvO_ext (fun i hi => nmR_lt hi hg2) (hR.2.2.2.2.2.2.2.2 j h1 h2 (by omega) k)
theorem wl_new {row : List Int} {q : Nat} (hR : RL dC dI cA sp sz L0 xs0 ρ G M H) : wl cA sp (nmR ρ (numO G.1) q) (G.1 + 1, G.2.set (numO G.1) row) (upR M ((numO G.1 : Nat) : Int) fun _ => 0) = wl cA sp ρ G M ++ [(q, cel cA sp (nmR ρ (numO G.1) q) (G.1 + 1, G.2.set (numO G.1) row) (upR M ((numO G.1 : Nat) : Int) fun _ => 0) (numO G.1))] := by
  have h2 := hR.2.2.2.2.2.1
  unfold wl
  show (List.range (G.1 + 1 - 2)).map _ = _
  rw [show G.1 + 1 - 2 = (G.1 - 2) + 1 by omega, List.range_succ, List.map_append, List.map_cons, List.map_nil, show G.1 - 2 + 2 = G.1 by omega, nmR_eq]
  refine congrArg (· ++ _) (List.map_congr_left fun i hi => ?_)
  have hi := List.mem_range.mp hi
  have e := idx_num (show 2 ≤ i + 2 by omega)
  rw [nmR_lt (by omega) h2, cel_old hR (by omega) (num_1 (by omega))]
theorem RL_new {row : List Int} {q : Nat} {H1 : Heap} (hR : RL dC dI cA sp sz L0 xs0 ρ G M H) (hn : numO G.1 < 116) (hrow : SHn (numO G.1) < 13 → row.length = SHm (numO G.1)) (hz : ∀ k, nth0 row k = 0)
    (hP1 : va_P (dC, dI) vwCl (wl cA sp ρ G M ++ [(q, cel cA sp (nmR ρ (numO G.1) q) (G.1 + 1, G.2.set (numO G.1) row) (upR M ((numO G.1 : Nat) : Int) fun _ => 0) (numO G.1))]) H1) (hD1 : va_D (AA sz) (wl cA sp ρ G M ++ [(q, cel cA sp (nmR ρ (numO G.1) q) (G.1 + 1, G.2.set (numO G.1) row) (upR M ((numO G.1 : Nat) : Int) fun _ => 0) (numO G.1))])) :
    RL dC dI cA sp sz L0 xs0 (nmR ρ (numO G.1) q) (G.1 + 1, G.2.set (numO G.1) row) (upR M ((numO G.1 : Nat) : Int) fun _ => 0) H1 := by
  have h2 := hR.2.2.2.2.2.1
  have hlen := hR.2.2.2.2.2.2.1
  have hn1 := num_1 h2
  have old : ∀ j : Nat, 1 ≤ j → idxO j < G.1 + 1 → ¬ j = numO G.1 → idxO j < G.1 := fun j h1 h3 hj => by
    have : ¬ idxO j = G.1 := fun e => hj (by rw [← e, num_idx h1])
    omega
  refine ⟨by rw [wl_new hR]; exact hP1, by rw [wl_new hR]; exact hD1, ?_, by rw [upR_ne (by omega)]; exact hR.2.2.2.1, fun k => by rw [upR_ne (by omega)]; exact hR.2.2.2.2.1 k, by show 2 ≤ G.1 + 1; omega, by show (G.2.set (numO G.1) row).length = 116; rw [List.length_set]; exact hlen, ?_, ?_⟩
  · intro j h1 h3 k h4
    have h3 : idxO j < G.1 + 1 := h3
    by_cases hj : j = numO G.1
    · subst hj
      rw [upR_eq]
      have e : GL (G.1 + 1, G.2.set (numO G.1) row) ((numO G.1 : Nat) : Int) k = 0 := by
        rw [GL_nat]
        show nth0 (nthR (G.2.set (numO G.1) row) (numO G.1)) k = 0
        rw [nthR_se (by rw [hlen]; exact hn)]
        exact hz k
      rw [e]
      have z : idxI 0 < ((G.1 + 1 : Nat) : Int) := by rw [idxI_neg (by omega)]; omega
      exact ⟨fun _ => ⟨fun _ => z, fun _ => z, fun _ _ => r32_0⟩, fun _ => r32_0, fun _ => ⟨by omega, by omega⟩, fun _ => z⟩
    · have h5 := hR.2.2.1 j h1 (old j h1 h3 hj) k h4
      rw [upR_ne (by omega)]
      have e : GL (G.1 + 1, G.2.set (numO G.1) row) (j : Int) k = GL G (j : Int) k := by
        rw [GL_nat, GL_nat]
        show nth0 (nthR (G.2.set (numO G.1) row) j) k = _
        rw [nthR_sn hj]
      rw [e]
      have z : ∀ x : Int, x < (G.1 : Int) → x < ((G.1 + 1 : Nat) : Int) := fun x h => by omega
      exact ⟨fun q => ⟨fun c => z _ ((h5.1 q).1 c), fun c => z _ ((h5.1 q).2.1 c), (h5.1 q).2.2⟩, h5.2.1, h5.2.2.1, fun q => z _ (h5.2.2.2 q)⟩
  · intro j h1 h3 h4
    have h3 : idxO j < G.1 + 1 := h3
    show (nthR (G.2.set (numO G.1) row) j).length = SHm j
    by_cases hj : j = numO G.1
    · subst hj
      rw [nthR_se (by rw [hlen]; exact hn)]
      exact hrow h4
    · rw [nthR_sn hj]
      exact hR.2.2.2.2.2.2.2.1 j h1 (old j h1 h3 hj) h4
  · intro j h1 h3 h4 k
    have h3 : idxO j < G.1 + 1 := h3
    show _ < ((G.1 + 1 : Nat) : Int)
    by_cases hj : j = numO G.1
    · subst hj
      have e : upR M ((numO G.1 : Nat) : Int) (fun _ => 0) ((numO G.1 : Nat) : Int) (k : Int) = 0 := upR_eq
      rw [e, idxI_neg (by omega)]
      omega
    · rw [upR_ne (by omega)]
      have := hR.2.2.2.2.2.2.2.2 j h1 (old j h1 h3 hj) h4 k
      omega
theorem RET_ext {Q : Po} {ρ' : Nat → Nat} {n0 : Nat} {p : Program} {e : Env} {R : Room} {s : State} {m : MethodId} {args : Array Value} {below : List Frame} {meth : Method} {c : Code} {mi : Nat} {Qm : State → Prop} (h : ∀ j, idxO j < n0 → ρ' j = ρ j) (hr : RET l dC dI cA sp sz L0 xs0 Q ρ n0 p e R s m args below meth c mi Qm) : RET l dC dI cA sp sz L0 xs0 Q ρ' n0 p e R s m args below meth c mi Qm :=
  ⟨fun x G' M' r' H' lo pc ls h1 h2 h3 h4 h5 h6 h7 h8 => hr.1 x G' M' r' H' lo pc ls h1 h2 h3 h4 (fun j hj => (h5 j hj).trans (h j hj)) h6 h7 h8, fun x G' M' r' H' lo pc ls h1 h2 h3 h4 h5 h6 h7 h8 => hr.2.1 x G' M' r' H' lo pc ls h1 h2 h3 h4 (fun j hj => (h5 j hj).trans (h j hj)) h6 h7 h8, fun G' M' r' H' lo pc ls h1 h3 h4 h5 h6 h7 h8 => hr.2.2 G' M' r' H' lo pc ls h1 h3 h4 (fun j hj => (h5 j hj).trans (h j hj)) h6 h7 h8⟩
theorem map_ext {ρ' : Nat → Nat} {n : Nat} (h : ∀ j, idxO j < n → ρ' j = ρ j) {L : Lc} (hv : ∀ q ∈ L, vd n q.2) : (L.map fun q => (q.1, tv sp ρ' q.2)) = L.map fun q => (q.1, tv sp ρ q.2) := List.map_congr_left fun q hq => by rw [tv_ext h (hv q hq)]
theorem map_ext2 {ρ' : Nat → Nat} {n : Nat} (h : ∀ j, idxO j < n → ρ' j = ρ j) {st : List MV} (hv : ∀ v ∈ st, vd n v) : st.map (tv sp ρ') = st.map (tv sp ρ) := List.map_congr_left fun q hq => tv_ext h (hv q hq)
/-- behind a making: the run goes on -/
theorem new_go {row : List Int} {q d lim mi np n0 : Nat} {L : Lc} {st : List MV} {Q : Po} {p : Program} {e : Env} {R : Room} {s : State} {m : MethodId} {args : Array Value} {below : List Frame} {meth : Method} {cc : Code} {H1 : Heap} {locs : List Loc} {ls : Array Slot} {Qm : State → Prop} {E : va_E}
    (hC : CXT dC dI cA sp sz L0 xs0 adK adV bs fm p R s m args meth cc d lim mi n0) (hR : RL dC dI cA sp sz L0 xs0 ρ G M H) (hl : lv_has ls (myM mi) (L.map fun q => (q.1, tv sp ρ q.2))) (hvL : ∀ q ∈ L, vd G.1 q.2) (hvS : ∀ v ∈ st, vd G.1 v) (hn0 : n0 ≤ G.1 ∧ G.1 ≤ lim) (hlim : G.1 < lim) (hn : numO G.1 < 116)
    (hret : RET l dC dI cA sp sz L0 xs0 Q ρ n0 p e R s m args below meth cc mi Qm) (hrow : SHn (numO G.1) < 13 → row.length = SHm (numO G.1)) (hz : ∀ k, nth0 row k = 0)
    (hE : cel cA sp (nmR ρ (numO G.1) q) (G.1 + 1, G.2.set (numO G.1) row) (upR M ((numO G.1 : Nat) : Int) fun _ => 0) (numO G.1) = E) (hP1 : va_P (dC, dI) vwCl (wl cA sp ρ G M ++ [(q, E)]) H1) (hD1 : va_D (AA sz) (wl cA sp ρ G M ++ [(q, E)])) (hS1 : va_S (AA sz) s.heap H1 locs)
    (hst : SX l dC dI cA sp sz L0 xs0 adK adV bs fm d lim mi np L ((2, ((numO G.1 : Nat) : Int)) :: st) (G.1 + 1, G.2.set (numO G.1) row) (upR M ((numO G.1 : Nat) : Int) fun _ => 0) Q) :
    W p l e R s m args below meth cc H1 locs (G.1 - n0 + 1) (slo G.1 - slo n0 + SHm (numO G.1)) Qm (F0 m np ls (.ref q :: st.map (tv sp ρ))) := by
  have h2 := hR.2.2.2.2.2.1
  have hx : ∀ j, idxO j < G.1 → nmR ρ (numO G.1) q j = ρ j := fun j hj => nmR_lt hj h2
  subst hE
  have hs := slo_mono hn0.1
  rw [show G.1 - n0 + 1 = G.1 + 1 - n0 by omega, show slo G.1 - slo n0 + SHm (numO G.1) = slo (G.1 + 1) - slo n0 by show _ = slo G.1 + SHm (numO G.1) - slo n0; omega]
  have e1 : Value.ref q = tv sp (nmR ρ (numO G.1) q) (2, ((numO G.1 : Nat) : Int)) := by rw [tv_ref (num_1 h2), nmR_eq]
  rw [e1, ← map_ext2 hx hvS]
  exact hst p e R s m args below meth cc H1 locs ls (nmR ρ (numO G.1) q) n0 Qm hC (RL_new hR hn hrow hz hP1 hD1) hS1 (by rw [map_ext hx hvL]; exact hl) (fun w hw => vd_up (Nat.le_succ _) (hvL w hw)) (vd_c (vd_2 (by rw [idxI_nat, idx_num h2]; show (G.1 : Int) < ((G.1 + 1 : Nat) : Int); omega)) (fun w hw => vd_up (Nat.le_succ _) (hvS w hw))) ⟨by show n0 ≤ G.1 + 1; omega, by show G.1 + 1 ≤ lim; omega⟩ (RET_ext (fun j hj => nmR_lt (by omega) h2) hret)
end NEW
theorem nth0_rep {n k : Nat} : nth0 (List.replicate n 0) k = 0 := by
  rw [nth0_eq, List.getElem?_replicate]
  split <;> rfl
theorem arr_same {cA cB : ClassId} {ty : FieldType} {U : State} (h1 : va_RA U cA ty) (h2 : va_RA U cB ty) : cA = cB := by
  cases ty with
  | object C =>
    obtain ⟨_, _, _, _, _, h⟩ := h1
    obtain ⟨_, _, _, _, _, h'⟩ := h2
    exact Option.some.inj (h.symm.trans h')
  | _ => exact Option.some.inj ((show U.vm.findClass _ = some cA from h1).symm.trans h2)
section SND
variable {l : Launch} {dC : Nat → ClassId} {dI : Nat → Nat → Nat} {cA : Nat → ClassId} {sp : Int → Option Nat} {sz : Nat} {L0 : Int} {xs0 : Int → Int} {adK adV : Nat → Nat} {bs : Nat} {fm : Option Nat}
theorem sok_new {x : Nat} : SOK l dC dI cA sp sz L0 xs0 adK adV bs fm (.new x) := by
  intro d lim mi pc a b c v np L st G M Q p e R s m args below meth cc H locs ls ρ n0 Qm hC hR hS hl hvL hvS hn0 hret hd hk hen hst
  obtain ⟨hx, hb, hml, hr, hlk, hown, hnm, hts, hW, hfr, hlo, hmi, hce, hsl, hsp⟩ := id hC
  obtain ⟨hk1, hk2⟩ := Bool.and_eq_true_iff.mp hk
  have hnp : np = pc + 3 := Nat.eq_of_beq_eq_true hk1
  subst hnp
  rw [Nat.add_sub_cancel_left] at hd
  have hst : gd (Nat.beq (SHn (numO G.1)) a && Nat.ble a 12 && Nat.blt G.1 lim) (SX l dC dI cA sp sz L0 xs0 adK adV bs fm d lim mi (pc + 3) L ((2, ((numO G.1 : Nat) : Int)) :: st) (G.1 + 1, G.2.set (numO G.1) (List.replicate (SHm (numO G.1)) 0)) (upR M (numO G.1) fun _ => 0) Q) := hst
  obtain ⟨hg, hs3⟩ := gd_inv hst
  obtain ⟨hg1, hg2⟩ := Bool.and_eq_true_iff.mp hg
  obtain ⟨hg3, hg4⟩ := Bool.and_eq_true_iff.mp hg1
  have hka : SHn (numO G.1) = a := Nat.eq_of_beq_eq_true hg3
  have ha : a < 13 := by have := Nat.le_of_ble_eq_true hg4; omega
  have hlim : G.1 < lim := Nat.le_of_ble_eq_true hg2
  have hn116 : numO G.1 < 116 := by
    rcases Nat.lt_or_ge (numO G.1) 116 with q | q
    · exact q
    · have : SHn (numO G.1) = 99 := by
        unfold SHn
        have : Nat.blt (numO G.1) 116 = false := by
          cases hb : Nat.blt (numO G.1) 116 with
          | false => rfl
          | true => exact absurd (Nat.le_of_ble_eq_true hb) (by omega)
        rw [this]; rfl
      omega
  have hw := of_decide_eq_true hk2
  obtain ⟨C, T, N, ty, f1, f2, f3, f4, f5, f6, f7, f8, f9, f10, f11⟩ := KF_all a ha
  rw [f2] at hw
  have hN : SHm (numO G.1) = N := by rw [shm_obj (numO G.1) hn116 (by omega), hka, f4]
  have hs1 := slo_mono hn0.1
  have hs2 : slo G.1 + SHm (numO G.1) ≤ slo lim := by
    have := slo_mono (show G.1 + 1 ≤ lim from hlim)
    exact this
  have hcells : G.1 - n0 + 1 ≤ R.cells := by omega
  have hslots : slo G.1 - slo n0 + SHm (numO G.1) ≤ R.slots := by omega
  have hA : ∀ q, s.heap.size ≤ q → AA sz q := fun q h => by
    have := hW.2.2.2.2.2.2.2.2.1
    unfold AA
    omega
  have hE : ∀ q, cel cA sp (nmR ρ (numO G.1) q) (G.1 + 1, G.2.set (numO G.1) (List.replicate (SHm (numO G.1)) 0)) (upR M ((numO G.1 : Nat) : Int) fun _ => 0) (numO G.1) = .inr (a, fsl sp ρ (G.1 + 1, G.2.set (numO G.1) (List.replicate (SHm (numO G.1)) 0)) (upR M ((numO G.1 : Nat) : Int) fun _ => 0) a (numO G.1)) := by
    intro q
    rw [cel_obj hka ha hn116]
    unfold fsl
    refine congrArg (fun z => (Sum.inr (a, z) : va_E)) (List.map_congr_left fun k hk => ?_)
    have e : GL (G.1 + 1, G.2.set (numO G.1) (List.replicate (SHm (numO G.1)) 0)) ((numO G.1 : Nat) : Int) k = 0 := by
      rw [GL_nat]
      show nth0 (nthR (G.2.set (numO G.1) (List.replicate (SHm (numO G.1)) 0)) (numO G.1)) k = 0
      rw [nthR_se (by rw [hR.2.2.2.2.2.2.1]; exact hn116)]
      exact nth0_rep
    unfold fvl
    rw [e, upR_eq]
    rfl
  have hfs : ∀ j, j < N → defaultValue (ty j) = vp_V (fsl sp ρ (G.1 + 1, G.2.set (numO G.1) (List.replicate (SHm (numO G.1)) 0)) (upR M ((numO G.1 : Nat) : Int) fun _ => 0) a (numO G.1)) j := by
    intro j hj
    have e : GL (G.1 + 1, G.2.set (numO G.1) (List.replicate (SHm (numO G.1)) 0)) ((numO G.1 : Nat) : Int) j = 0 := by
      rw [GL_nat]
      show nth0 (nthR (G.2.set (numO G.1) (List.replicate (SHm (numO G.1)) 0)) (numO G.1)) j = 0
      rw [nthR_se (by rw [hR.2.2.2.2.2.2.1]; exact hn116)]
      exact nth0_rep
    have e2 : (fsl sp ρ (G.1 + 1, G.2.set (numO G.1) (List.replicate (SHm (numO G.1)) 0)) (upR M ((numO G.1 : Nat) : Int) fun _ => 0) a (numO G.1))[j]? = some (fvl sp ρ (G.1 + 1, G.2.set (numO G.1) (List.replicate (SHm (numO G.1)) 0)) (upR M ((numO G.1 : Nat) : Int) fun _ => 0) a (numO G.1) j) := by
      unfold fsl
      rw [List.getElem?_map, List.getElem?_range (by omega)]
      rfl
    unfold vp_V
    rw [List.getD_eq_getElem?_getD, e2]
    show _ = fvl sp ρ _ _ a (numO G.1) j
    unfold fvl
    rw [e, upR_eq]
    have h9 := f9 j hj
    unfold tyB at h9
    split at h9
    · rename_i ht
      have h0 := Nat.eq_of_beq_eq_true h9
      rw [h0, ht]; rfl
    · rename_i ht
      have h0 := Nat.eq_of_beq_eq_true h9
      rw [h0, ht]; rfl
    · rename_i ht
      rcases Bool.or_eq_true_iff.mp h9 with h0 | h0 <;> (have h0 := Nat.eq_of_beq_eq_true h0; rw [h0, ht]; rfl)
    · rename_i ht
      rcases Bool.or_eq_true_iff.mp h9 with h0 | h0 <;> (have h0 := Nat.eq_of_beq_eq_true h0; rw [h0, ht]; rfl)
    · cases h9
  refine va_new (D := (dC, dI)) (Ts := GW) (C := C) (T := T) (N := N) (ci := a) (H0 := s.heap) (A := AA sz) hx hb hts f5 ty f6 hown (gw_good hts hw rfl) (hts _ f10) (hts _ f11) hW.1 hR.1 hR.2.1 hS hA f1 hfs hcells (by rw [← hN]; exact hslots) hd (fun q H1 hP1 hD1 hS1 => ?_)
  rw [← hN]
  exact new_go hC hR hl hvL hvS hn0 hlim hn116 hret (fun _ => List.length_replicate) (fun _ => nth0_rep) (hE q) hP1 hD1 hS1 hs3

theorem sok_newarray {t : ArrayType} : SOK l dC dI cA sp sz L0 xs0 adK adV bs fm (.newarray t) := by
  intro d lim mi pc a b c v np L st G M Q p e R s m args below meth cc H locs ls ρ n0 Qm hC hR hS hl hvL hvS hn0 hret hd hk hen hst
  obtain ⟨hx, hb, hml, hr, hlk, hown, hnm, hts, hW, hfr, hlo, hmi, hce, hsl, hsp⟩ := id hC
  obtain ⟨hk1, hk2⟩ := Bool.and_eq_true_iff.mp hk
  have hnp : np = pc + 2 := Nat.eq_of_beq_eq_true hk1
  subst hnp
  rw [Nat.add_sub_cancel_left] at hd
  have hst : st1 0 st (fun x r => gd (Nat.beq (SHn (numO G.1)) a && Nat.ble 13 a && Nat.ble a 15 && Nat.blt G.1 lim) (x = SHl (numO G.1) ∧ SX l dC dI cA sp sz L0 xs0 adK adV bs fm d lim mi (pc + 2) L ((2, ((numO G.1 : Nat) : Int)) :: r) (G.1 + 1, G.2.set (numO G.1) []) (upR M (numO G.1) fun _ => 0) Q)) := hst
  obtain ⟨y, r, e1, hs1⟩ := st1_inv hst
  clear hst
  subst e1
  have hvr := vd_t hvS
  obtain ⟨hg, hy, hs3⟩ := gd_inv hs1
  obtain ⟨hg1, hg2⟩ := Bool.and_eq_true_iff.mp hg
  obtain ⟨hg3, hg4⟩ := Bool.and_eq_true_iff.mp hg1
  obtain ⟨hg5, hg6⟩ := Bool.and_eq_true_iff.mp hg3
  have hka : SHn (numO G.1) = a := Nat.eq_of_beq_eq_true hg5
  have ha1 := Nat.le_of_ble_eq_true hg6
  have ha2 := Nat.le_of_ble_eq_true hg4
  have hlim : G.1 < lim := Nat.le_of_ble_eq_true hg2
  have hn116 : numO G.1 < 116 := by
    rcases Nat.lt_or_ge (numO G.1) 116 with q | q
    · exact q
    · have : SHn (numO G.1) = 99 := by
        unfold SHn
        have : Nat.blt (numO G.1) 116 = false := by
          cases hb : Nat.blt (numO G.1) 116 with
          | false => rfl
          | true => exact absurd (Nat.le_of_ble_eq_true hb) (by omega)
        rw [this]; rfl
      omega
  have hle := shm_le (numO G.1) hn116
  rw [SHl_of] at hy
  subst hy
  have hneg : ¬ Int32.ofInt (SHm (numO G.1) : Int) < 0 := by
    rw [o32_0, o32_lt ⟨by omega, by omega⟩ r32_0]
    omega
  have hnat : (Int32.ofInt (SHm (numO G.1) : Int)).toNatClampNeg = SHm (numO G.1) := by
    rw [o32_nat (by omega) (by omega)]
    omega
  have hs1 := slo_mono hn0.1
  have hs2 : slo G.1 + SHm (numO G.1) ≤ slo lim := by
    have := slo_mono (show G.1 + 1 ≤ lim from hlim)
    exact this
  have hcells : G.1 - n0 + 1 ≤ R.cells := by omega
  have hslots : slo G.1 - slo n0 + SHm (numO G.1) ≤ R.slots := by omega
  have hA : ∀ q, s.heap.size ≤ q → AA sz q := fun q h => by
    have := hW.2.2.2.2.2.2.2.2.1
    unfold AA
    omega
  show W p l e R s m args below meth cc H locs _ _ Qm (F0 m pc ls (.int (Int32.ofInt (SHm (numO G.1) : Int)) :: r.map (tv sp ρ)))
  cases t with
  | int =>
    have hka : SHn (numO G.1) = 13 := by rw [hka]; exact Nat.eq_of_beq_eq_true hk2
    have hE : ∀ q, cel cA sp (nmR ρ (numO G.1) q) (G.1 + 1, G.2.set (numO G.1) []) (upR M ((numO G.1 : Nat) : Int) fun _ => 0) (numO G.1) = .inl (cA 13, (SHm (numO G.1), .inl fun _ => 0)) := by
      intro q
      rw [cel_i hka (Or.inl rfl)]
      simp only [upR_eq]
      rfl
    refine va_newa (D := (dC, dI)) (atype := .int) (ty := .int) (H0 := s.heap) (A := AA sz) (N' := SHm (numO G.1)) (a0 := (SHm (numO G.1), .inl fun _ => 0)) hx hb (hts _ (gw_of (List.mem_of_getElem? (i := 59) (by decide +kernel)) rfl)) rfl hW.1 hR.1 hR.2.1 hS hA (fun _ => rfl) hneg hnat (by show SHm (numO G.1) * 4 ≤ 536870912; omega) hcells hslots hd (fun q cB H1 hK1 hP1 hD1 hS1 => ?_)
    have hsame : cB = cA 13 := arr_same (hK1.2 7 (cB, .int) rfl).2 (hW.1.2 0 (cA 13, .int) rfl).2
    subst hsame
    exact new_go hC hR hl hvL hvr hn0 hlim hn116 hret (fun q => absurd q (by omega)) (fun _ => rfl) (hE q) hP1 hD1 hS1 hs3
  | long =>
    have hka : SHn (numO G.1) = 14 := by rw [hka]; exact Nat.eq_of_beq_eq_true hk2
    have hE : ∀ q, cel cA sp (nmR ρ (numO G.1) q) (G.1 + 1, G.2.set (numO G.1) []) (upR M ((numO G.1 : Nat) : Int) fun _ => 0) (numO G.1) = .inl (cA 14, (SHm (numO G.1), .inr (.inl fun _ => 0))) := by
      intro q
      rw [cel_l hka]
      simp only [upR_eq]
      rfl
    refine va_newa (D := (dC, dI)) (atype := .long) (ty := .long) (H0 := s.heap) (A := AA sz) (N' := SHm (numO G.1)) (a0 := (SHm (numO G.1), .inr (.inl fun _ => 0))) hx hb (hts _ (gw_of (List.mem_of_getElem? (i := 407) (by decide +kernel)) rfl)) rfl hW.1 hR.1 hR.2.1 hS hA (fun _ => rfl) hneg hnat (by show SHm (numO G.1) * 8 ≤ 536870912; omega) hcells hslots hd (fun q cB H1 hK1 hP1 hD1 hS1 => ?_)
    have hsame : cB = cA 14 := arr_same (hK1.2 7 (cB, .long) rfl).2 (hW.1.2 1 (cA 14, .long) rfl).2
    subst hsame
    exact new_go hC hR hl hvL hvr hn0 hlim hn116 hret (fun q => absurd q (by omega)) (fun _ => rfl) (hE q) hP1 hD1 hS1 hs3
  | boolean =>
    have hka : SHn (numO G.1) = 15 := by rw [hka]; exact Nat.eq_of_beq_eq_true hk2
    have hE : ∀ q, cel cA sp (nmR ρ (numO G.1) q) (G.1 + 1, G.2.set (numO G.1) []) (upR M ((numO G.1 : Nat) : Int) fun _ => 0) (numO G.1) = .inl (cA 15, (SHm (numO G.1), .inl fun _ => 0)) := by
      intro q
      rw [cel_i hka (Or.inr rfl)]
      simp only [upR_eq]
      rfl
    refine va_newa (D := (dC, dI)) (atype := .boolean) (ty := .boolean) (H0 := s.heap) (A := AA sz) (N' := SHm (numO G.1)) (a0 := (SHm (numO G.1), .inl fun _ => 0)) hx hb (hts _ (gw_of (List.mem_of_getElem? (i := 1392) (by decide +kernel)) rfl)) rfl hW.1 hR.1 hR.2.1 hS hA (fun _ => rfl) hneg hnat (by show SHm (numO G.1) * 1 ≤ 536870912; omega) hcells hslots hd (fun q cB H1 hK1 hP1 hD1 hS1 => ?_)
    have hsame : cB = cA 15 := arr_same (hK1.2 7 (cB, .boolean) rfl).2 (hW.1.2 2 (cA 15, .boolean) rfl).2
    subst hsame
    exact new_go hC hR hl hvL hvr hn0 hlim hn116 hret (fun q => absurd q (by omega)) (fun _ => rfl) (hE q) hP1 hD1 hS1 hs3
  | _ => cases hk2

theorem sok_anewarray {x : Nat} : SOK l dC dI cA sp sz L0 xs0 adK adV bs fm (.anewarray x) := by
  intro d lim mi pc a b c v np L st G M Q p e R s m args below meth cc H locs ls ρ n0 Qm hC hR hS hl hvL hvS hn0 hret hd hk hen hst
  obtain ⟨hx, hb, hml, hr, hlk, hown, hnm, hts, hW, hfr, hlo, hmi, hce, hsl, hsp⟩ := id hC
  obtain ⟨hk1, hk2⟩ := Bool.and_eq_true_iff.mp hk
  have hnp : np = pc + 3 := Nat.eq_of_beq_eq_true hk1
  subst hnp
  rw [Nat.add_sub_cancel_left] at hd
  have hst : st1 0 st (fun x r => gd (Nat.beq (SHn (numO G.1)) a && Nat.ble 16 a && Nat.ble a 19 && Nat.blt G.1 lim) (x = SHl (numO G.1) ∧ SX l dC dI cA sp sz L0 xs0 adK adV bs fm d lim mi (pc + 3) L ((2, ((numO G.1 : Nat) : Int)) :: r) (G.1 + 1, G.2.set (numO G.1) []) (upR M (numO G.1) fun _ => 0) Q)) := hst
  obtain ⟨y, r, e1, hs1⟩ := st1_inv hst
  clear hst
  subst e1
  have hvr := vd_t hvS
  obtain ⟨hg, hy, hs3⟩ := gd_inv hs1
  obtain ⟨hg1, hg2⟩ := Bool.and_eq_true_iff.mp hg
  obtain ⟨hg3, hg4⟩ := Bool.and_eq_true_iff.mp hg1
  obtain ⟨hg5, hg6⟩ := Bool.and_eq_true_iff.mp hg3
  have hka : SHn (numO G.1) = a := Nat.eq_of_beq_eq_true hg5
  have ha1 := Nat.le_of_ble_eq_true hg6
  have ha2 := Nat.le_of_ble_eq_true hg4
  have hlim : G.1 < lim := Nat.le_of_ble_eq_true hg2
  have hn116 : numO G.1 < 116 := by
    rcases Nat.lt_or_ge (numO G.1) 116 with q | q
    · exact q
    · have : SHn (numO G.1) = 99 := by
        unfold SHn
        have : Nat.blt (numO G.1) 116 = false := by
          cases hb : Nat.blt (numO G.1) 116 with
          | false => rfl
          | true => exact absurd (Nat.le_of_ble_eq_true hb) (by omega)
        rw [this]; rfl
      omega
  have hle := shm_le (numO G.1) hn116
  rw [SHl_of] at hy
  subst hy
  have hneg : ¬ Int32.ofInt (SHm (numO G.1) : Int) < 0 := by
    rw [o32_0, o32_lt ⟨by omega, by omega⟩ r32_0]
    omega
  have hnat : (Int32.ofInt (SHm (numO G.1) : Int)).toNatClampNeg = SHm (numO G.1) := by
    rw [o32_nat (by omega) (by omega)]
    omega
  have hs1 := slo_mono hn0.1
  have hs2 : slo G.1 + SHm (numO G.1) ≤ slo lim := by
    have := slo_mono (show G.1 + 1 ≤ lim from hlim)
    exact this
  have hcells : G.1 - n0 + 1 ≤ R.cells := by omega
  have hslots : slo G.1 - slo n0 + SHm (numO G.1) ≤ R.slots := by omega
  have hA : ∀ q, s.heap.size ≤ q → AA sz q := fun q h => by
    have := hW.2.2.2.2.2.2.2.2.1
    unfold AA
    omega
  have hw := of_decide_eq_true hk2
  show W p l e R s m args below meth cc H locs _ _ Qm (F0 m pc ls (.int (Int32.ofInt (SHm (numO G.1) : Int)) :: r.map (tv sp ρ)))
  obtain ⟨t0, hmem, ht⟩ : ∃ t0 : Nat, arN a ∈ ["GriddleTurn$Hardness", "GriddleTurn$Lying", "GriddleTurn$Plate", "GriddleTurn$Tray"] ∧ (tysA cA)[t0]? = some (cA a, .object (arN a)) := by
    rcases (show a = 16 ∨ a = 17 ∨ a = 18 ∨ a = 19 by omega) with q | q | q | q <;> rw [q]
    · exact ⟨3, by decide, rfl⟩
    · exact ⟨4, by decide, rfl⟩
    · exact ⟨5, by decide, rfl⟩
    · exact ⟨6, by decide, rfl⟩
  have hE : ∀ q, cel cA sp (nmR ρ (numO G.1) q) (G.1 + 1, G.2.set (numO G.1) []) (upR M ((numO G.1 : Nat) : Int) fun _ => 0) (numO G.1) = .inl (cA a, SHm (numO G.1), .inr (.inr (.inr (.inr fun _ => none)))) := by
    intro q
    rw [cel_r hka (by omega)]
    simp only [upR_eq]
    rfl
  refine va_newq (D := (dC, dI)) (H0 := s.heap) (A := AA sz) (N' := SHm (numO G.1)) hx hb hown (gw_good hts hw rfl) (hW.2.2.1 _ hmem) hW.1 hR.1 hR.2.1 hS hA hneg hnat (by omega) hcells hslots hd (fun q cB H1 hK1 hP1 hD1 hS1 => ?_)
  have hsame : cB = cA a := arr_same (hK1.2 7 (cB, .object (arN a)) rfl).2 (hW.1.2 t0 _ ht).2
  subst hsame
  exact new_go hC hR hl hvL hvr hn0 hlim hn116 hret (fun q => absurd q (by omega)) (fun _ => rfl) (hE q) hP1 hD1 hS1 hs3

end SND
