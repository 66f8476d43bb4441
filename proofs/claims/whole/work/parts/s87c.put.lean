/-! SOUNDNESS: putfield -/
theorem nth0_eq : ∀ (l : List Int) (k : Nat), nth0 l k = (l[k]?).getD 0 := by
  intro l
  induction l with
  | nil => intro k; rfl
  | cons x r ih =>
    intro k
    cases k with
    | zero => rfl
    | succ k => exact ih k
theorem nthR_eq : ∀ (l : List (List Int)) (k : Nat), nthR l k = (l[k]?).getD [] := by
  intro l
  induction l with
  | nil => intro k; rfl
  | cons x r ih =>
    intro k
    cases k with
    | zero => rfl
    | succ k => exact ih k
theorem GL_nat (G : GG) (i k : Nat) : GL G (i : Int) k = nth0 (nthR G.2 i) k := rfl
theorem setG_nat (G : GG) (i k : Nat) (v : Int) : setG G (i : Int) k v = (G.1, G.2.set i ((nthR G.2 i).set k v)) := rfl
theorem nthR_set_ne {G : GG} {i k q : Nat} {v : Int} (h : ¬ q = i) : nthR (setG G (i : Int) k v).2 q = nthR G.2 q := by
  rw [setG_nat, nthR_eq]
  show ((G.2.set i _)[q]?).getD [] = _
  rw [List.getElem?_set_ne (fun e => h e.symm)]
  exact (nthR_eq _ _).symm
theorem nthR_set_eq {G : GG} {i k : Nat} {v : Int} (h : i < G.2.length) : nthR (setG G (i : Int) k v).2 i = (nthR G.2 i).set k v := by
  rw [setG_nat, nthR_eq]
  show ((G.2.set i _)[i]?).getD [] = _
  rw [List.getElem?_set_self h]
  rfl
section PUT
variable {cA : Nat → ClassId} {sp : Int → Option Nat} {ρ : Nat → Nat} {G G' : GG} {M M' : Mm}
theorem fsl_set {a i b : Nat} {val : Value} (hb : b < clZ a) (hf : ∀ k, k < clZ a → ¬ k = b → fvl sp ρ G' M' a i k = fvl sp ρ G M a i k) (hfb : fvl sp ρ G' M' a i b = val) : fsl sp ρ G' M' a i = (fsl sp ρ G M a i).set b val := by
  refine List.ext_getElem? fun k => ?_
  rw [List.getElem?_set]
  unfold fsl
  simp only [List.length_map, List.length_range, List.getElem?_map]
  by_cases h : b = k
  · subst h
    rw [if_pos rfl, if_pos hb, List.getElem?_range hb]
    simp only [Option.map_some]
    rw [hfb]
  · rw [if_neg h]
    by_cases hk : k < clZ a
    · rw [List.getElem?_range hk]
      simp only [Option.map_some]
      rw [hf k hk (fun e => h e.symm)]
    · rw [List.getElem?_eq_none (by simp; omega)]
      rfl
theorem cel_obj {i a : Nat} (h : SHn i = a) (ha : a < 13) (h3 : i < 116) : cel cA sp ρ G M i = .inr (a, fsl sp ρ G M a i) := by
  unfold cel fsl
  rw [if_pos (by omega), shm_obj i h3 (by omega), h]
theorem cel_setG {i q b : Nat} {x : Int} (h : ¬ q = i) : cel cA sp ρ (setG G (i : Int) b x) M q = cel cA sp ρ G M q := by
  have e : ∀ k : Nat, GL (setG G (i : Int) b x) (q : Int) k = GL G (q : Int) k := fun k => by rw [GL_nat, GL_nat, nthR_set_ne h]
  unfold cel fvl
  simp only [e]
end PUT
theorem rvd_up {G : GG} {M : Mm} {i : Nat} {k0 y : Int} (h : ∀ j : Nat, 1 ≤ j → idxO j < G.1 → 16 ≤ SHn j → ∀ k : Nat, idxI (M j k) < G.1) (hi : SHn i < 16) : ∀ j : Nat, 1 ≤ j → idxO j < G.1 → 16 ≤ SHn j → ∀ k : Nat, idxI (up2 M (i : Int) k0 y j k) < G.1 := by
  intro j h1 h2 h3 k
  have hj : ¬ (j : Int) = (i : Int) := by
    intro q
    have q : j = i := by omega
    rw [q] at h3
    omega
  rw [up2_ne hj]
  exact h j h1 h2 h3 k
theorem nar_ref {t : FieldType} (h : (∃ n, t = .object n) ∨ ∃ u, t = .array u) (o : Option Nat) : narrow t (va_rf o) = va_rf o ∧ fits t (va_rf o) = true := by
  rcases h with ⟨n, rfl⟩ | ⟨u, rfl⟩ <;> cases o <;> exact ⟨rfl, rfl⟩
section SND
variable {l : Launch} {dC : Nat → ClassId} {dI : Nat → Nat → Nat} {cA : Nat → ClassId} {sp : Int → Option Nat} {sz : Nat} {L0 : Int} {xs0 : Int → Int} {adK adV : Nat → Nat} {bs : Nat} {fm : Option Nat}
theorem put_go {d lim mi pc a b x i : Nat} {L : Lc} {r : List MV} {G G' : GG} {M M' : Mm} {Q : Po} {w : MV} {p : Program} {e : Env} {R : Room} {s : State} {m : MethodId} {args : Array Value} {below : List Frame} {meth : Method} {cc : Code} {H : Heap} {locs : List Loc} {ls : Array Slot} {ρ : Nat → Nat} {n0 : Nat} {Qm : State → Prop}
    (hC : CXT dC dI cA sp sz L0 xs0 adK adV bs fm p R s m args meth cc d lim mi n0) (hR : RL dC dI cA sp sz L0 xs0 ρ G M H) (hS : va_S (AA sz) s.heap H locs) (hl : lv_has ls (myM mi) (L.map fun q => (q.1, tv sp ρ q.2))) (hvL : ∀ q ∈ L, vd G.1 q.2) (hvr : ∀ v ∈ r, vd G.1 v) (hn0 : n0 ≤ G.1 ∧ G.1 ≤ lim)
    (hret : RET l dC dI cA sp sz L0 xs0 Q ρ n0 p e R s m args below meth cc mi Qm) (hd : decode (myB mi) pc = .ok (.putfield x, 3)) (ha : a < 13) (hbz : b < clZ a) (g1 : SHn i = a) (g2 : 1 ≤ i) (g3 : i < 116) (g4 : idxO i < G.1)
    (hlnk : fLnk mi x a b = true) (hfin : (bif (clF a b).2.2.2 then decide ((myY mi).name = "<init>") && decide (ownS mi = clN a) && decide (wrd mi x = some (.fieldLink (ownS mi) x (clN a) (clF a b).2.1 (clF a b).2.2.1)) else true) = true)
    (hty : ∀ t : FieldType, tyB (FTc a b) t = true → narrow t (tv sp ρ w) = tv sp ρ w ∧ fits t (tv sp ρ w) = true)
    (hG1 : G'.1 = G.1) (hcel : ∀ q : Nat, 1 ≤ q → ¬ q = i → cel cA sp ρ G' M' q = cel cA sp ρ G M q) (hf : ∀ k, k < clZ a → ¬ k = b → fvl sp ρ G' M' a i k = fvl sp ρ G M a i k) (hfb : fvl sp ρ G' M' a i b = tv sp ρ w)
    (hmv : mvd G' M') (h00 : M' 0 0 = M 0 0) (h1k : ∀ k : Nat, M' (-1) k = M (-1) k) (hlen : G'.2.length = 116) (hrow : ∀ j : Nat, 1 ≤ j → idxO j < G'.1 → SHn j < 13 → (nthR G'.2 j).length = SHm j) (hrv : ∀ j : Nat, 1 ≤ j → idxO j < G'.1 → 16 ≤ SHn j → ∀ k : Nat, idxI (M' j k) < G'.1)
    (hst : SX l dC dI cA sp sz L0 xs0 adK adV bs fm d lim mi (pc + 3) L r G' M' Q) :
    W p l e R s m args below meth cc H locs (G.1 - n0) (slo G.1 - slo n0) Qm (F0 m pc ls (tv sp ρ w :: .ref (ρ i) :: r.map (tv sp ρ))) := by
  obtain ⟨hx, hb, hml, hr, hlk, hown, hnm, hts, hW, hfr, hlo, hmi, hce, hsl, hsp⟩ := id hC
  obtain ⟨C, T, N, ty, f1, f2, f3, f4, f5, f6, f7, f8, f9, f10, f11⟩ := KF_all a ha
  have hbN : b < N := by rw [← f4]; exact hbz
  have hat : (wl cA sp ρ G M)[idxO i - 2]? = some (ρ i, .inr (a, fsl sp ρ G M a i)) := by rw [wl_at g2 g4, cel_obj g1 ha g3]
  obtain ⟨hn1, hn2⟩ := hty (ty b) (f9 b hbN)
  have hlf : b < (fsl sp ρ G M a i).length := by unfold fsl; simp; exact hbz
  have key : ∀ (H1 : Heap) (locs1 : List Loc), va_P (dC, dI) vwCl ((wl cA sp ρ G M).set (idxO i - 2) (ρ i, .inr (a, (fsl sp ρ G M a i).set b (tv sp ρ w)))) H1 → va_D (AA sz) ((wl cA sp ρ G M).set (idxO i - 2) (ρ i, .inr (a, (fsl sp ρ G M a i).set b (tv sp ρ w)))) → va_S (AA sz) s.heap H1 locs1 →
      W p l e R s m args below meth cc H1 locs1 (G.1 - n0) (slo G.1 - slo n0) Qm (F0 m (pc + 3) ls (r.map (tv sp ρ))) := by
    intro H1 locs1 hP1 hD1 hS1
    have ew : wl cA sp ρ G' M' = (wl cA sp ρ G M).set (idxO i - 2) (ρ i, .inr (a, (fsl sp ρ G M a i).set b (tv sp ρ w))) := by
      rw [wl_set g2 hG1 hcel, cel_obj g1 ha g3, fsl_set hbz hf hfb]
    rw [← ew] at hP1 hD1
    rw [← hG1]
    refine hst p e R s m args below meth cc H1 locs1 ls ρ n0 Qm hC ⟨hP1, hD1, hmv, by rw [h00]; exact hR.2.2.2.1, fun k => by rw [h1k]; exact hR.2.2.2.2.1 k, by rw [hG1]; exact hR.2.2.2.2.2.1, hlen, hrow, hrv⟩ hS1 hl (by rw [hG1]; exact hvL) (by rw [hG1]; exact hvr) (by rw [hG1]; exact hn0) hret
  cases hfl : (T b).2.2.2 with
  | true =>
    rw [f3, hfl] at hfin
    obtain ⟨k1, k2⟩ := Bool.and_eq_true_iff.mp (show (_ && _) = true from hfin)
    obtain ⟨k3, k4⟩ := Bool.and_eq_true_iff.mp k1
    have k3 := of_decide_eq_true k3
    have k4 := of_decide_eq_true k4
    have hw := of_decide_eq_true k2
    rw [f2] at hw
    rw [f2] at k4
    exact va_putF (D := (dC, dI)) (Ts := GW) (C := C) (T := T) (N := N) (ci := a) (ref := C) (fs := fsl sp ρ G M a i) (v := tv sp ρ w) (ty := ty b) hx hb hts f5 ty f6 f7 hown hW.1 hR.1 hR.2.1 hS (idxO i - 2) hat f1 b hbN (gw_good hts hw rfl) (fun _ h => by rw [f8 b hbN] at h; exact h) hfl (hnm k3) (by rw [f8 b hbN]; exact k4.symm) (f6 b hbN) hn1 hn2 hlf hd key
  | false =>
    rcases Bool.or_eq_true_iff.mp hlnk with hw | hw
    · have hw := of_decide_eq_true hw
      rw [f2, f3] at hw
      exact va_put (D := (dC, dI)) (Ts := GW) (C := C) (T := T) (N := N) (ci := a) (ref := C) (fs := fsl sp ρ G M a i) (v := tv sp ρ w) (ty := ty b) hx hb hts f5 ty f6 f7 hown hW.1 hR.1 hR.2.1 hS (idxO i - 2) hat f1 b hbN (gw_good hts hw rfl) (fun _ h => by rw [f8 b hbN] at h; exact h) hfl (f6 b hbN) hn1 hn2 hlf hd key
    · have hw := of_decide_eq_true hw
      rw [f2, f3] at hw
      exact va_putN (D := (dC, dI)) (Ts := GW) (C := C) (T := T) (N := N) (ci := a) (ref := C) (host := "GriddleTurn") (fs := fsl sp ρ G M a i) (v := tv sp ρ w) (ty := ty b) hx hb hts f5 ty f6 f7 hown hW.1 hR.1 hR.2.1 hS (idxO i - 2) hat f1 b hbN (va_Nw.use rfl (hW.2.1 _ (List.mem_of_getElem? hw) rfl)) (fun _ h => by rw [f8 b hbN] at h; exact h) hfl (f6 b hbN) hn1 hn2 hlf hd key

theorem sok_putfield {x : Nat} : SOK l dC dI cA sp sz L0 xs0 adK adV bs fm (.putfield x) := by
  intro d lim mi pc a b c v np L st G M Q p e R s m args below meth cc H locs ls ρ n0 Qm hC hR hS hl hvL hvS hn0 hret hd hk hen hst
  obtain ⟨hx, hb, hml, hr, hlk, hown, hnm, hts, hW, hfr, hlo, hmi, hce, hsl, hsp⟩ := id hC
  obtain ⟨hk1, hk2⟩ := Bool.and_eq_true_iff.mp hk
  have hnp : np = pc + 3 := Nat.eq_of_beq_eq_true hk1
  subst hnp
  rw [Nat.add_sub_cancel_left] at hd
  obtain ⟨q1, hfin⟩ := Bool.and_eq_true_iff.mp hk2
  obtain ⟨q2, hlnk⟩ := Bool.and_eq_true_iff.mp q1
  obtain ⟨q3, q4⟩ := Bool.and_eq_true_iff.mp q2
  obtain ⟨q5, q6⟩ := Bool.and_eq_true_iff.mp q3
  obtain ⟨q7, q8⟩ := Bool.and_eq_true_iff.mp q5
  have ha : a < 13 := Nat.le_of_ble_eq_true q7
  have hbz : b < clZ a := Nat.le_of_ble_eq_true q8
  have hvb : v = (b : Int) := of_decide_eq_true q6
  have hft : FTc a b = c := Nat.eq_of_beq_eq_true q4
  subst hvb
  by_cases hc23 : c = 2 ∨ c = 3
  · have hst : st1 2 st (fun x r => st1 2 r fun j r => gd (Nat.beq (SHk j) a) (bif Nat.beq c 2 then SX l dC dI cA sp sz L0 xs0 adK adV bs fm d lim mi (pc + 3) L r (setG G j b x) M Q else SX l dC dI cA sp sz L0 xs0 adK adV bs fm d lim mi (pc + 3) L r G (up2 M j (b : Int) x) Q)) := by
      rcases hc23 with rfl | rfl <;> exact hst
    obtain ⟨y, r1, e1, hs1⟩ := st1_inv hst
    obtain ⟨j, r, e2, hs2⟩ := st1_inv hs1
    obtain ⟨hkj, hs3⟩ := gd_inv hs2
    have hkj : SHk j = a := Nat.eq_of_beq_eq_true hkj
    clear hst hs1 hs2
    subst e2
    subst e1
    have hvy := vd_h hvS
    have hvj := vd_h (vd_t hvS)
    have hvr := vd_t (vd_t hvS)
    obtain ⟨i, rfl, g1, g2, g3, g4, g5, g6, g7, g8⟩ := ob_at (cA := cA) (sp := sp) (ρ := ρ) (M := M) hkj ha hvj
    show W p l e R s m args below meth cc H locs _ _ Qm (F0 m pc ls (tv sp ρ (2, y) :: tv sp ρ (2, (i : Int)) :: r.map (tv sp ρ)))
    rw [g8]
    have hty : ∀ t : FieldType, tyB (FTc a b) t = true → narrow t (tv sp ρ (2, y)) = tv sp ρ (2, y) ∧ fits t (tv sp ρ (2, y)) = true := by
      intro t ht
      rw [hft] at ht
      rw [tv_2]
      refine nar_ref ?_ _
      unfold tyB at ht
      split at ht
      · rcases hc23 with rfl | rfl <;> cases ht
      · rcases hc23 with rfl | rfl <;> cases ht
      · exact Or.inl ⟨_, rfl⟩
      · exact Or.inr ⟨_, rfl⟩
      · cases ht
    rcases hc23 with rfl | rfl
    · have hs3 : SX l dC dI cA sp sz L0 xs0 adK adV bs fm d lim mi (pc + 3) L r (setG G (i : Int) b y) M Q := hs3
      have hil : i < G.2.length := by rw [hR.2.2.2.2.2.2.1]; exact g3
      have hbl : b < (nthR G.2 i).length := by rw [hR.2.2.2.2.2.2.2.1 i g2 g4 (by omega), g5]; exact hbz
      have eG : ∀ k : Nat, GL (setG G (i : Int) b y) (i : Int) k = if k = b then y else GL G (i : Int) k := by
        intro k
        rw [GL_nat, GL_nat, nthR_set_eq hil, nth0_eq, nth0_eq, List.getElem?_set]
        by_cases hkb : k = b
        · subst hkb
          rw [if_pos rfl, if_pos rfl, if_pos hbl]
          rfl
        · rw [if_neg (fun q => hkb q.symm), if_neg hkb]
      refine put_go (w := (2, y)) (G' := setG G (i : Int) b y) (M' := M) hC hR hS hl hvL hvr hn0 hret hd ha hbz g1 g2 g3 g4 hlnk hfin hty rfl (fun q h1 h2 => cel_setG h2) (fun k _ hk => ?_) ?_ ?_ rfl (fun _ => rfl) ?_ ?_ hR.2.2.2.2.2.2.2.2 hs3
      · unfold fvl
        rw [eG k, if_neg hk]
      · unfold fvl
        rw [if_pos hft, eG b, if_pos rfl]
        rfl
      · intro j h1 h2 k h3
        have h4 := hR.2.2.1 j h1 h2 k h3
        by_cases hj : j = i
        · subst hj
          rw [eG k]
          by_cases hkb : k = b
          · subst hkb
            rw [if_pos rfl]
            exact ⟨fun q => ⟨fun _ => vd_r hvy, (h4.1 q).2.1, (h4.1 q).2.2⟩, h4.2⟩
          · rw [if_neg hkb]
            exact h4
        · rw [GL_nat, nthR_set_ne hj, ← GL_nat]
          exact h4
      · rw [setG_nat]
        show (G.2.set i _).length = 116
        rw [List.length_set]
        exact hR.2.2.2.2.2.2.1
      · intro j h1 h2 h3
        by_cases hj : j = i
        · subst hj
          rw [nthR_set_eq hil, List.length_set]
          exact hR.2.2.2.2.2.2.2.1 j h1 h2 h3
        · rw [nthR_set_ne hj]
          exact hR.2.2.2.2.2.2.2.1 j h1 h2 h3
    · have hs3 : SX l dC dI cA sp sz L0 xs0 adK adV bs fm d lim mi (pc + 3) L r G (up2 M (i : Int) (b : Int) y) Q := hs3
      have hmv : mvd G (up2 M (i : Int) (b : Int) y) := by
        intro j h1 h2 k h3
        have h4 := hR.2.2.1 j h1 h2 k h3
        by_cases hj : j = i
        · subst hj
          by_cases hkb : k = b
          · subst hkb
            rw [up2_eq, g1, hft]
            exact ⟨fun _ => ⟨fun q => absurd q (by omega), fun _ => vd_r hvy, fun _ q => absurd rfl q⟩, fun q => absurd q (by omega), fun q => absurd q (by omega), fun q => absurd q (by omega)⟩
          · rw [up2_nk (by omega)]
            exact h4
        · rw [up2_ne (by omega)]
          exact h4
      refine put_go (w := (2, y)) (G' := G) (M' := up2 M (i : Int) (b : Int) y) hC hR hS hl hvL hvr hn0 hret hd ha hbz g1 g2 g3 g4 hlnk hfin hty rfl (fun q h1 h2 => cel_up (by omega)) (fun k _ hk => by
          have e : ∀ q : Nat, ¬ q = b → up2 M (i : Int) (b : Int) y (i : Int) (q : Int) = M (i : Int) (q : Int) := fun q hq => up2_nk (by omega)
          unfold fvl
          simp only [e k hk]) ?_ hmv (up2_ne (by omega)) (fun k => up2_ne (by omega)) hR.2.2.2.2.2.2.1 hR.2.2.2.2.2.2.2.1 (rvd_up (i := i) hR.2.2.2.2.2.2.2.2 (by omega)) hs3
      unfold fvl
      rw [if_neg (by omega), if_pos hft, up2_eq]
      rfl
  · have hcn : (Nat.beq c 2 || Nat.beq c 3) = false := by
      cases h2 : Nat.beq c 2 with
      | true => exact absurd (Or.inl (Nat.eq_of_beq_eq_true h2)) hc23
      | false =>
        cases h3 : Nat.beq c 3 with
        | true => exact absurd (Or.inr (Nat.eq_of_beq_eq_true h3)) hc23
        | false => rfl
    have hst : (bif (Nat.beq c 2 || Nat.beq c 3) then _ else st1 0 st (fun x r => st1 2 r fun j r => gd (Nat.beq (SHk j) a) (bif Nat.beq c 0 then SX l dC dI cA sp sz L0 xs0 adK adV bs fm d lim mi (pc + 3) L r G (up2 M j (b : Int) x) Q else gd (Nat.beq c 4) ((x = 0 ∨ x = 1) ∧ SX l dC dI cA sp sz L0 xs0 adK adV bs fm d lim mi (pc + 3) L r G (up2 M j (b : Int) x) Q)))) := hst
    rw [hcn] at hst
    obtain ⟨y, r1, e1, hs1⟩ := st1_inv hst
    obtain ⟨j, r, e2, hs2⟩ := st1_inv hs1
    obtain ⟨hkj, hs3⟩ := gd_inv hs2
    have hkj : SHk j = a := Nat.eq_of_beq_eq_true hkj
    clear hst hs1 hs2
    subst e2
    subst e1
    have hvy := vd_i (vd_h hvS)
    have hvj := vd_h (vd_t hvS)
    have hvr := vd_t (vd_t hvS)
    obtain ⟨i, rfl, g1, g2, g3, g4, g5, g6, g7, g8⟩ := ob_at (cA := cA) (sp := sp) (ρ := ρ) (M := M) hkj ha hvj
    show W p l e R s m args below meth cc H locs _ _ Qm (F0 m pc ls (tv sp ρ (0, y) :: tv sp ρ (2, (i : Int)) :: r.map (tv sp ρ)))
    rw [g8]
    have hcs : (c = 0 ∨ (c = 4 ∧ (y = 0 ∨ y = 1))) ∧ SX l dC dI cA sp sz L0 xs0 adK adV bs fm d lim mi (pc + 3) L r G (up2 M (i : Int) (b : Int) y) Q := by
      cases h0 : Nat.beq c 0 with
      | true =>
        rw [h0] at hs3
        exact ⟨Or.inl (Nat.eq_of_beq_eq_true h0), hs3⟩
      | false =>
        rw [h0] at hs3
        obtain ⟨h4, hs4⟩ := gd_inv (show gd _ _ from hs3)
        exact ⟨Or.inr ⟨Nat.eq_of_beq_eq_true h4, hs4.1⟩, hs4.2⟩
    obtain ⟨hcs, hs3⟩ := hcs
    have hty : ∀ t : FieldType, tyB (FTc a b) t = true → narrow t (tv sp ρ (0, y)) = tv sp ρ (0, y) ∧ fits t (tv sp ρ (0, y)) = true := by
      intro t ht
      rw [hft] at ht
      rw [tv_0]
      unfold tyB at ht
      split at ht
      · exact ⟨rfl, rfl⟩
      · rcases hcs with rfl | ⟨rfl, rfl | rfl⟩
        · cases ht
        · exact ⟨rfl, rfl⟩
        · exact ⟨rfl, rfl⟩
      · rcases hcs with rfl | ⟨rfl, -⟩ <;> cases ht
      · rcases hcs with rfl | ⟨rfl, -⟩ <;> cases ht
      · cases ht
    have hc04 : ¬ c = 2 ∧ ¬ c = 3 := ⟨fun q => hc23 (Or.inl q), fun q => hc23 (Or.inr q)⟩
    have hmv : mvd G (up2 M (i : Int) (b : Int) y) := by
      intro j h1 h2 k h3
      have h4 := hR.2.2.1 j h1 h2 k h3
      by_cases hj : j = i
      · subst hj
        by_cases hkb : k = b
        · subst hkb
          rw [up2_eq, g1, hft]
          exact ⟨fun _ => ⟨fun q => absurd q hc04.1, fun q => absurd q hc04.2, fun _ _ => hvy⟩, fun q => absurd q (by omega), fun q => absurd q (by omega), fun q => absurd q (by omega)⟩
        · rw [up2_nk (by omega)]
          exact h4
      · rw [up2_ne (by omega)]
        exact h4
    refine put_go (w := (0, y)) (G' := G) (M' := up2 M (i : Int) (b : Int) y) hC hR hS hl hvL hvr hn0 hret hd ha hbz g1 g2 g3 g4 hlnk hfin hty rfl (fun q h1 h2 => cel_up (by omega)) (fun k _ hk => by
          have e : ∀ q : Nat, ¬ q = b → up2 M (i : Int) (b : Int) y (i : Int) (q : Int) = M (i : Int) (q : Int) := fun q hq => up2_nk (by omega)
          unfold fvl
          simp only [e k hk]) ?_ hmv (up2_ne (by omega)) (fun k => up2_ne (by omega)) hR.2.2.2.2.2.2.1 hR.2.2.2.2.2.2.2.1 (rvd_up (i := i) hR.2.2.2.2.2.2.2.2 (by omega)) hs3
    unfold fvl
    rw [if_neg (by rw [hft]; exact hc04.1), if_neg (by rw [hft]; exact hc04.2), up2_eq]
    rfl

end SND
