/-! SOUNDNESS: fields and rows -/
theorem SHl_of {i : Nat} : SHl (i : Int) = (SHm i : Int) := rfl
theorem SHk_of {i : Nat} : SHk (i : Int) = SHn i := rfl
section ATS
variable {cA : Nat → ClassId} {sp : Int → Option Nat} {ρ : Nat → Nat} {G : GG} {M : Mm}
def fsl (sp : Int → Option Nat) (ρ : Nat → Nat) (G : GG) (M : Mm) (a i : Nat) : List Value := (List.range (clZ a)).map (fvl sp ρ G M a i)
theorem ob_at {j : Int} {a : Nat} (h : SHk j = a) (ha : a < 13) (hv : vd G.1 (2, j)) : ∃ i : Nat, j = (i : Int) ∧ SHn i = a ∧ 1 ≤ i ∧ i < 116 ∧ idxO i < G.1 ∧ SHm i = clZ a ∧ cel cA sp ρ G M i = .inr (a, fsl sp ρ G M a i) ∧ (wl cA sp ρ G M)[idxO i - 2]? = some (ρ i, .inr (a, fsl sp ρ G M a i)) ∧ tv sp ρ (2, j) = .ref (ρ i) := by
  obtain ⟨i, rfl, h1, h2, h3⟩ := SHk_pos h (by omega)
  have h4 : idxO i < G.1 := by have q := vd_r hv; rw [idxI_nat] at q; omega
  have h5 : SHm i = clZ a := by rw [shm_obj i h3 (by omega), h1]
  have h6 : cel cA sp ρ G M i = .inr (a, fsl sp ρ G M a i) := by
    unfold cel fsl
    rw [if_pos (by omega), h1, h5]
  exact ⟨i, rfl, h1, h2, h3, h4, h5, h6, by rw [wl_at h2 h4, h6], tv_ref (by omega)⟩
theorem ar_at {j : Int} {k : Nat} (h : SHk j = k) (hk : 13 ≤ k ∧ k < 20) (hv : vd G.1 (2, j)) : ∃ i : Nat, j = (i : Int) ∧ SHn i = k ∧ 1 ≤ i ∧ i < 116 ∧ idxO i < G.1 ∧ (wl cA sp ρ G M)[idxO i - 2]? = some (ρ i, cel cA sp ρ G M i) ∧ tv sp ρ (2, j) = .ref (ρ i) := by
  obtain ⟨i, rfl, h1, h2, h3⟩ := SHk_pos h (by omega)
  have h4 : idxO i < G.1 := by have q := vd_r hv; rw [idxI_nat] at q; omega
  exact ⟨i, rfl, h1, h2, h3, h4, wl_at h2 h4, tv_ref (by omega)⟩
theorem cel_i {i k : Nat} (h : SHn i = k) (hk : k = 13 ∨ k = 15) : cel cA sp ρ G M i = .inl (cA k, SHm i, .inl fun q => Int32.ofInt (M i q)) := by
  unfold cel
  rw [if_neg (by omega), if_neg (by omega), if_pos (by omega), h]
theorem cel_l {i : Nat} (h : SHn i = 14) : cel cA sp ρ G M i = .inl (cA 14, SHm i, .inr (.inl fun q => Int64.ofInt (M i q))) := by
  unfold cel
  rw [if_neg (by omega), if_pos h]
theorem cel_r {i k : Nat} (h : SHn i = k) (hk : 16 ≤ k) : cel cA sp ρ G M i = .inl (cA k, SHm i, .inr (.inr (.inr (.inr fun q => rvO sp ρ (M i q))))) := by
  unfold cel
  rw [if_neg (by omega), if_neg (by omega), if_neg (by omega), h]
end ATS
theorem idx_ok {i : Nat} {x : Int} (h3 : i < 116) (h : 0 ≤ x ∧ x < SHl (i : Int)) : vp_in (Int32.ofInt x) (SHm i) ∧ (Int32.ofInt x).toNatClampNeg = x.toNat ∧ ((x.toNat : Nat) : Int) = x ∧ x.toNat < SHm i := by
  have h2 := shm_le i h3
  rw [SHl_of] at h
  exact ⟨o32_vp h.1 h.2 (by omega), o32_nat h.1 (by omega), Int.toNat_of_nonneg h.1, by omega⟩
theorem gw_good {args : Array Value} {s : State} (hts : ∀ w ∈ GW, w.before args s = true) {w : Jvm.Cond} {m x : Nat} (h : wrd m x = some w) (h2 : goodWord w = true) : w.before args s = true := hts _ (gw_of (List.mem_of_getElem? h) h2)
theorem SHk_96 {j : Int} (h : SHk j = 96) : ∃ i : Nat, i < 3 ∧ j = -10 - (i : Int) := by
  cases j with
  | ofNat i =>
    exfalso
    have h : SHn i = 96 := h
    by_cases hi : i < 116
    · exact (show ∀ i, i < 116 → ¬ SHn i = 96 by decide +kernel) i hi h
    · unfold SHn at h
      have : Nat.blt i 116 = false := by
        cases hb : Nat.blt i 116 with
        | false => rfl
        | true => exact absurd (Nat.le_of_ble_eq_true hb) (by omega)
      rw [this] at h
      cases h
  | negSucc i =>
    unfold SHk at h
    split at h <;> simp_all
    · exact ⟨0, by omega, by omega⟩
    · exact ⟨1, by omega, by omega⟩
    · exact ⟨2, by omega, by omega⟩
section SND
variable {l : Launch} {dC : Nat → ClassId} {dI : Nat → Nat → Nat} {cA : Nat → ClassId} {sp : Int → Option Nat} {sz : Nat} {L0 : Int} {xs0 : Int → Int} {adK adV : Nat → Nat} {bs : Nat} {fm : Option Nat}
theorem sok_getfield {x : Nat} : SOK l dC dI cA sp sz L0 xs0 adK adV bs fm (.getfield x) := by
  intro d lim mi pc a b c v np L st G M Q p e R s m args below meth cc H locs ls ρ n0 Qm hC hR hS hl hvL hvS hn0 hret hd hk hen hst
  obtain ⟨hx, hb, hml, hr, hlk, hown, hnm, hts, hW, hfr, hlo, hmi, hce, hsl, hsp⟩ := id hC
  obtain ⟨hk1, hk2⟩ := Bool.and_eq_true_iff.mp hk
  have hnp : np = pc + 3 := Nat.eq_of_beq_eq_true hk1
  subst hnp
  rw [Nat.add_sub_cancel_left] at hd
  obtain ⟨j, r, rfl, hs1⟩ := st1_inv hst
  clear hst
  obtain ⟨hkj, hst⟩ := gd_inv hs1
  have hkj : SHk j = a := Nat.eq_of_beq_eq_true hkj
  have hvj := vd_h hvS
  have hvr := vd_t hvS
  rcases Bool.or_eq_true_iff.mp hk2 with hk2 | hk2
  · have h96 : a = 96 ∧ ((c = 5 ∧ wrd mi x = some (.fieldLink (ownS mi) x "java/lang/String" "value" "[B")) ∨ (c = 6 ∧ wrd mi x = some (.fieldLink (ownS mi) x "java/lang/String" "coder" "B"))) := by
      rcases Bool.or_eq_true_iff.mp hk2 with hk2 | hk2
      · obtain ⟨q1, q2⟩ := Bool.and_eq_true_iff.mp hk2
        obtain ⟨q3, q4⟩ := Bool.and_eq_true_iff.mp q1
        exact ⟨Nat.eq_of_beq_eq_true q3, Or.inl ⟨Nat.eq_of_beq_eq_true q4, of_decide_eq_true q2⟩⟩
      · obtain ⟨q1, q2⟩ := Bool.and_eq_true_iff.mp hk2
        obtain ⟨q3, q4⟩ := Bool.and_eq_true_iff.mp q1
        exact ⟨Nat.eq_of_beq_eq_true q3, Or.inr ⟨Nat.eq_of_beq_eq_true q4, of_decide_eq_true q2⟩⟩
    obtain ⟨rfl, hcase⟩ := h96
    obtain ⟨i, hi, rfl⟩ := SHk_96 hkj
    have hK := hW.2.2.2.1.1 i hi
    have e0 : tv sp ρ (2, -10 - (i : Int)) = .ref (adK i) := by
      rw [tv_2]
      unfold rvO
      rw [if_neg (by omega), if_neg (by omega), hsp.2.2.1 i hi]
      rfl
    show W p l e R s m args below meth cc H locs _ _ Qm (F0 m pc ls (tv sp ρ (2, -10 - (i : Int)) :: r.map (tv sp ρ)))
    rw [e0]
    rcases hcase with ⟨rfl, hw⟩ | ⟨rfl, hw⟩
    · refine vk_getf hx hb hK.2.2.1 hS hown (gw_good hts hw rfl) (fun _ h => h) hd ?_
      have e1 : Value.ref (adV i) = tv sp ρ (2, -10 - (i : Int) - 10) := by
        rw [tv_2]
        unfold rvO
        rw [if_neg (by omega), if_neg (by omega), show -10 - (i : Int) - 10 = -20 - (i : Int) by omega, hsp.2.2.2 i hi]
        rfl
      rw [e1]
      exact hst p e R s m args below meth cc H locs ls ρ n0 Qm hC hR hS hl hvL (vd_c (vd_n (by omega)) hvr) hn0 hret
    · refine vk_getf hx hb hK.2.1 hS hown (gw_good hts hw rfl) (fun _ h => h) hd ?_
      exact hst p e R s m args below meth cc H locs ls ρ n0 Qm hC hR hS hl hvL (vd_c (vd_0 r32_0) hvr) hn0 hret
  · obtain ⟨q1, q2⟩ := Bool.and_eq_true_iff.mp hk2
    obtain ⟨q3, q4⟩ := Bool.and_eq_true_iff.mp q1
    obtain ⟨q5, q6⟩ := Bool.and_eq_true_iff.mp q3
    obtain ⟨q7, q8⟩ := Bool.and_eq_true_iff.mp q5
    have ha : a < 13 := Nat.le_of_ble_eq_true q7
    have hbz : b < clZ a := Nat.le_of_ble_eq_true q8
    have hvb : v = (b : Int) := of_decide_eq_true q6
    have hft : FTc a b = c := Nat.eq_of_beq_eq_true q4
    obtain ⟨C, T, N, ty, f1, f2, f3, f4, f5, f6, f7, f8, f9, f10, f11⟩ := KF_all a ha
    have hbN : b < N := by rw [← f4]; exact hbz
    obtain ⟨i, rfl, g1, g2, g3, g4, g5, g6, g7, g8⟩ := ob_at (cA := cA) (sp := sp) (ρ := ρ) (M := M) hkj ha hvj
    have hfs : (fsl sp ρ G M a i)[b]? = some (fvl sp ρ G M a i b) := by
      unfold fsl
      rw [List.getElem?_map, List.getElem?_range hbz]
      rfl
    have hm := (hR.2.2.1 i g2 g4 b (by omega)).1 (by omega)
    rw [g1] at hm
    have hgo : W p l e R s m args below meth cc H locs (G.1 - n0) (slo G.1 - slo n0) Qm (F0 m (pc + 3) ls (fvl sp ρ G M a i b :: r.map (tv sp ρ))) := by
      subst hvb
      have hz := f9 b hbN
      rw [hft] at hz hm
      have hc4 : c = 0 ∨ c = 2 ∨ c = 3 ∨ c = 4 := by
        unfold tyB at hz
        split at hz
        · exact Or.inl (Nat.eq_of_beq_eq_true hz)
        · exact Or.inr (Or.inr (Or.inr (Nat.eq_of_beq_eq_true hz)))
        · rcases Bool.or_eq_true_iff.mp hz with q | q
          · exact Or.inr (Or.inl (Nat.eq_of_beq_eq_true q))
          · exact Or.inr (Or.inr (Or.inl (Nat.eq_of_beq_eq_true q)))
        · rcases Bool.or_eq_true_iff.mp hz with q | q
          · exact Or.inr (Or.inl (Nat.eq_of_beq_eq_true q))
          · exact Or.inr (Or.inr (Or.inl (Nat.eq_of_beq_eq_true q)))
        · cases hz
      rcases hc4 with rfl | rfl | rfl | rfl
      · rw [show fvl sp ρ G M a i b = tv sp ρ (0, M (i : Int) (b : Int)) by unfold fvl; rw [if_neg (by omega), if_neg (by omega)]; rfl]
        exact hst p e R s m args below meth cc H locs ls ρ n0 Qm hC hR hS hl hvL (vd_c (vd_0 (hm.2.2 (by decide) (by decide))) hvr) hn0 hret
      · rw [show fvl sp ρ G M a i b = tv sp ρ (2, GL G (i : Int) b) by unfold fvl; rw [if_pos hft]; rfl]
        exact hst p e R s m args below meth cc H locs ls ρ n0 Qm hC hR hS hl hvL (vd_c (vd_2 (hm.1 rfl)) hvr) hn0 hret
      · rw [show fvl sp ρ G M a i b = tv sp ρ (2, M (i : Int) (b : Int)) by unfold fvl; rw [if_neg (by omega), if_pos hft]; rfl]
        exact hst p e R s m args below meth cc H locs ls ρ n0 Qm hC hR hS hl hvL (vd_c (vd_2 (hm.2.1 rfl)) hvr) hn0 hret
      · rw [show fvl sp ρ G M a i b = tv sp ρ (0, M (i : Int) (b : Int)) by unfold fvl; rw [if_neg (by omega), if_neg (by omega)]; rfl]
        exact hst p e R s m args below meth cc H locs ls ρ n0 Qm hC hR hS hl hvL (vd_c (vd_0 (hm.2.2 (by decide) (by decide))) hvr) hn0 hret
    show W p l e R s m args below meth cc H locs _ _ Qm (F0 m pc ls (tv sp ρ (2, (i : Int)) :: r.map (tv sp ρ)))
    rw [g8]
    rcases Bool.or_eq_true_iff.mp q2 with hw | hw
    · have hw := of_decide_eq_true hw
      rw [f2, f3] at hw
      refine va_get (D := (dC, dI)) (Ts := GW) (C := C) (T := T) (N := N) (ci := a) (ref := C) (fs := fsl sp ρ G M a i) (v := fvl sp ρ G M a i b) (rest := r.map (tv sp ρ)) hx hb hts f5 hown hW.1 hR.1 (idxO i - 2) g7 f1 b hbN (gw_good hts hw rfl) (fun _ h => by rw [f8 b hbN] at h; exact h) hfs hd ?_
      exact hgo
    · have hw := of_decide_eq_true hw
      rw [f2, f3] at hw
      refine va_getN (D := (dC, dI)) (Ts := GW) (C := C) (T := T) (N := N) (ci := a) (ref := C) (fs := fsl sp ρ G M a i) (v := fvl sp ρ G M a i b) (host := "GriddleTurn") (rest := r.map (tv sp ρ)) hx hb hts f5 hown hW.1 hR.1 (idxO i - 2) g7 f1 b hbN (va_Nw.use rfl (hW.2.1 _ (List.mem_of_getElem? hw) rfl)) (fun _ h => by rw [f8 b hbN] at h; exact h) hfs hd ?_
      exact hgo

end SND
