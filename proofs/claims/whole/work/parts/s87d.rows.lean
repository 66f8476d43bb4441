/-! SOUNDNESS: rows of numbers and objects, switches, constants of the pool -/
section UPS
variable {dC : Nat → ClassId} {dI : Nat → Nat → Nat} {cA : Nat → ClassId} {sp : Int → Option Nat} {sz : Nat} {L0 : Int} {xs0 : Int → Int} {ρ : Nat → Nat} {G : GG} {M : Mm} {H : Heap}
theorem mvd_up {i : Nat} {ix y : Int} (h : mvd G M) (hk : 13 ≤ SHn i) (hnew : (SHn i = 13 ∨ SHn i = 15 → r32 y) ∧ (SHn i = 14 → r64 y) ∧ (16 ≤ SHn i → idxI y < G.1)) : mvd G (up2 M (i : Int) ix y) := by
  intro j h1 h2 k h3
  have h4 := h j h1 h2 k h3
  by_cases hj : j = i
  · subst hj
    by_cases hkb : (k : Int) = ix
    · subst hkb
      rw [up2_eq]
      exact ⟨fun q => absurd q (by omega), hnew⟩
    · rw [up2_nk hkb]
      exact h4
  · rw [up2_ne (by omega)]
    exact h4
theorem RL_up {i : Nat} {ix y : Int} {H1 : Heap} (hR : RL dC dI cA sp sz L0 xs0 ρ G M H) (g2 : 1 ≤ i) (hy : 16 ≤ SHn i → idxI y < G.1) (hmv : mvd G (up2 M (i : Int) ix y)) (hP1 : va_P (dC, dI) vwCl (wl cA sp ρ G (up2 M (i : Int) ix y)) H1) (hD1 : va_D (AA sz) (wl cA sp ρ G (up2 M (i : Int) ix y))) : RL dC dI cA sp sz L0 xs0 ρ G (up2 M (i : Int) ix y) H1 :=
  ⟨hP1, hD1, hmv, by rw [up2_ne (by omega)]; exact hR.2.2.2.1, fun k => by rw [up2_ne (by omega)]; exact hR.2.2.2.2.1 k, hR.2.2.2.2.2.1, hR.2.2.2.2.2.2.1, hR.2.2.2.2.2.2.2.1, fun j h1 h2 h3 k => by
    by_cases hj : j = i
    · subst hj
      by_cases hk : (k : Int) = ix
      · subst hk
        rw [up2_eq]
        exact hy h3
      · rw [up2_nk hk]
        exact hR.2.2.2.2.2.2.2.2 j h1 h2 h3 k
    · rw [up2_ne (by omega)]
      exact hR.2.2.2.2.2.2.2.2 j h1 h2 h3 k⟩
theorem wl_up {i : Nat} {ix y : Int} (g2 : 1 ≤ i) : wl cA sp ρ G (up2 M (i : Int) ix y) = (wl cA sp ρ G M).set (idxO i - 2) (ρ i, cel cA sp ρ G (up2 M (i : Int) ix y) i) := wl_set g2 rfl (fun q _ h2 => cel_up (by omega))
end UPS
theorem swt_spec {x : Int} {d : Prop} {k : Int → Prop} : ∀ {l : List Int} {i : Int}, swt x d k i l → (∀ (n : Nat) (o : Int), x = i + n → l[n]? = some o → k o) ∧ (x < i ∨ i + l.length ≤ x → d) := by
  intro l
  induction l with
  | nil =>
    intro i h
    exact ⟨fun n o _ h2 => by simp at h2, fun _ => h⟩
  | cons a r ih =>
    intro i h
    by_cases hx : x = i
    · refine ⟨fun n o h1 h2 => ?_, fun h3 => ?_⟩
      · have : n = 0 := by omega
        subst this
        have h2 : a = o := by simpa using h2
        rw [← h2]
        exact h.1 hx
      · simp at h3
        omega
    · obtain ⟨h4, h5⟩ := ih (h.2 hx)
      refine ⟨fun n o h1 h2 => ?_, fun h3 => h5 ?_⟩
      · cases n with
        | zero => exact absurd (by simpa using h1) hx
        | succ n => exact h4 n o (by omega) (by simpa using h2)
      · simp at h3
        omega
theorem SHk_95 {j : Int} (h : SHk j = 95) : ∃ i : Nat, i < 3 ∧ j = -20 - (i : Int) := by
  cases j with
  | ofNat i =>
    exfalso
    have h : SHn i = 95 := h
    by_cases hi : i < 116
    · exact (show ∀ i, i < 116 → ¬ SHn i = 95 by decide +kernel) i hi h
    · unfold SHn at h
      have : Nat.blt i 116 = false := by
        cases hb : Nat.blt i 116 with
        | false => rfl
        | true => exact absurd (Nat.le_of_ble_eq_true hb) (by omega)
      rw [this] at h
      cases h
  | negSucc i =>
    unfold SHk at h
    split at h <;> simp_all
    · exact ⟨0, by omega, by omega⟩
    · exact ⟨1, by omega, by omega⟩
    · exact ⟨2, by omega, by omega⟩
theorem SHk_98 {j : Int} (h : SHk j = 98) : j = -1 := by
  cases j with
  | ofNat i =>
    exfalso
    have h : SHn i = 98 := h
    by_cases hi : i < 116
    · exact (show ∀ i, i < 116 → ¬ SHn i = 98 by decide +kernel) i hi h
    · unfold SHn at h
      have : Nat.blt i 116 = false := by
        cases hb : Nat.blt i 116 with
        | false => rfl
        | true => exact absurd (Nat.le_of_ble_eq_true hb) (by omega)
      rw [this] at h
      cases h
  | negSucc i =>
    unfold SHk at h
    split at h <;> simp_all
theorem txt_len {i : Nat} (h : i < 3) : txL.getD i 0 = (txt (-20 - (i : Int))).length ∧ (txt (-20 - (i : Int))).length < 100 := by
  rcases (show i = 0 ∨ i = 1 ∨ i = 2 by omega) with rfl | rfl | rfl <;> exact ⟨rfl, by decide⟩
theorem txt_get {i k : Nat} (h : i < 3) (hk : k < (txt (-20 - (i : Int))).length) : (txB.getD i []).getD k 0 = Int32.ofInt (nth0 (txt (-20 - (i : Int))) k) := by
  rw [nth0_eq]
  rcases (show i = 0 ∨ i = 1 ∨ i = 2 by omega) with rfl | rfl | rfl
  · show (tx0.map Int32.ofInt).getD k 0 = Int32.ofInt ((tx0[k]?).getD 0)
    have hk : k < tx0.length := hk
    rw [List.getD_eq_getElem?_getD, List.getElem?_map, List.getElem?_eq_getElem hk]
    rfl
  · show (tx1.map Int32.ofInt).getD k 0 = Int32.ofInt ((tx1[k]?).getD 0)
    have hk : k < tx1.length := hk
    rw [List.getD_eq_getElem?_getD, List.getElem?_map, List.getElem?_eq_getElem hk]
    rfl
  · show (tx2.map Int32.ofInt).getD k 0 = Int32.ofInt ((tx2[k]?).getD 0)
    have hk : k < tx2.length := hk
    rw [List.getD_eq_getElem?_getD, List.getElem?_map, List.getElem?_eq_getElem hk]
    rfl
theorem txt_in {i k : Nat} (h : i < 3) : r32 (nth0 (txt (-20 - (i : Int))) k) := by
  rw [nth0_eq]
  have key : ∀ (l : List Int), (∀ x ∈ l, 0 ≤ x ∧ x < 128) → r32 ((l[k]?).getD 0) := by
    intro l hl
    cases hq : l[k]? with
    | none => exact r32_0
    | some x =>
      have := hl x (List.mem_of_getElem? hq)
      exact ⟨by show -2147483648 ≤ x; omega, by show x < 2147483648; omega⟩
  rcases (show i = 0 ∨ i = 1 ∨ i = 2 by omega) with rfl | rfl | rfl
  · exact key tx0 (by decide)
  · exact key tx1 (by decide)
  · exact key tx2 (by decide)
section SND
variable {l : Launch} {dC : Nat → ClassId} {dI : Nat → Nat → Nat} {cA : Nat → ClassId} {sp : Int → Option Nat} {sz : Nat} {L0 : Int} {xs0 : Int → Int} {adK adV : Nat → Nat} {bs : Nat} {fm : Option Nat}
theorem sok_iaload : SOK l dC dI cA sp sz L0 xs0 adK adV bs fm (.iaload) := by
  intro d lim mi pc a b c v np L st G M Q p e R s m args below meth cc H locs ls ρ n0 Qm hC hR hS hl hvL hvS hn0 hret hd hk hen hst
  obtain ⟨hx, hb, hml, hr, hlk, hown, hnm, hts, hW, hfr, hlo, hmi, hce, hsl, hsp⟩ := id hC
  obtain ⟨hk1, hk2⟩ := Bool.and_eq_true_iff.mp hk
  have hnp : np = pc + 1 := Nat.eq_of_beq_eq_true hk1
  subst hnp
  rw [Nat.add_sub_cancel_left] at hd
  have hst : st1 0 st (fun i r => st1 2 r fun j r => bif Nat.beq (SHk j) 13 then (0 ≤ i ∧ i < SHl j) ∧ SX l dC dI cA sp sz L0 xs0 adK adV bs fm d lim mi (pc + 1) L ((0, M j i) :: r) G M Q else gd (Nat.beq (SHk j) 98) ((0 ≤ i ∧ i < M 0 0) ∧ SX l dC dI cA sp sz L0 xs0 adK adV bs fm d lim mi (pc + 1) L ((0, M (-1) i) :: r) G M Q)) := hst
  obtain ⟨x, r1, e1, hs1⟩ := st1_inv hst
  obtain ⟨j, r, e2, hs2⟩ := st1_inv hs1
  clear hst hs1
  subst e2
  subst e1
  have hvj := vd_h (vd_t hvS)
  have hvr := vd_t (vd_t hvS)
  cases hq : Nat.beq (SHk j) 13 with
  | true =>
    rw [hq] at hs2
    have hs3 : (0 ≤ x ∧ x < SHl j) ∧ SX l dC dI cA sp sz L0 xs0 adK adV bs fm d lim mi (pc + 1) L ((0, M j x) :: r) G M Q := hs2
    have hkj : SHk j = 13 := Nat.eq_of_beq_eq_true hq
    obtain ⟨i, rfl, g1, g2, g3, g4, g5, g6⟩ := ar_at (cA := cA) (sp := sp) (ρ := ρ) (M := M) hkj ⟨by omega, by omega⟩ hvj
    obtain ⟨v1, v2, v3, v4⟩ := idx_ok g3 hs3.1
    rw [cel_i g1 (Or.inl rfl)] at g5
    have hm := hR.2.2.1 i g2 g4 x.toNat v4
    rw [v3] at hm
    show W p l e R s m args below meth cc H locs _ _ Qm (F0 m pc ls (.int (Int32.ofInt x) :: tv sp ρ (2, (i : Int)) :: r.map (tv sp ρ)))
    rw [g6]
    refine va_iald (D := (dC, dI)) (rest := r.map (tv sp ρ)) hx hb hW.1 hR.1 (idxO i - 2) 0 g5 rfl v1 hd ?_
    rw [v2]
    show W p l e R s m args below meth cc H locs _ _ Qm (F0 m (pc + 1) ls (.int (Int32.ofInt (M (i : Int) ((x.toNat : Nat) : Int))) :: r.map (tv sp ρ)))
    rw [v3]
    exact hs3.2 p e R s m args below meth cc H locs ls ρ n0 Qm hC hR hS hl hvL (vd_c (vd_0 (hm.2.1 (Or.inl g1))) hvr) hn0 hret
  | false =>
    rw [hq] at hs2
    obtain ⟨h98, hs3⟩ := gd_inv (show gd _ _ from hs2)
    have hj := SHk_98 (Nat.eq_of_beq_eq_true h98)
    subst hj
    have hL := hR.2.2.2.1
    rw [hL] at hs3
    obtain ⟨w1, w2, w3, w4, w5, w6, w7, w8, w9, w10, w11, w12⟩ := id hW
    have e0 : tv sp ρ (2, -1) = .ref bs := by
      rw [tv_2]
      unfold rvO
      rw [if_neg (by omega), if_neg (by omega), hsp.1]
      rfl
    show W p l e R s m args below meth cc H locs _ _ Qm (F0 m pc ls (.int (Int32.ofInt x) :: tv sp ρ (2, -1) :: r.map (tv sp ρ)))
    rw [e0]
    have hv1 : vp_in (Int32.ofInt x) L0.toNat := o32_vp hs3.1.1 (by have := hs3.1.2; omega) (by omega)
    have hv2 : (Int32.ofInt x).toNatClampNeg = x.toNat := o32_nat hs3.1.1 (by have := hs3.1.2; omega)
    have hv3 : ((x.toNat : Nat) : Int) = x := Int.toNat_of_nonneg hs3.1.1
    refine va_sld (A := AA sz) (rest := r.map (tv sp ρ)) hx hb w7 (by omega) (fun q => by unfold AA at q; omega) hS hv1 hd ?_
    rw [hv2]
    have hv4 := hR.2.2.2.2.1 x.toNat
    have hv5 := w11 x.toNat (by have := hs3.1.2; omega)
    rw [hv3] at hv4 hv5
    show W p l e R s m args below meth cc H locs _ _ Qm (F0 m (pc + 1) ls (.int (Int32.ofInt (xs0 ((x.toNat : Nat) : Int))) :: r.map (tv sp ρ)))
    rw [hv3, ← hv4]
    rw [← hv4] at hv5
    exact hs3.2 p e R s m args below meth cc H locs ls ρ n0 Qm hC hR hS hl hvL (vd_c (vd_0 hv5) hvr) hn0 hret

theorem sok_laload : SOK l dC dI cA sp sz L0 xs0 adK adV bs fm (.laload) := by
  intro d lim mi pc a b c v np L st G M Q p e R s m args below meth cc H locs ls ρ n0 Qm hC hR hS hl hvL hvS hn0 hret hd hk hen hst
  obtain ⟨hx, hb, hml, hr, hlk, hown, hnm, hts, hW, hfr, hlo, hmi, hce, hsl, hsp⟩ := id hC
  obtain ⟨hk1, hk2⟩ := Bool.and_eq_true_iff.mp hk
  have hnp : np = pc + 1 := Nat.eq_of_beq_eq_true hk1
  subst hnp
  rw [Nat.add_sub_cancel_left] at hd
  have hst : st1 0 st (fun i r => st1 2 r fun j r => gd (Nat.beq (SHk j) 14) ((0 ≤ i ∧ i < SHl j) ∧ SX l dC dI cA sp sz L0 xs0 adK adV bs fm d lim mi (pc + 1) L ((1, M j i) :: r) G M Q)) := hst
  obtain ⟨x, r1, e1, hs1⟩ := st1_inv hst
  obtain ⟨j, r, e2, hs2⟩ := st1_inv hs1
  clear hst hs1
  subst e2
  subst e1
  have hvj := vd_h (vd_t hvS)
  have hvr := vd_t (vd_t hvS)
  obtain ⟨hkj, hs3⟩ := gd_inv hs2
  have hkj : SHk j = 14 := Nat.eq_of_beq_eq_true hkj
  obtain ⟨i, rfl, g1, g2, g3, g4, g5, g6⟩ := ar_at (cA := cA) (sp := sp) (ρ := ρ) (M := M) hkj ⟨by omega, by omega⟩ hvj
  obtain ⟨v1, v2, v3, v4⟩ := idx_ok g3 hs3.1
  rw [cel_l g1] at g5
  have hm := hR.2.2.1 i g2 g4 x.toNat v4
  rw [v3] at hm
  show W p l e R s m args below meth cc H locs _ _ Qm (F0 m pc ls (.int (Int32.ofInt x) :: tv sp ρ (2, (i : Int)) :: r.map (tv sp ρ)))
  rw [g6]
  refine va_lald (D := (dC, dI)) (rest := r.map (tv sp ρ)) hx hb hW.1 hR.1 (idxO i - 2) 1 g5 rfl v1 hd ?_
  rw [v2]
  show W p l e R s m args below meth cc H locs _ _ Qm (F0 m (pc + 1) ls (.long (Int64.ofInt (M (i : Int) ((x.toNat : Nat) : Int))) :: r.map (tv sp ρ)))
  rw [v3]
  exact hs3.2 p e R s m args below meth cc H locs ls ρ n0 Qm hC hR hS hl hvL (vd_c (vd_1 (hm.2.2.1 g1)) hvr) hn0 hret

theorem sok_baload : SOK l dC dI cA sp sz L0 xs0 adK adV bs fm (.baload) := by
  intro d lim mi pc a b c v np L st G M Q p e R s m args below meth cc H locs ls ρ n0 Qm hC hR hS hl hvL hvS hn0 hret hd hk hen hst
  obtain ⟨hx, hb, hml, hr, hlk, hown, hnm, hts, hW, hfr, hlo, hmi, hce, hsl, hsp⟩ := id hC
  obtain ⟨hk1, hk2⟩ := Bool.and_eq_true_iff.mp hk
  have hnp : np = pc + 1 := Nat.eq_of_beq_eq_true hk1
  subst hnp
  rw [Nat.add_sub_cancel_left] at hd
  have hst : st1 0 st (fun i r => st1 2 r fun j r => bif Nat.beq (SHk j) 15 then (0 ≤ i ∧ i < SHl j) ∧ SX l dC dI cA sp sz L0 xs0 adK adV bs fm d lim mi (pc + 1) L ((0, M j i) :: r) G M Q else gd (Nat.beq (SHk j) 95) ((0 ≤ i ∧ i < ((txt j).length : Int)) ∧ SX l dC dI cA sp sz L0 xs0 adK adV bs fm d lim mi (pc + 1) L ((0, nth0 (txt j) i.toNat) :: r) G M Q)) := hst
  obtain ⟨x, r1, e1, hs1⟩ := st1_inv hst
  obtain ⟨j, r, e2, hs2⟩ := st1_inv hs1
  clear hst hs1
  subst e2
  subst e1
  have hvj := vd_h (vd_t hvS)
  have hvr := vd_t (vd_t hvS)
  cases hq : Nat.beq (SHk j) 15 with
  | true =>
    rw [hq] at hs2
    have hs3 : (0 ≤ x ∧ x < SHl j) ∧ SX l dC dI cA sp sz L0 xs0 adK adV bs fm d lim mi (pc + 1) L ((0, M j x) :: r) G M Q := hs2
    have hkj : SHk j = 15 := Nat.eq_of_beq_eq_true hq
    obtain ⟨i, rfl, g1, g2, g3, g4, g5, g6⟩ := ar_at (cA := cA) (sp := sp) (ρ := ρ) (M := M) hkj ⟨by omega, by omega⟩ hvj
    obtain ⟨v1, v2, v3, v4⟩ := idx_ok g3 hs3.1
    rw [cel_i g1 (Or.inr rfl)] at g5
    have hm := hR.2.2.1 i g2 g4 x.toNat v4
    rw [v3] at hm
    show W p l e R s m args below meth cc H locs _ _ Qm (F0 m pc ls (.int (Int32.ofInt x) :: tv sp ρ (2, (i : Int)) :: r.map (tv sp ρ)))
    rw [g6]
    refine va_zald (D := (dC, dI)) (rest := r.map (tv sp ρ)) hx hb hW.1 hR.1 (idxO i - 2) 2 g5 rfl v1 hd ?_
    rw [v2]
    show W p l e R s m args below meth cc H locs _ _ Qm (F0 m (pc + 1) ls (.int (Int32.ofInt (M (i : Int) ((x.toNat : Nat) : Int))) :: r.map (tv sp ρ)))
    rw [v3]
    exact hs3.2 p e R s m args below meth cc H locs ls ρ n0 Qm hC hR hS hl hvL (vd_c (vd_0 (hm.2.1 (Or.inr g1))) hvr) hn0 hret
  | false =>
    rw [hq] at hs2
    obtain ⟨h95, hs3⟩ := gd_inv (show gd _ _ from hs2)
    obtain ⟨i, hi, rfl⟩ := SHk_95 (Nat.eq_of_beq_eq_true h95)
    obtain ⟨tl1, tl2⟩ := txt_len hi
    have e0 : tv sp ρ (2, -20 - (i : Int)) = .ref (adV i) := by
      rw [tv_2]
      unfold rvO
      rw [if_neg (by omega), if_neg (by omega), hsp.2.2.2 i hi]
      rfl
    show W p l e R s m args below meth cc H locs _ _ Qm (F0 m pc ls (.int (Int32.ofInt x) :: tv sp ρ (2, -20 - (i : Int)) :: r.map (tv sp ρ)))
    rw [e0]
    have hb0 := hs3.1.1
    have hb1 := hs3.1.2
    have hv1 : vp_in (Int32.ofInt x) (txL.getD i 0) := o32_vp hb0 (by rw [tl1]; exact hb1) (by omega)
    have hv2 : (Int32.ofInt x).toNatClampNeg = x.toNat := o32_nat hb0 (by omega)
    refine va_tb (A := AA sz) (v := .int (Int32.ofInt (nth0 (txt (-20 - (i : Int))) x.toNat))) (rest := r.map (tv sp ρ)) hx hb (hW.2.2.2.1.1 i hi).2.2.2 hS hv1 (by rw [hv2]; show Value.int _ = _; rw [txt_get hi (by omega)]) hd ?_
    exact hs3.2 p e R s m args below meth cc H locs ls ρ n0 Qm hC hR hS hl hvL (vd_c (vd_0 (txt_in hi)) hvr) hn0 hret

theorem sok_aaload : SOK l dC dI cA sp sz L0 xs0 adK adV bs fm (.aaload) := by
  intro d lim mi pc a b c v np L st G M Q p e R s m args below meth cc H locs ls ρ n0 Qm hC hR hS hl hvL hvS hn0 hret hd hk hen hst
  obtain ⟨hx, hb, hml, hr, hlk, hown, hnm, hts, hW, hfr, hlo, hmi, hce, hsl, hsp⟩ := id hC
  obtain ⟨hk1, hk2⟩ := Bool.and_eq_true_iff.mp hk
  have hnp : np = pc + 1 := Nat.eq_of_beq_eq_true hk1
  subst hnp
  rw [Nat.add_sub_cancel_left] at hd
  have hst : st1 0 st (fun i r => st1 2 r fun j r => gd (Nat.ble 16 (SHk j) && Nat.ble (SHk j) 19) ((0 ≤ i ∧ i < SHl j) ∧ SX l dC dI cA sp sz L0 xs0 adK adV bs fm d lim mi (pc + 1) L ((2, M j i) :: r) G M Q)) := hst
  obtain ⟨x, r1, e1, hs1⟩ := st1_inv hst
  obtain ⟨j, r, e2, hs2⟩ := st1_inv hs1
  clear hst hs1
  subst e2
  subst e1
  have hvj := vd_h (vd_t hvS)
  have hvr := vd_t (vd_t hvS)
  obtain ⟨hkj, hs3⟩ := gd_inv hs2
  obtain ⟨hk3, hk4⟩ := Bool.and_eq_true_iff.mp hkj
  have hk3 := Nat.le_of_ble_eq_true hk3
  have hk4 := Nat.le_of_ble_eq_true hk4
  obtain ⟨i, rfl, g1, g2, g3, g4, g5, g6⟩ := ar_at (cA := cA) (sp := sp) (ρ := ρ) (M := M) (k := SHk j) rfl ⟨by omega, by omega⟩ hvj
  obtain ⟨v1, v2, v3, v4⟩ := idx_ok g3 hs3.1
  rw [SHk_of] at hk3 hk4 g1
  rw [cel_r (k := SHn i) rfl hk3] at g5
  have hm := hR.2.2.1 i g2 g4 x.toNat v4
  rw [v3] at hm
  obtain ⟨t0, C, ht⟩ : ∃ (t0 : Nat) (C : String), (tysA cA)[t0]? = some (cA (SHn i), .object C) := by
    rcases (show SHn i = 16 ∨ SHn i = 17 ∨ SHn i = 18 ∨ SHn i = 19 by omega) with q | q | q | q <;> rw [q]
    · exact ⟨3, _, rfl⟩
    · exact ⟨4, _, rfl⟩
    · exact ⟨5, _, rfl⟩
    · exact ⟨6, _, rfl⟩
  show W p l e R s m args below meth cc H locs _ _ Qm (F0 m pc ls (.int (Int32.ofInt x) :: tv sp ρ (2, (i : Int)) :: r.map (tv sp ρ)))
  rw [g6]
  refine va_aldq (D := (dC, dI)) (rest := r.map (tv sp ρ)) hx hb hW.1 hR.1 (idxO i - 2) t0 g5 ht v1 hd ?_
  rw [v2]
  show W p l e R s m args below meth cc H locs _ _ Qm (F0 m (pc + 1) ls (va_rf (rvO sp ρ (M (i : Int) ((x.toNat : Nat) : Int))) :: r.map (tv sp ρ)))
  rw [v3]
  exact hs3.2 p e R s m args below meth cc H locs ls ρ n0 Qm hC hR hS hl hvL (vd_c (vd_2 (hm.2.2.2 (by omega))) hvr) hn0 hret

theorem sok_iastore : SOK l dC dI cA sp sz L0 xs0 adK adV bs fm (.iastore) := by
  intro d lim mi pc a b c v np L st G M Q p e R s m args below meth cc H locs ls ρ n0 Qm hC hR hS hl hvL hvS hn0 hret hd hk hen hst
  obtain ⟨hx, hb, hml, hr, hlk, hown, hnm, hts, hW, hfr, hlo, hmi, hce, hsl, hsp⟩ := id hC
  obtain ⟨hk1, hk2⟩ := Bool.and_eq_true_iff.mp hk
  have hnp : np = pc + 1 := Nat.eq_of_beq_eq_true hk1
  subst hnp
  rw [Nat.add_sub_cancel_left] at hd
  have hst : st1 0 st (fun y r => st1 0 r fun i r => st1 2 r fun j r => gd (Nat.beq (SHk j) 13) ((0 ≤ i ∧ i < SHl j) ∧ SX l dC dI cA sp sz L0 xs0 adK adV bs fm d lim mi (pc + 1) L r G (up2 M j i y) Q)) := hst
  obtain ⟨y, r0, e0, hs0⟩ := st1_inv hst
  obtain ⟨x, r1, e1, hs1⟩ := st1_inv hs0
  obtain ⟨j, r, e2, hs2⟩ := st1_inv hs1
  clear hst hs0 hs1
  subst e2
  subst e1
  subst e0
  obtain ⟨hkj, hs3⟩ := gd_inv hs2
  have hkj : SHk j = 13 := Nat.eq_of_beq_eq_true hkj
  have hvy := vd_h hvS
  have hvj := vd_h (vd_t (vd_t hvS))
  have hvr := vd_t (vd_t (vd_t hvS))
  obtain ⟨i, rfl, g1, g2, g3, g4, g5, g6⟩ := ar_at (cA := cA) (sp := sp) (ρ := ρ) (M := M) hkj ⟨by omega, by omega⟩ hvj
  obtain ⟨v1, v2, v3, v4⟩ := idx_ok g3 hs3.1
  rw [cel_i g1 (Or.inl rfl)] at g5
  show W p l e R s m args below meth cc H locs _ _ Qm (F0 m pc ls (tv sp ρ (0, y) :: .int (Int32.ofInt x) :: tv sp ρ (2, (i : Int)) :: r.map (tv sp ρ)))
  rw [g6]
  refine va_iast (D := (dC, dI)) (rest := r.map (tv sp ρ)) hx hb hW.1 hR.1 hR.2.1 hS (idxO i - 2) 0 g5 rfl v1 hd (fun H1 locs1 hP1 hD1 hS1 => ?_)
  rw [v2] at hP1 hD1
  have hmv : mvd G (up2 M (i : Int) x y) := mvd_up hR.2.2.1 (by omega) ⟨fun _ => vd_i hvy, fun q => absurd q (by omega), fun q => absurd q (by omega)⟩
  have ew : wl cA sp ρ G (up2 M (i : Int) x y) = (wl cA sp ρ G M).set (idxO i - 2) (ρ i, .inl (cA 13, SHm i, .inl (upd (fun q => Int32.ofInt (M (i : Int) q)) x.toNat (Int32.ofInt y)))) := by
    rw [wl_up g2, cel_i g1 (Or.inl rfl)]
    refine congrArg (fun z => (wl cA sp ρ G M).set (idxO i - 2) (ρ i, z)) ?_
    refine congrArg (fun z : Nat → Int32 => (Sum.inl (cA 13, SHm i, Sum.inl z) : va_E)) (funext fun q => ?_)
    unfold upd
    by_cases hq : q = x.toNat
    · rw [if_pos hq, hq, v3, up2_eq]
    · rw [if_neg hq, up2_nk (by omega)]
  rw [← ew] at hP1 hD1
  exact hs3.2 p e R s m args below meth cc H1 locs1 ls ρ n0 Qm hC (RL_up hR g2 (fun q => absurd q (by omega)) hmv hP1 hD1) hS1 hl hvL hvr hn0 hret

theorem sok_lastore : SOK l dC dI cA sp sz L0 xs0 adK adV bs fm (.lastore) := by
  intro d lim mi pc a b c v np L st G M Q p e R s m args below meth cc H locs ls ρ n0 Qm hC hR hS hl hvL hvS hn0 hret hd hk hen hst
  obtain ⟨hx, hb, hml, hr, hlk, hown, hnm, hts, hW, hfr, hlo, hmi, hce, hsl, hsp⟩ := id hC
  obtain ⟨hk1, hk2⟩ := Bool.and_eq_true_iff.mp hk
  have hnp : np = pc + 1 := Nat.eq_of_beq_eq_true hk1
  subst hnp
  rw [Nat.add_sub_cancel_left] at hd
  have hst : st1 1 st (fun y r => st1 0 r fun i r => st1 2 r fun j r => gd (Nat.beq (SHk j) 14) ((0 ≤ i ∧ i < SHl j) ∧ SX l dC dI cA sp sz L0 xs0 adK adV bs fm d lim mi (pc + 1) L r G (up2 M j i y) Q)) := hst
  obtain ⟨y, r0, e0, hs0⟩ := st1_inv hst
  obtain ⟨x, r1, e1, hs1⟩ := st1_inv hs0
  obtain ⟨j, r, e2, hs2⟩ := st1_inv hs1
  clear hst hs0 hs1
  subst e2
  subst e1
  subst e0
  obtain ⟨hkj, hs3⟩ := gd_inv hs2
  have hkj : SHk j = 14 := Nat.eq_of_beq_eq_true hkj
  have hvy := vd_h hvS
  have hvj := vd_h (vd_t (vd_t hvS))
  have hvr := vd_t (vd_t (vd_t hvS))
  obtain ⟨i, rfl, g1, g2, g3, g4, g5, g6⟩ := ar_at (cA := cA) (sp := sp) (ρ := ρ) (M := M) hkj ⟨by omega, by omega⟩ hvj
  obtain ⟨v1, v2, v3, v4⟩ := idx_ok g3 hs3.1
  rw [cel_l g1] at g5
  show W p l e R s m args below meth cc H locs _ _ Qm (F0 m pc ls (tv sp ρ (1, y) :: .int (Int32.ofInt x) :: tv sp ρ (2, (i : Int)) :: r.map (tv sp ρ)))
  rw [g6]
  refine va_last (D := (dC, dI)) (rest := r.map (tv sp ρ)) hx hb hW.1 hR.1 hR.2.1 hS (idxO i - 2) 1 g5 rfl v1 hd (fun H1 locs1 hP1 hD1 hS1 => ?_)
  rw [v2] at hP1 hD1
  have hmv : mvd G (up2 M (i : Int) x y) := mvd_up hR.2.2.1 (by omega) ⟨fun q => absurd q (by omega), fun _ => vd_l hvy, fun q => absurd q (by omega)⟩
  have ew : wl cA sp ρ G (up2 M (i : Int) x y) = (wl cA sp ρ G M).set (idxO i - 2) (ρ i, .inl (cA 14, SHm i, .inr (.inl (vp_updL (fun q => Int64.ofInt (M (i : Int) q)) x.toNat (Int64.ofInt y))))) := by
    rw [wl_up g2, cel_l g1]
    refine congrArg (fun z => (wl cA sp ρ G M).set (idxO i - 2) (ρ i, z)) ?_
    refine congrArg (fun z : Nat → Int64 => (Sum.inl (cA 14, SHm i, Sum.inr (Sum.inl z)) : va_E)) (funext fun q => ?_)
    unfold vp_updL
    by_cases hq : q = x.toNat
    · rw [if_pos hq, hq, v3, up2_eq]
    · rw [if_neg hq, up2_nk (by omega)]
  rw [← ew] at hP1 hD1
  exact hs3.2 p e R s m args below meth cc H1 locs1 ls ρ n0 Qm hC (RL_up hR g2 (fun q => absurd q (by omega)) hmv hP1 hD1) hS1 hl hvL hvr hn0 hret

theorem sok_bastore : SOK l dC dI cA sp sz L0 xs0 adK adV bs fm (.bastore) := by
  intro d lim mi pc a b c v np L st G M Q p e R s m args below meth cc H locs ls ρ n0 Qm hC hR hS hl hvL hvS hn0 hret hd hk hen hst
  obtain ⟨hx, hb, hml, hr, hlk, hown, hnm, hts, hW, hfr, hlo, hmi, hce, hsl, hsp⟩ := id hC
  obtain ⟨hk1, hk2⟩ := Bool.and_eq_true_iff.mp hk
  have hnp : np = pc + 1 := Nat.eq_of_beq_eq_true hk1
  subst hnp
  rw [Nat.add_sub_cancel_left] at hd
  have hst : st1 0 st (fun y r => st1 0 r fun i r => st1 2 r fun j r => gd (Nat.beq (SHk j) 15) ((0 ≤ i ∧ i < SHl j) ∧ (y = 0 ∨ y = 1) ∧ SX l dC dI cA sp sz L0 xs0 adK adV bs fm d lim mi (pc + 1) L r G (up2 M j i y) Q)) := hst
  obtain ⟨y, r0, e0, hs0⟩ := st1_inv hst
  obtain ⟨x, r1, e1, hs1⟩ := st1_inv hs0
  obtain ⟨j, r, e2, hs2⟩ := st1_inv hs1
  clear hst hs0 hs1
  subst e2
  subst e1
  subst e0
  obtain ⟨hkj, hs3⟩ := gd_inv hs2
  have hkj : SHk j = 15 := Nat.eq_of_beq_eq_true hkj
  have hvy := vd_h hvS
  have hvj := vd_h (vd_t (vd_t hvS))
  have hvr := vd_t (vd_t (vd_t hvS))
  obtain ⟨i, rfl, g1, g2, g3, g4, g5, g6⟩ := ar_at (cA := cA) (sp := sp) (ρ := ρ) (M := M) hkj ⟨by omega, by omega⟩ hvj
  obtain ⟨v1, v2, v3, v4⟩ := idx_ok g3 hs3.1
  rw [cel_i g1 (Or.inr rfl)] at g5
  show W p l e R s m args below meth cc H locs _ _ Qm (F0 m pc ls (tv sp ρ (0, y) :: .int (Int32.ofInt x) :: tv sp ρ (2, (i : Int)) :: r.map (tv sp ρ)))
  rw [g6]
  refine va_zast (D := (dC, dI)) (rest := r.map (tv sp ρ)) hx hb hW.1 hR.1 hR.2.1 hS (idxO i - 2) 2 g5 rfl v1 hd (fun H1 locs1 hP1 hD1 hS1 => ?_)
  rw [v2] at hP1 hD1
  have hmv : mvd G (up2 M (i : Int) x y) := mvd_up hR.2.2.1 (by omega) ⟨fun _ => vd_i hvy, fun q => absurd q (by omega), fun q => absurd q (by omega)⟩
  have ew : wl cA sp ρ G (up2 M (i : Int) x y) = (wl cA sp ρ G M).set (idxO i - 2) (ρ i, .inl (cA 15, SHm i, .inl (upd (fun q => Int32.ofInt (M (i : Int) q)) x.toNat (vp_nar .boolean (Int32.ofInt y))))) := by
    rw [wl_up g2, cel_i g1 (Or.inr rfl)]
    refine congrArg (fun z => (wl cA sp ρ G M).set (idxO i - 2) (ρ i, z)) ?_
    refine congrArg (fun z : Nat → Int32 => (Sum.inl (cA 15, SHm i, Sum.inl z) : va_E)) (funext fun q => ?_)
    unfold upd
    by_cases hq : q = x.toNat
    · rw [if_pos hq, hq, v3, up2_eq]
      rcases hs3.2.1 with rfl | rfl <;> rfl
    · rw [if_neg hq, up2_nk (by omega)]
  rw [← ew] at hP1 hD1
  exact hs3.2.2 p e R s m args below meth cc H1 locs1 ls ρ n0 Qm hC (RL_up hR g2 (fun q => absurd q (by omega)) hmv hP1 hD1) hS1 hl hvL hvr hn0 hret

theorem sok_arraylength : SOK l dC dI cA sp sz L0 xs0 adK adV bs fm (.arraylength) := by
  intro d lim mi pc a b c v np L st G M Q p e R s m args below meth cc H locs ls ρ n0 Qm hC hR hS hl hvL hvS hn0 hret hd hk hen hst
  obtain ⟨hx, hb, hml, hr, hlk, hown, hnm, hts, hW, hfr, hlo, hmi, hce, hsl, hsp⟩ := id hC
  obtain ⟨hk1, hk2⟩ := Bool.and_eq_true_iff.mp hk
  have hnp : np = pc + 1 := Nat.eq_of_beq_eq_true hk1
  subst hnp
  rw [Nat.add_sub_cancel_left] at hd
  have hst : st1 2 st (fun j r => bif Nat.ble 13 (SHk j) && Nat.ble (SHk j) 19 then SX l dC dI cA sp sz L0 xs0 adK adV bs fm d lim mi (pc + 1) L ((0, SHl j) :: r) G M Q else bif Nat.beq (SHk j) 98 then SX l dC dI cA sp sz L0 xs0 adK adV bs fm d lim mi (pc + 1) L ((0, M 0 0) :: r) G M Q else gd (Nat.beq (SHk j) 95) (SX l dC dI cA sp sz L0 xs0 adK adV bs fm d lim mi (pc + 1) L ((0, ((txt j).length : Int)) :: r) G M Q)) := hst
  obtain ⟨j, r, e1, hs2⟩ := st1_inv hst
  clear hst
  subst e1
  have hvj := vd_h hvS
  have hvr := vd_t hvS
  cases hq : (Nat.ble 13 (SHk j) && Nat.ble (SHk j) 19) with
  | true =>
    rw [hq] at hs2
    have hs3 : SX l dC dI cA sp sz L0 xs0 adK adV bs fm d lim mi (pc + 1) L ((0, SHl j) :: r) G M Q := hs2
    obtain ⟨hk3, hk4⟩ := Bool.and_eq_true_iff.mp hq
    have hk3 := Nat.le_of_ble_eq_true hk3
    have hk4 := Nat.le_of_ble_eq_true hk4
    obtain ⟨i, rfl, g1, g2, g3, g4, g5, g6⟩ := ar_at (cA := cA) (sp := sp) (ρ := ρ) (M := M) (k := SHk j) rfl ⟨by omega, by omega⟩ hvj
    rw [SHk_of] at hk3 hk4
    have hle := shm_le i g3
    show W p l e R s m args below meth cc H locs _ _ Qm (F0 m pc ls (tv sp ρ (2, (i : Int)) :: r.map (tv sp ρ)))
    rw [g6]
    have hgo : W p l e R s m args below meth cc H locs (G.1 - n0) (slo G.1 - slo n0) Qm (F0 m (pc + 1) ls (.int (Int32.ofInt (SHm i : Int)) :: r.map (tv sp ρ))) := hs3 p e R s m args below meth cc H locs ls ρ n0 Qm hC hR hS hl hvL (vd_c (vd_0 ⟨by rw [SHl_of]; omega, by rw [SHl_of]; omega⟩) hvr) hn0 hret
    have hv : Int32.ofNat (SHm i) = Int32.ofInt (SHm i : Int) := Int32.ofInt_eq_ofNat.symm
    rcases (show SHn i = 13 ∨ SHn i = 14 ∨ SHn i = 15 ∨ SHn i = 16 ∨ SHn i = 17 ∨ SHn i = 18 ∨ SHn i = 19 by omega) with q | q | q | q | q | q | q
    · rw [cel_i q (Or.inl rfl)] at g5
      exact va_alen (D := (dC, dI)) hx hb hW.1 hR.1 (idxO i - 2) 0 g5 rfl hv hd hgo
    · rw [cel_l q] at g5
      exact va_alen (D := (dC, dI)) hx hb hW.1 hR.1 (idxO i - 2) 1 g5 rfl hv hd hgo
    · rw [cel_i q (Or.inr rfl)] at g5
      exact va_alen (D := (dC, dI)) hx hb hW.1 hR.1 (idxO i - 2) 2 g5 rfl hv hd hgo
    · rw [cel_r q (by omega)] at g5
      exact va_alen (D := (dC, dI)) hx hb hW.1 hR.1 (idxO i - 2) 3 g5 rfl hv hd hgo
    · rw [cel_r q (by omega)] at g5
      exact va_alen (D := (dC, dI)) hx hb hW.1 hR.1 (idxO i - 2) 4 g5 rfl hv hd hgo
    · rw [cel_r q (by omega)] at g5
      exact va_alen (D := (dC, dI)) hx hb hW.1 hR.1 (idxO i - 2) 5 g5 rfl hv hd hgo
    · rw [cel_r q (by omega)] at g5
      exact va_alen (D := (dC, dI)) hx hb hW.1 hR.1 (idxO i - 2) 6 g5 rfl hv hd hgo
  | false =>
    rw [hq] at hs2
    have hs2 : (bif Nat.beq (SHk j) 98 then SX l dC dI cA sp sz L0 xs0 adK adV bs fm d lim mi (pc + 1) L ((0, M 0 0) :: r) G M Q else gd (Nat.beq (SHk j) 95) (SX l dC dI cA sp sz L0 xs0 adK adV bs fm d lim mi (pc + 1) L ((0, ((txt j).length : Int)) :: r) G M Q)) := hs2
    cases hq2 : Nat.beq (SHk j) 98 with
    | true =>
      rw [hq2] at hs2
      have hs3 : SX l dC dI cA sp sz L0 xs0 adK adV bs fm d lim mi (pc + 1) L ((0, M 0 0) :: r) G M Q := hs2
      have hj := SHk_98 (Nat.eq_of_beq_eq_true hq2)
      subst hj
      have hL := hR.2.2.2.1
      rw [hL] at hs3
      obtain ⟨w1, w2, w3, w4, w5, w6, w7, w8, w9, w10, w11, w12⟩ := id hW
      have e0 : tv sp ρ (2, -1) = .ref bs := by
        rw [tv_2]
        unfold rvO
        rw [if_neg (by omega), if_neg (by omega), hsp.1]
        rfl
      show W p l e R s m args below meth cc H locs _ _ Qm (F0 m pc ls (tv sp ρ (2, -1) :: r.map (tv sp ρ)))
      rw [e0]
      refine va_slen (A := AA sz) (rest := r.map (tv sp ρ)) hx hb w7 (by omega) (fun q => by unfold AA at q; omega) hS hd ?_
      rw [← Int32.ofInt_eq_ofNat, Int.toNat_of_nonneg w10.1]
      exact hs3 p e R s m args below meth cc H locs ls ρ n0 Qm hC hR hS hl hvL (vd_c (vd_0 ⟨by omega, by omega⟩) hvr) hn0 hret
    | false =>
      rw [hq2] at hs2
      obtain ⟨h95, hs3⟩ := gd_inv (show gd _ _ from hs2)
      obtain ⟨i, hi, rfl⟩ := SHk_95 (Nat.eq_of_beq_eq_true h95)
      obtain ⟨tl1, tl2⟩ := txt_len hi
      have e0 : tv sp ρ (2, -20 - (i : Int)) = .ref (adV i) := by
        rw [tv_2]
        unfold rvO
        rw [if_neg (by omega), if_neg (by omega), hsp.2.2.2 i hi]
        rfl
      show W p l e R s m args below meth cc H locs _ _ Qm (F0 m pc ls (tv sp ρ (2, -20 - (i : Int)) :: r.map (tv sp ρ)))
      rw [e0]
      refine va_tlen (A := AA sz) (rest := r.map (tv sp ρ)) hx hb (hW.2.2.2.1.1 i hi).2.2.2 hS (v := Int32.ofInt ((txt (-20 - (i : Int))).length : Int)) (by rw [tl1, Int32.ofInt_eq_ofNat]) hd ?_
      exact hs3 p e R s m args below meth cc H locs ls ρ n0 Qm hC hR hS hl hvL (vd_c (vd_0 ⟨by omega, by omega⟩) hvr) hn0 hret

end SND
