section SND
variable {l : Launch} {dC : Nat → ClassId} {dI : Nat → Nat → Nat} {cA : Nat → ClassId} {sp : Int → Option Nat} {sz : Nat} {L0 : Int} {xs0 : Int → Int} {adK adV : Nat → Nat} {bs : Nat} {fm : Option Nat}
theorem sok_lreturn : SOK l dC dI cA sp sz L0 xs0 adK adV bs fm (.lreturn) := by
  intro d lim mi pc a b c v np L st G M Q p e R s m args below meth cc H locs ls ρ n0 Qm hC hR hS hl hvL hvS hn0 hret hd hk hen hst
  obtain ⟨hx, hb, hml, hr, hlk, hown, hnm, hts, hW, hfr, hlo, hmi, hce, hsl, hsp⟩ := id hC
  obtain ⟨hk1, hk2⟩ := Bool.and_eq_true_iff.mp hk
  have hnp : np = pc + 1 := Nat.eq_of_beq_eq_true hk1
  subst hnp
  rw [Nat.add_sub_cancel_left] at hd
  have hR2 : myR mi = some .long := of_decide_eq_true hk2
  obtain ⟨x, r, rfl, hst⟩ := st1_inv hst
  obtain ⟨rfl, hst⟩ := st0_inv hst
  exact hret.2.1 x G M ρ H locs pc ls hst (vd_l (vd_h hvS)) hR hS (fun _ _ => rfl) hn0.1 hd hR2

theorem sok_return_ : SOK l dC dI cA sp sz L0 xs0 adK adV bs fm (.return_) := by
  intro d lim mi pc a b c v np L st G M Q p e R s m args below meth cc H locs ls ρ n0 Qm hC hR hS hl hvL hvS hn0 hret hd hk hen hst
  obtain ⟨hx, hb, hml, hr, hlk, hown, hnm, hts, hW, hfr, hlo, hmi, hce, hsl, hsp⟩ := id hC
  obtain ⟨hk1, hk2⟩ := Bool.and_eq_true_iff.mp hk
  have hnp : np = pc + 1 := Nat.eq_of_beq_eq_true hk1
  subst hnp
  rw [Nat.add_sub_cancel_left] at hd
  have hR2 : myR mi = none := of_decide_eq_true hk2
  obtain ⟨rfl, hst⟩ := st0_inv hst
  exact hret.2.2 G M ρ H locs pc ls hst hR hS (fun _ _ => rfl) hn0.1 hd hR2

theorem sok_ireturn : SOK l dC dI cA sp sz L0 xs0 adK adV bs fm (.ireturn) := by
  intro d lim mi pc a b c v np L st G M Q p e R s m args below meth cc H locs ls ρ n0 Qm hC hR hS hl hvL hvS hn0 hret hd hk hen hst
  obtain ⟨hx, hb, hml, hr, hlk, hown, hnm, hts, hW, hfr, hlo, hmi, hce, hsl, hsp⟩ := id hC
  obtain ⟨hk1, hk2⟩ := Bool.and_eq_true_iff.mp hk
  have hnp : np = pc + 1 := Nat.eq_of_beq_eq_true hk1
  subst hnp
  rw [Nat.add_sub_cancel_left] at hd
  obtain ⟨x, r, rfl, hst⟩ := st1_inv hst
  obtain ⟨rfl, hst⟩ := st0_inv hst
  have hxx := vd_i (vd_h hvS)
  have key : ∀ ty, myR mi = some ty → narrow ty (.int (Int32.ofInt x)) = .int (Int32.ofInt x) → Q (0, x) G M → W p l e R s m args below meth cc H locs (G.1 - n0) (slo G.1 - slo n0) Qm (F0 m pc ls [.int (Int32.ofInt x)]) := fun ty h1 h2 hq =>
    hret.1 x G M ρ H locs pc ls hq hxx hR hS (fun _ _ => rfl) hn0.1 hd ⟨ty, h1, h2⟩
  rcases Bool.or_eq_true_iff.mp hk2 with hk2 | hk2
  · rcases Bool.or_eq_true_iff.mp hk2 with hk2 | hk2
    · rcases Bool.or_eq_true_iff.mp hk2 with hk2 | hk2
      · obtain ⟨h0, h1⟩ := Bool.and_eq_true_iff.mp hk2
        have h0 : a = 0 := Nat.eq_of_beq_eq_true h0
        subst h0
        exact key _ (of_decide_eq_true h1) rfl hst
      · obtain ⟨h0, h1⟩ := Bool.and_eq_true_iff.mp hk2
        have h0 : a = 1 := Nat.eq_of_beq_eq_true h0
        subst h0
        obtain ⟨hz, hst⟩ := hst
        exact key _ (of_decide_eq_true h1) (by rcases hz with rfl | rfl <;> rfl) hst
    · obtain ⟨h0, h1⟩ := Bool.and_eq_true_iff.mp hk2
      have h0 : a = 2 := Nat.eq_of_beq_eq_true h0
      subst h0
      obtain ⟨hz, hst⟩ := hst
      exact key _ (of_decide_eq_true h1) (nar_char hz.1 hz.2) hst
  · obtain ⟨h0, h1⟩ := Bool.and_eq_true_iff.mp hk2
    have h0 : a = 3 := Nat.eq_of_beq_eq_true h0
    subst h0
    obtain ⟨hz, hst⟩ : (-128 ≤ x ∧ x < 128) ∧ Q (0, x) G M := hst
    exact key _ (of_decide_eq_true h1) (nar_byte hz.1 hz.2) hst

end SND
