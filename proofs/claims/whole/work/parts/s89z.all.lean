theorem eokd_316 : (codes 316).all (eokD 316) = true := by
  have e : codes 316 = cd_L_law := rfl
  rw [e]
  have h1 := eokl_0
  have h2 := eokl_250
  have h3 := eokl_500
  refine List.all_eq_true.mpr fun x hx => ?_
  obtain ⟨i, hi⟩ := List.getElem?_of_mem hx
  have key : ∀ a n, a ≤ i → i < a + n → ((cd_L_law.drop a).take n).all (eokD 316) = true → eokD 316 x = true := by
    intro a n h1 h2 h
    refine List.all_eq_true.mp h x (List.mem_of_getElem? (i := i - a) ?_)
    rw [List.getElem?_take, if_pos (by omega), List.getElem?_drop, show a + (i - a) = i by omega]
    exact hi
  have hl : i < 974 := by
    have h5 := (List.getElem?_eq_some_iff.mp hi).1
    have h6 : cd_L_law.length = 974 := by decide +kernel
    omega
  rcases (show i < 250 ∨ (250 ≤ i ∧ i < 500) ∨ (500 ≤ i ∧ i < 750) ∨ (750 ≤ i ∧ i < 778) ∨ (778 ≤ i ∧ i < 806) ∨ (806 ≤ i ∧ i < 834) ∨ (834 ≤ i ∧ i < 862) ∨ (862 ≤ i ∧ i < 890) ∨ (890 ≤ i ∧ i < 918) ∨ (918 ≤ i ∧ i < 946) ∨ (946 ≤ i ∧ i < 974) by omega) with q | q | q | q | q | q | q | q | q | q | q
  · exact key 0 250 (by omega) (by omega) h1
  · exact key 250 250 (by omega) (by omega) h2
  · exact key 500 250 (by omega) (by omega) h3
  · exact key 750 28 (by omega) (by omega) eokl_750
  · exact key 778 28 (by omega) (by omega) eokl_778
  · exact key 806 28 (by omega) (by omega) eokl_806
  · exact key 834 28 (by omega) (by omega) eokl_834
  · exact key 862 28 (by omega) (by omega) eokl_862
  · exact key 890 28 (by omega) (by omega) eokl_890
  · exact key 918 28 (by omega) (by omega) eokl_918
  · exact key 946 28 (by omega) (by omega) eokl_946
theorem eokX_all : ∀ m, m < 317 → (codes m).all (eokX m) = true := by
  intro m hm
  by_cases h0 : m < 40
  · have h := eokx_0 (m - 0) (by omega)
    rwa [show 0 + (m - 0) = m by omega] at h
  by_cases h1 : m < 80
  · have h := eokx_40 (m - 40) (by omega)
    rwa [show 40 + (m - 40) = m by omega] at h
  by_cases h2 : m < 120
  · have h := eokx_80 (m - 80) (by omega)
    rwa [show 80 + (m - 80) = m by omega] at h
  by_cases h3 : m < 160
  · have h := eokx_120 (m - 120) (by omega)
    rwa [show 120 + (m - 120) = m by omega] at h
  by_cases h4 : m < 200
  · have h := eokx_160 (m - 160) (by omega)
    rwa [show 160 + (m - 160) = m by omega] at h
  by_cases h5 : m < 240
  · have h := eokx_200 (m - 200) (by omega)
    rwa [show 200 + (m - 200) = m by omega] at h
  by_cases h6 : m < 280
  · have h := eokx_240 (m - 240) (by omega)
    rwa [show 240 + (m - 240) = m by omega] at h
  by_cases h7 : m < 316
  · have h := eokx_280 (m - 280) (by omega)
    rwa [show 280 + (m - 280) = m by omega] at h
  rw [show m = 316 by omega]
  exact eokx_316
theorem eokD_all : ∀ m, m < 317 → (codes m).all (eokD m) = true := by
  intro m hm
  by_cases h0 : m < 40
  · have h := eokd_0 (m - 0) (by omega)
    rwa [show 0 + (m - 0) = m by omega] at h
  by_cases h1 : m < 80
  · have h := eokd_40 (m - 40) (by omega)
    rwa [show 40 + (m - 40) = m by omega] at h
  by_cases h2 : m < 120
  · have h := eokd_80 (m - 80) (by omega)
    rwa [show 80 + (m - 80) = m by omega] at h
  by_cases h3 : m < 160
  · have h := eokd_120 (m - 120) (by omega)
    rwa [show 120 + (m - 120) = m by omega] at h
  by_cases h4 : m < 200
  · have h := eokd_160 (m - 160) (by omega)
    rwa [show 160 + (m - 160) = m by omega] at h
  by_cases h5 : m < 240
  · have h := eokd_200 (m - 200) (by omega)
    rwa [show 200 + (m - 200) = m by omega] at h
  by_cases h6 : m < 280
  · have h := eokd_240 (m - 240) (by omega)
    rwa [show 240 + (m - 240) = m by omega] at h
  by_cases h7 : m < 316
  · have h := eokd_280 (m - 280) (by omega)
    rwa [show 280 + (m - 280) = m by omega] at h
  rw [show m = 316 by omega]
  exact eokd_316

/-! SOUNDNESS, all instructions: what the step closes, the machine runs through -/
theorem SX_mon {l : Launch} {dC : Nat → ClassId} {dI : Nat → Nat → Nat} {cA : Nat → ClassId} {sp : Int → Option Nat} {sz : Nat} {L0 : Int} {xs0 : Int → Int} {adK adV : Nat → Nat} {bs : Nat} {fm : Option Nat} : monX (SX l dC dI cA sp sz L0 xs0 adK adV bs fm) := by
  intro d lim m pc L st G M Q Q' h x p e R s mid args below meth c H locs ls ρ n0 Qm hC hR hS hl hvL hvS hn0 hret
  exact x p e R s mid args below meth c H locs ls ρ n0 Qm hC hR hS hl hvL hvS hn0 ⟨fun x G' M' r' H' lo pc ls h1 => hret.1 x G' M' r' H' lo pc ls (h _ _ _ h1), fun x G' M' r' H' lo pc ls h1 => hret.2.1 x G' M' r' H' lo pc ls (h _ _ _ h1), fun G' M' r' H' lo pc ls h1 => hret.2.2 G' M' r' H' lo pc ls (h _ _ _ h1)⟩
set_option maxHeartbeats 4000000 in
theorem SX_clo {l : Launch} {dC : Nat → ClassId} {dI : Nat → Nat → Nat} {cA : Nat → ClassId} {sp : Int → Option Nat} {sz : Nat} {L0 : Int} {xs0 : Int → Int} {adK adV : Nat → Nat} {bs : Nat} {fm : Option Nat} : cloX (SX l dC dI cA sp sz L0 xs0 adK adV bs fm) := by
  intro d lim mi pc L st G M Q Lw en rr hsub he hst p e R s m args below meth cc H locs ls ρ n0 Qm hC hR hS hl hvL hvS hn0 hret
  have hmi : mi < 317 := hC.2.2.2.2.2.2.2.2.2.2.2.1
  obtain ⟨hpc, pre, hpre⟩ := seek_pre he
  have hmem : en ∈ codes mi := by rw [hpre]; exact List.mem_append_right _ List.mem_cons_self
  have hX := List.all_eq_true.mp (eokX_all mi hmi) en hmem
  have hD := List.all_eq_true.mp (eokD_all mi hmi) en hmem
  obtain ⟨hD1, hD2⟩ := Bool.and_eq_true_iff.mp hD
  have hD2 := of_decide_eq_true hD2
  have hl : lv_has ls (myM mi) (Lw.map fun q => (q.1, tv sp ρ q.2)) := ⟨hl.1, hl.2.1, fun q hq => by
    obtain ⟨w, hw, e⟩ := List.mem_map.mp hq
    exact hl.2.2 q (List.mem_map.mpr ⟨w, hsub w hw, e⟩)⟩
  have hvL : ∀ q ∈ Lw, vd G.1 q.2 := fun q hq => hvL q (hsub q hq)
  obtain ⟨pc0, i, a, b, c, v, np⟩ := en
  have hpc : pc0 = pc := hpc
  subst hpc
  have key : ∀ i', i' = i → SOK l dC dI cA sp sz L0 xs0 adK adV bs fm i' → W p l e R s m args below meth cc H locs (G.1 - n0) (slo G.1 - slo n0) Qm (F0 m pc0 ls (st.map (tv sp ρ))) := by
    intro i' hi' h
    subst hi'
    exact h d lim mi pc0 a b c v np Lw st G M Q p e R s m args below meth cc H locs ls ρ n0 Qm hC hR hS hl hvL hvS hn0 hret hD2 hX hmem hst
  cases i
  case iconst => exact key _ rfl sok_iconst
  case bipush => exact key _ rfl sok_bipush
  case sipush => exact key _ rfl sok_sipush
  case lconst => exact key _ rfl sok_lconst
  case ldc => exact key _ rfl sok_ldc
  case ldc_w => exact key _ rfl sok_ldc_w
  case ldc2_w => exact key _ rfl sok_ldc2_w
  case getstatic => exact key _ rfl sok_getstatic
  case iload => exact key _ rfl sok_iload
  case iload_n => exact key _ rfl sok_iload_n
  case aload => exact key _ rfl sok_aload
  case aload_n => exact key _ rfl sok_aload_n
  case lload => exact key _ rfl sok_lload
  case lload_n => exact key _ rfl sok_lload_n
  case istore => exact key _ rfl sok_istore
  case istore_n => exact key _ rfl sok_istore_n
  case astore => exact key _ rfl sok_astore
  case astore_n => exact key _ rfl sok_astore_n
  case lstore => exact key _ rfl sok_lstore
  case lstore_n => exact key _ rfl sok_lstore_n
  case iinc => exact key _ rfl sok_iinc
  case iadd => exact key _ rfl sok_iadd
  case isub => exact key _ rfl sok_isub
  case imul => exact key _ rfl sok_imul
  case idiv => exact key _ rfl sok_idiv
  case irem => exact key _ rfl sok_irem
  case iand => exact key _ rfl sok_iand
  case ior => exact key _ rfl sok_ior
  case ixor => exact key _ rfl sok_ixor
  case ishl => exact key _ rfl sok_ishl
  case ishr => exact key _ rfl sok_ishr
  case iushr => exact key _ rfl sok_iushr
  case ineg => exact key _ rfl sok_ineg
  case ladd => exact key _ rfl sok_ladd
  case lsub => exact key _ rfl sok_lsub
  case lmul => exact key _ rfl sok_lmul
  case ldiv => exact key _ rfl sok_ldiv
  case lrem => exact key _ rfl sok_lrem
  case land => exact key _ rfl sok_land
  case lor => exact key _ rfl sok_lor
  case lcmp => exact key _ rfl sok_lcmp
  case lshl => exact key _ rfl sok_lshl
  case lshr => exact key _ rfl sok_lshr
  case i2l => exact key _ rfl sok_i2l
  case l2i => exact key _ rfl sok_l2i
  case i2b => exact key _ rfl sok_i2b
  case i2s => exact key _ rfl sok_i2s
  case i2c => exact key _ rfl sok_i2c
  case dup => exact key _ rfl sok_dup
  case dup2 => exact key _ rfl sok_dup2
  case pop => exact key _ rfl sok_pop
  case getfield => exact key _ rfl sok_getfield
  case putfield => exact key _ rfl sok_putfield
  case iaload => exact key _ rfl sok_iaload
  case laload => exact key _ rfl sok_laload
  case baload => exact key _ rfl sok_baload
  case aaload => exact key _ rfl sok_aaload
  case iastore => exact key _ rfl sok_iastore
  case lastore => exact key _ rfl sok_lastore
  case bastore => exact key _ rfl sok_bastore
  case aastore => exact key _ rfl sok_aastore
  case arraylength => exact key _ rfl sok_arraylength
  case new => exact key _ rfl sok_new
  case newarray => exact key _ rfl sok_newarray
  case anewarray => exact key _ rfl sok_anewarray
  case goto => exact key _ rfl sok_goto
  case tableswitch => exact key _ rfl sok_tableswitch
  case ireturn => exact key _ rfl sok_ireturn
  case lreturn => exact key _ rfl sok_lreturn
  case return_ => exact key _ rfl sok_return_
  case invokevirtual => exact key _ rfl sok_invokevirtual
  case invokespecial => exact key _ rfl sok_invokespecial
  case invokestatic => exact key _ rfl sok_invokestatic
  case ifCond cc o _ => cases cc <;> first | exact key _ rfl sok_ifCond_eq | exact key _ rfl sok_ifCond_ne | exact key _ rfl sok_ifCond_lt | exact key _ rfl sok_ifCond_ge | exact key _ rfl sok_ifCond_gt | exact key _ rfl sok_ifCond_le
  case if_icmp cc o _ => cases cc <;> first | exact key _ rfl sok_if_icmp_eq | exact key _ rfl sok_if_icmp_ne | exact key _ rfl sok_if_icmp_lt | exact key _ rfl sok_if_icmp_ge | exact key _ rfl sok_if_icmp_gt | exact key _ rfl sok_if_icmp_le
  all_goals exact absurd hst id
/-- a run of the small machine is a run of the machine -/
theorem run_sound {l : Launch} {dC : Nat → ClassId} {dI : Nat → Nat → Nat} {cA : Nat → ClassId} {sp : Int → Option Nat} {sz : Nat} {L0 : Int} {xs0 : Int → Int} {adK adV : Nat → Nat} {bs : Nat} {fm : Option Nat} {d lim m pc : Nat} {L : Lc} {st : List MV} {G : GG} {M : Mm} {Q : Po} (h : Run d lim m pc L st G M Q) : SX l dC dI cA sp sz L0 xs0 adK adV bs fm d lim m pc L st G M Q := h _ SX_mon SX_clo
