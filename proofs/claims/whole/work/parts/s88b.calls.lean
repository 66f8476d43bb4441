/-! SOUNDNESS: calls -/
theorem Met_ofF {l : Launch} {y : MethodName} {ws ws' : List Jvm.Cond} {rm : Room} {Pc : Array Value → State → Prop} {Qc : Array Value → State → Outcome → State → Prop} {mc ms : Nat} {free : Addr → Prop} {cc : ByteArray} {maxL : Nat} {ret : Option FieldType}
    (hy : plainFor y = true) (hw : ws = Jvm.Cond.code y cc maxL ret :: ws')
    (body : ∀ p e s m args below meth c s₁, BodyLoose p l y (headSpec ws rm) cc maxL ret e s m args below meth c s₁ → c.maxLocals = maxL → Pc args s →
      W p l e (headSpec ws rm).room s m args below meth c s.heap [] 0 0 (MQ below Qc args s mc ms free) (entryFrame m args maxL)) : Met l y ws rm Pc Qc mc ms free := by
  refine MetFree.of_bodySF (code := cc) (maxLocals := maxL) (ret := ret) hy ?_ ?_
  · intro args s m h hn
    obtain ⟨meth, c, h1, h2, h3, h4, h5, h6, -, -⟩ := Cond.code_spec hn (atoms_spec (ws := ws) h _ (by rw [hw]; exact List.mem_cons_self))
    exact ⟨meth, c, h1, h2, h3, h4, h5, h6⟩
  · intro p e s m args below meth c s₁ B hml hP _
    have hh0 : s₁.heap = s.heap := by rw [B.state]; rfl
    obtain ⟨t, a1, o, b1, b2, b3⟩ := body p e s m args below meth c s₁ B hml hP s₁ hh0 (Stand.of_body B)
    exact ⟨t, o, a1, b1, b2, ⟨b3.1, b3.2⟩⟩
theorem cat1_sum {sp : Int → Option Nat} {ρ : Nat → Nat} : ∀ r : List MV, ((r.map (tv sp ρ)).map fun v => v.category).sum = cat1 r := by
  intro r
  induction r with
  | nil => rfl
  | cons v r ih =>
    rw [List.map_cons, List.map_cons, List.sum_cons, ih, tv_cat]
    show _ = (bif Nat.beq v.1 1 then 2 else 1) + cat1 r
    by_cases h : v.1 = 1
    · rw [if_pos h, h]; rfl
    · rw [if_neg h]
      cases hb : Nat.beq v.1 1 with
      | true => exact absurd (Nat.eq_of_beq_eq_true hb) h
      | false => rfl
theorem lg_len {sp : Int → Option Nat} {ρ : Nat → Nat} : ∀ r : List MV, (lg_sl (r.map (tv sp ρ))).length = cat1 r := by
  intro r
  induction r with
  | nil => rfl
  | cons v r ih =>
    have e : lg_sl ((v :: r).map (tv sp ρ)) = (if (tv sp ρ v).category = 2 then [Slot.val (tv sp ρ v), Slot.second] else [Slot.val (tv sp ρ v)]) ++ lg_sl (r.map (tv sp ρ)) := by
      unfold lg_sl
      rw [List.map_cons, List.flatMap_cons]
    rw [e, List.length_append, ih, tv_cat]
    show _ = (bif Nat.beq v.1 1 then 2 else 1) + cat1 r
    by_cases h : v.1 = 1
    · rw [if_pos h, h]; rfl
    · rw [if_neg h]
      cases hb : Nat.beq v.1 1 with
      | true => exact absurd (Nat.eq_of_beq_eq_true hb) h
      | false => rfl
theorem lv_mk {sp : Int → Option Nat} {ρ : Nat → Nat} : ∀ (r : List MV) (i : Nat), lv_args i (r.map (tv sp ρ)) = (mkL i r).map fun q => (q.1, tv sp ρ q.2) := by
  intro r
  induction r with
  | nil => intro i; rfl
  | cons v r ih =>
    intro i
    show (i, tv sp ρ v) :: lv_args (if (tv sp ρ v).category = 2 then i + 2 else i + 1) (r.map (tv sp ρ)) = (i, tv sp ρ v) :: (mkL (bif Nat.beq v.1 1 then i + 2 else i + 1) r).map _
    rw [ih, tv_cat]
    by_cases h : v.1 = 1
    · rw [if_pos h, h]; rfl
    · rw [if_neg h]
      cases hb : Nat.beq v.1 1 with
      | true => exact absurd (Nat.eq_of_beq_eq_true hb) h
      | false => rfl
theorem mkL_vd {n : Nat} : ∀ {r : List MV} {i : Nat}, (∀ v ∈ r, vd n v) → ∀ q ∈ mkL i r, vd n q.2 := by
  intro r
  induction r with
  | nil => intro i _ q h; exact absurd h List.not_mem_nil
  | cons v r ih =>
    intro i hv q h
    rcases List.mem_cons.mp (show q ∈ (i, v) :: mkL (bif Nat.beq v.1 1 then i + 2 else i + 1) r from h) with e | h
    · rw [e]; exact vd_h hv
    · exact ih (vd_t hv) q h
theorem gw_goodIn {y : Jvm.Cond} (h : y ∈ GW) : GoodIn GW (y :: GW) := by
  have key : ∀ w ∈ GW, w ∈ GW ∧ ((w.onTables && w.keeps) = true ∨ ∃ ty, w = .arrayClass ty) := fun w hw => ⟨hw, good_of_word (List.mem_filter.mp hw).2⟩
  intro w hw
  rcases List.mem_cons.mp hw with e | hw
  · rw [e]; exact key y h
  · exact key w hw
section CAL
variable {l : Launch} {dC : Nat → ClassId} {dI : Nat → Nat → Nat} {cA : Nat → ClassId} {sp : Int → Option Nat} {sz : Nat} {L0 : Int} {xs0 : Int → Int} {adK adV : Nat → Nat} {bs : Nat} {fm : Option Nat} {ρ : Nat → Nat} {G : GG} {M : Mm} {H : Heap}
theorem WX_same {u U : State} (hv : U.vm = u.vm) (hh : U.heap = u.heap) (h : WX dC dI cA sz L0 xs0 adK adV bs fm u) : WX dC dI cA sz L0 xs0 adK adV bs fm U := by
  obtain ⟨w1, w2, w3, w4, w5, w6, w7, w8, w9, w10, w11, w12, w13, w14, w15⟩ := h
  have al : u.vm.Alike U.vm := by rw [hv]; exact Vm.Alike.refl _
  refine ⟨va_K.moved al w1, fun w hw hn => ?_, fun C hC => va_AO.moved al (w3 C hC), by rw [hh]; exact vk_S.moved al w4, by rw [hh]; exact va_Z.moved al w5, by rw [hh]; exact va_Z.moved al w6, by rw [hh]; exact va_X.moved al w7, w8, by rw [hh]; exact w9, w10, w11, vk_R.same hv w12, vk_R.same hv w13, vk_R.same hv w14, vk_R.same hv w15⟩
  have h0 := w2 w hw hn
  cases w <;> first | (cases hn; done) | exact va_Nw.same rfl hv.symm h0
theorem WX_warm {s U : State} {locs : List Loc} (hW : s.WarmedH U.vm) (hh : U.heap = H) (hS : va_S (AA sz) s.heap H locs) (h : WX dC dI cA sz L0 xs0 adK adV bs fm s) : WX dC dI cA sz L0 xs0 adK adV bs fm U := by
  obtain ⟨w1, w2, w3, w4, w5, w6, w7, w8, w9, w10, w11, w12, w13, w14, w15⟩ := h
  have al := hW.alike
  have hq : ∀ a : Nat, a < s.heap.size → ¬ AA sz a → U.heap[a]? = s.heap[a]? := fun a h1 h2 => by rw [hh]; exact hS.2.1 a h1 h2
  refine ⟨va_K.moved al w1, fun w hw hn => ?_, fun C hC => va_AO.moved al (w3 C hC), (vk_S.moved al w4).kept hq, (va_Z.moved al w5).kept hq, (va_Z.moved al w6).kept hq, (va_X.moved al w7).kept (hq bs (by omega) (fun q => by unfold AA at q; omega)), w8, by rw [hh]; exact Nat.le_trans w9 hS.1, w10, w11, vk_R.warm hW w12, vk_R.warm hW w13, vk_R.warm hW w14, vk_R.warm hW w15⟩
  have h0 := w2 w hw hn
  cases w <;> first | (cases hn; done) | exact va_Nw.warmF hW h0 | exact va_Nw.warmM hW h0
def rtv (w : MV) : Option Value := if w.1 = 9 then none else if w.1 = 0 then some (.int (Int32.ofInt w.2)) else some (.long (Int64.ofInt w.2))
def retD (w : MV) : Prop := (w.1 = 0 ∧ r32 w.2) ∨ (w.1 = 1 ∧ r64 w.2) ∨ w = (9, 0)
variable (dC dI cA sp sz L0 xs0) in
def QcU (K : Po) (ρ : Nat → Nat) (n : Nat) (k : Nat) : Array Value → State → Outcome → State → Prop := fun _ st oc t =>
  (∃ (w : MV) (G' : GG) (M' : Mm) (ρ' : Nat → Nat), oc = .returned (rtv w) ∧ K w G' M' ∧ RL dC dI cA sp sz L0 xs0 ρ' G' M' t.heap ∧ (∀ j, idxO j < n → ρ' j = ρ j) ∧ retD w ∧ G'.1 = n + k) ∧ va_F (AA sz) st t
def rmD (d m n : Nat) : Room := { frames := d + 1, cells := acs m, slots := slo (n + acs m) - slo n, locals := 60 * (d + 1) }
theorem met_of {d m : Nat} {as : List MV} {K : Po} (hm : m < 316) (hR1 : 2 ≤ G.1) (hsp : spOk sp adK adV bs fm) (hva : ∀ v ∈ as, vd G.1 v) (hcat : cat1 as ≤ myM m)
    (h : SX l dC dI cA sp sz L0 xs0 adK adV bs fm d (G.1 + acs m) m 0 (mkL 0 as) [] G M (fun r G' M' => gd (Nat.beq G'.1 (G.1 + acs m)) (K r G' M'))) :
    Met l (myY m) (Jvm.Cond.code (myY m) (myB m) (myM m) (myR m) :: GW) (rmD d m G.1) (va_Pc (as.map (tv sp ρ)) (fun U => WX dC dI cA sz L0 xs0 adK adV bs fm U ∧ RL dC dI cA sp sz L0 xs0 ρ G M U.heap)) (QcU dC dI cA sp sz L0 xs0 K ρ G.1 (acs m)) (acs m) (slo (G.1 + acs m) - slo G.1) (AA sz) := by
  refine Met_ofF (cc := myB m) (maxL := myM m) (ret := myR m) (plain_all m hm) rfl ?_
  intro p e s mid args below meth c s₁ B hml hv
  obtain ⟨rfl, hWX, hRL⟩ := hv
  have hx := B.exec
  have hb := B.bytes
  have hr := B.returns
  have hts := atoms_spec (ws := Jvm.Cond.code (myY m) (myB m) (myM m) (myR m) :: GW) B.pre
  have hown : s.vm.findClass (ownS m) = some mid.cls := findClass_of_methodNamed B.named
  have hlocks := B.notSynchronized
  have hnm : (myY m).name = "<init>" → meth.name = "<init>" := fun h => ((name_of_methodNamed B.named B.method).1).trans h
  have hl := lv_entry (as.map (tv sp ρ)) (n := myM m) (by rw [lg_len]; exact hcat)
  rw [lg_entry_eq]
  rw [lv_mk] at hl
  generalize (lg_sl (as.map (tv sp ρ)) ++ List.replicate (myM m - (lg_sl (as.map (tv sp ρ))).length) Slot.unset).toArray = ls at hl ⊢
  have hS : va_S (AA sz) s.heap s.heap [] := va_S.rf
  have key := h p e (rmD d m G.1) s mid (as.map (tv sp ρ)).toArray below meth c s.heap [] ls ρ G.1 (MQ below (QcU dC dI cA sp sz L0 xs0 K ρ G.1 (acs m)) (as.map (tv sp ρ)).toArray s (acs m) (slo (G.1 + acs m) - slo G.1) (AA sz))
    ⟨hx, hb, hml, hr, hlocks, hown, hnm, fun w hw => hts w (List.mem_cons_of_mem _ hw), hWX, Nat.le_refl _, Nat.le_refl _, by omega, by show G.1 + acs m - G.1 ≤ acs m; omega, Nat.le_refl _, hsp⟩ hRL hS hl (mkL_vd hva) (fun v hv => absurd hv List.not_mem_nil) ⟨Nat.le_refl _, by omega⟩ ?_
  · rw [Nat.sub_self, Nat.sub_self] at key
    exact key
  · have fin : ∀ {w : MV} {G' : GG} {M' : Mm}, gd (Nat.beq G'.1 (G.1 + acs m)) (K w G' M') → G'.1 = G.1 + acs m ∧ K w G' M' := fun hq => by
      obtain ⟨q1, q2⟩ := gd_inv hq
      exact ⟨Nat.eq_of_beq_eq_true q1, q2⟩
    refine ⟨?_, ?_, ?_⟩
    · intro x G' M' ρ' H' locs' pc' ls' hq hrx hRL' hS' hag hn0 hd ⟨ty, ht, hnar⟩
      obtain ⟨hG', hK⟩ := fin hq
      rw [hG', show G.1 + acs m - G.1 = acs m by omega]
      exact W.zret hx hb (hr.trans ht) hnar (fun t ht2 _ => ⟨⟨(0, x), G', M', ρ', rfl, hK, by rw [ht2]; exact hRL', hag, Or.inl ⟨rfl, hrx⟩, hG'⟩, hS'.F ht2⟩) hS'.2.2 hd hlocks
    · intro x G' M' ρ' H' locs' pc' ls' hq hrx hRL' hS' hag hn0 hd ht
      obtain ⟨hG', hK⟩ := fin hq
      rw [hG', show G.1 + acs m - G.1 = acs m by omega]
      exact W.lret hx hb (hr.trans ht) (fun t ht2 _ => ⟨⟨(1, x), G', M', ρ', rfl, hK, by rw [ht2]; exact hRL', hag, Or.inr (Or.inl ⟨rfl, hrx⟩), hG'⟩, hS'.F ht2⟩) hS'.2.2 hd hlocks
    · intro G' M' ρ' H' locs' pc' ls' hq hRL' hS' hag hn0 hd ht
      obtain ⟨hG', hK⟩ := fin hq
      rw [hG', show G.1 + acs m - G.1 = acs m by omega]
      exact W.vret hx hb (hr.trans ht) (fun t ht2 _ => ⟨⟨(9, 0), G', M', ρ', rfl, hK, by rw [ht2]; exact hRL', hag, Or.inr (Or.inr rfl), hG'⟩, hS'.F ht2⟩) hS'.2.2 hd hlocks
/-- behind a call -/
theorem call_go {d lim mi n0 pc a : Nat} {L : Lc} {rest : List MV} {Q : Po} {p : Program} {e : Env} {R : Room} {s : State} {m : MethodId} {args : Array Value} {below : List Frame} {meth : Method} {cc : Code} {locs : List Loc} {ls : Array Slot} {Qm : State → Prop} {st0 : List Value} {ar : Array Value}
    (hC : CXT dC dI cA sp sz L0 xs0 adK adV bs fm p R s m args meth cc d lim mi n0) (hS : va_S (AA sz) s.heap H locs) (hl : lv_has ls (myM mi) (L.map fun q => (q.1, tv sp ρ q.2))) (hvL : ∀ q ∈ L, vd G.1 q.2) (hvr : ∀ v ∈ rest, vd G.1 v) (hn0 : n0 ≤ G.1 ∧ G.1 ≤ lim) (hac : G.1 + acs a ≤ lim)
    (hret : RET l dC dI cA sp sz L0 xs0 Q ρ n0 p e R s m args below meth cc mi Qm)
    (hr : va_Run p l e R s m args below meth cc H locs (G.1 - n0) (slo G.1 - slo n0) (acs a) (slo (G.1 + acs a) - slo G.1) (F0 m pc ls st0) (rest.map (tv sp ρ)) (QcU dC dI cA sp sz L0 xs0 (fun r G' M' => SX l dC dI cA sp sz L0 xs0 adK adV bs fm d lim mi (pc + 3) L (psh r rest) G' M' Q) ρ G.1 (acs a) ar) (AA sz)) :
    W p l e R s m args below meth cc H locs (G.1 - n0) (slo G.1 - slo n0) Qm (F0 m pc ls st0) := by
  intro T hT X
  obtain ⟨v, st₀, t, T', Lc', h0, X', hL, e1, e2, ⟨⟨w, G', M', ρ', hv, hK, hRL, hag, hw, hG'⟩, hz, hk⟩, st⟩ := hr T hT X
  rw [h0] at hz hk
  have hv : v = rtv w := by cases hv; rfl
  subst hv
  have hS1 : va_S (AA sz) s.heap T'.heap (locs ++ Lc') := ⟨Nat.le_trans hS.1 (by rw [e1]; exact hz), fun q h1 h2 => by rw [e1, hk q (Nat.lt_of_lt_of_le h1 hS.1) h2]; exact hS.2.1 q h1 h2, fun q hq => by
    rcases List.mem_append.mp hq with h | h
    · exact hS.2.2 q h
    · exact hL q h⟩
  have hs1 := slo_mono hn0.1
  have hs2 := slo_mono (show G.1 ≤ G.1 + acs a by omega)
  have hvw : ∀ v ∈ psh w rest, vd G'.1 v := by
    have hr0 : ∀ v ∈ rest, vd G'.1 v := fun v hv => vd_up (by omega) (hvr v hv)
    obtain ⟨t, x⟩ := w
    show ∀ v ∈ (bif Nat.beq t 9 then rest else (t, x) :: rest), vd G'.1 v
    rcases hw with ⟨h1, h2⟩ | ⟨h1, h2⟩ | h1
    · have h1 : t = 0 := h1
      subst h1
      exact vd_c (vd_0 h2) hr0
    · have h1 : t = 1 := h1
      subst h1
      exact vd_c (vd_1 h2) hr0
    · cases h1
      exact hr0
  have hgo := hK p e R s m args below meth cc T'.heap (locs ++ Lc') ls ρ' n0 Qm hC (by rw [e1]; exact hRL) hS1 (by rw [map_ext hag hvL]; exact hl) (fun q hq => vd_up (by omega) (hvL q hq)) hvw ⟨by omega, by omega⟩ (RET_ext (fun j hj => hag j (by omega)) hret)
  have est : (psh w rest).map (tv sp ρ') = (rtv w).toList ++ rest.map (tv sp ρ) := by
    rw [← map_ext2 hag hvr]
    obtain ⟨t, x⟩ := w
    rcases hw with ⟨h1, h2⟩ | ⟨h1, h2⟩ | h1
    · have h1 : t = 0 := h1
      subst h1
      rfl
    · have h1 : t = 1 := h1
      subst h1
      rfl
    · cases h1
      rfl
  rw [est, show G'.1 - n0 = G.1 - n0 + acs a by omega, show slo G'.1 - slo n0 = slo G.1 - slo n0 + (slo (G.1 + acs a) - slo G.1) by rw [hG']; omega] at hgo
  obtain ⟨t2, a1, b1⟩ := hgo T' rfl X'
  exact ⟨t2, st t2 a1, b1⟩
end CAL
theorem mokM_all : ∀ m, m < 316 → mokM m = true := by
  intro m hm
  by_cases h0 : m < 40
  · have h := mok_0 (m - 0) (by omega)
    rwa [show 0 + (m - 0) = m by omega] at h
  by_cases h1 : m < 80
  · have h := mok_40 (m - 40) (by omega)
    rwa [show 40 + (m - 40) = m by omega] at h
  by_cases h2 : m < 120
  · have h := mok_80 (m - 80) (by omega)
    rwa [show 80 + (m - 80) = m by omega] at h
  by_cases h3 : m < 160
  · have h := mok_120 (m - 120) (by omega)
    rwa [show 120 + (m - 120) = m by omega] at h
  by_cases h4 : m < 200
  · have h := mok_160 (m - 160) (by omega)
    rwa [show 160 + (m - 160) = m by omega] at h
  by_cases h5 : m < 240
  · have h := mok_200 (m - 200) (by omega)
    rwa [show 200 + (m - 200) = m by omega] at h
  by_cases h6 : m < 280
  · have h := mok_240 (m - 240) (by omega)
    rwa [show 240 + (m - 240) = m by omega] at h
  by_cases h7 : m < 316
  · have h := mok_280 (m - 280) (by omega)
    rwa [show 280 + (m - 280) = m by omega] at h
  omega
def inC (e : En) : Bool := match e.2.1 with
  | .invokespecial _ => Nat.beq e.2.2.1 1000 || Nat.ble e.2.2.2.2.1 12
  | _ => true
theorem inC_all : ∀ m, m < 317 → (codes m).all inC = true := by decide +kernel
theorem init_c {mi x a b c pc np : Nat} {v : Int} (hmi : mi < 317) (h : (pc, Instr.invokespecial x, a, b, c, v, np) ∈ codes mi) (h1 : Nat.beq a 1000 = false) : c ≤ 12 := by
  have h2 := List.all_eq_true.mp (inC_all mi hmi) _ h
  have h2 : (Nat.beq a 1000 || Nat.ble c 12) = true := h2
  rw [h1] at h2
  exact Nat.le_of_ble_eq_true h2
theorem own_ne : ∀ m, m < 316 → ¬ ownS m = "" := by decide +kernel
section SND
variable {l : Launch} {dC : Nat → ClassId} {dI : Nat → Nat → Nat} {cA : Nat → ClassId} {sp : Int → Option Nat} {sz : Nat} {L0 : Int} {xs0 : Int → Int} {adK adV : Nat → Nat} {bs : Nat} {fm : Option Nat}
theorem sok_invokevirtual {x : Nat} : SOK l dC dI cA sp sz L0 xs0 adK adV bs fm (.invokevirtual x) := by
  intro d lim mi pc a b c v np L st G M Q p e R s m args below meth cc H locs ls ρ n0 Qm hC hR hS hl hvL hvS hn0 hret hd hk hen hst
  obtain ⟨hx, hb, hml, hr, hlk, hown, hnm, hts, hW, hfr, hlo, hmi, hce, hsl, hsp⟩ := id hC
  obtain ⟨hk1, hk2⟩ := Bool.and_eq_true_iff.mp hk
  have hnp : np = pc + 3 := Nat.eq_of_beq_eq_true hk1
  subst hnp
  rw [Nat.add_sub_cancel_left] at hd
  obtain ⟨as0, rest, e1, hlen, hs1⟩ := popA_inv hst
  rw [List.append_nil] at hs1
  obtain ⟨hg, hs2⟩ := gd_inv hs1
  obtain ⟨hg4, hge⟩ := Bool.and_eq_true_iff.mp hg
  obtain ⟨hg3, hgd⟩ := Bool.and_eq_true_iff.mp hg4
  obtain ⟨hg2, hgc⟩ := Bool.and_eq_true_iff.mp hg3
  obtain ⟨hga, hgb⟩ := Bool.and_eq_true_iff.mp hg2
  have hrest : cat1 rest ≤ 8 := Nat.le_of_ble_eq_true hga
  have ha : a < 316 := Nat.le_of_ble_eq_true hgb
  have hcat : cat1 as0.reverse ≤ myM a := Nat.le_of_ble_eq_true hgd
  have hac : G.1 + acs a ≤ lim := Nat.le_of_ble_eq_true hge
  obtain ⟨d', rfl, hX⟩ := hs2
  clear hs1 hst
  subst e1
  have hva : ∀ v ∈ as0.reverse, vd G.1 v := fun v hv => hvS v (List.mem_append_left _ (List.mem_reverse.mp hv))
  have hvr : ∀ v ∈ rest, vd G.1 v := fun v hv => hvS v (List.mem_append_right _ hv)
  rcases Bool.or_eq_true_iff.mp hk2 with hq | hk2
  · rw [Bool.not_eq_true'] at hq
    rw [hgb] at hq
    cases hq
  obtain ⟨k1, k2⟩ := Bool.and_eq_true_iff.mp hk2
  obtain ⟨k3, k4⟩ := Bool.and_eq_true_iff.mp k1
  obtain ⟨k5, k6⟩ := Bool.and_eq_true_iff.mp k3
  obtain ⟨k7, k8⟩ := Bool.and_eq_true_iff.mp k5
  obtain ⟨k9, k10⟩ := Bool.and_eq_true_iff.mp k7
  have hnp2 : nPar a = some (b - 1) := of_decide_eq_true k10
  have hcl : clN c = ownS a := of_decide_eq_true k6
  have hni : ¬ (myY a).name = "<init>" := of_decide_eq_true k2
  have hstat : isS a = false := by rw [Bool.not_eq_true'] at k9; exact k9
  have hsy := slo_mono hn0.1
  have hmk := mokM_all a ha
  obtain ⟨hmk, hm41⟩ := Bool.and_eq_true_iff.mp hmk
  obtain ⟨hmk, hmk5⟩ := Bool.and_eq_true_iff.mp hmk
  obtain ⟨hmk, hmk4⟩ := Bool.and_eq_true_iff.mp hmk
  obtain ⟨hmk1, hmk3⟩ := Bool.and_eq_true_iff.mp hmk
  have hini : (Jvm.Cond.initialized (myY a).cls).before args s = true := hts _ (gw_of (List.mem_of_getElem? (of_decide_eq_true hmk1)) rfl)
  have hne : (myY a).cls ≠ "java/lang/invoke/MethodHandle" ∧ (myY a).cls ≠ "java/lang/invoke/VarHandle" := ⟨of_decide_eq_true hmk3, of_decide_eq_true hmk4⟩
  have hcG : Jvm.Cond.code (myY a) (myB a) (myM a) (myR a) ∈ GW := gw_of (mcu_316 a ha) rfl
  have hm41 := Nat.le_of_ble_eq_true hm41
  have hs4 := slo_mono hac
  have hs5 := slo_mono (show G.1 ≤ G.1 + acs a by omega)
  have hroom : G.1 - n0 + acs a ≤ R.cells ∧ slo G.1 - slo n0 + (slo (G.1 + acs a) - slo G.1) ≤ R.slots := ⟨by omega, by omega⟩
  have hRm : (rmD d' a G.1).frames + 1 ≤ R.frames ∧ 8 + (myM a + 11) + (rmD d' a G.1).locals ≤ R.locals := ⟨by show d' + 1 + 1 ≤ R.frames; omega, by show 8 + (myM a + 11) + 60 * (d' + 1) ≤ R.locals; omega⟩
  have hMet := met_of (l := l) (dC := dC) (dI := dI) (cA := cA) (L0 := L0) (xs0 := xs0) (sz := sz) (ρ := ρ) ha hR.2.2.2.2.2.1 hsp hva hcat hX
  obtain ⟨j, tl, hal, hkj⟩ : ∃ (j : Int) (tl : List MV), as0.reverse = (2, j) :: tl ∧ SHk j = c := by
    cases hq : as0.reverse with
    | nil => rw [hq] at hgc; cases hgc
    | cons w tl =>
      obtain ⟨t, j⟩ := w
      rw [hq] at hgc
      obtain ⟨z1, z2⟩ := Bool.and_eq_true_iff.mp (show (_ && _) = true from hgc)
      refine ⟨j, tl, ?_, Nat.eq_of_beq_eq_true z2⟩
      rw [Nat.eq_of_beq_eq_true z1]
  have hvj : vd G.1 (2, j) := hva _ (by rw [hal]; exact List.mem_cons_self)
  have has : as0 = tl.reverse ++ [(2, j)] := by
    have := congrArg List.reverse hal
    rw [List.reverse_reverse] at this
    rw [this]
    simp
  have htl : tl.length = b - 1 := by
    have := congrArg List.length has
    simp at this
    omega
  rw [hstat] at hmk5
  obtain ⟨m1, m2⟩ := Bool.and_eq_true_iff.mp (show (_ && _) = true from hmk5)
  rw [show decide ((myY a).name = "<init>") = false by exact decide_eq_false hni] at m2
  have hinst : (Jvm.Cond.instanceMethod (myY a)).before args s = true := hts _ (gw_of (List.mem_of_getElem? (of_decide_eq_true m1)) rfl)
  have hsel : (Jvm.Cond.selects (ownS a) (myY a) (myY a)).before args s = true := hts _ (List.mem_filter.mpr ⟨List.mem_of_getElem? (of_decide_eq_true m2), rfl⟩)
  obtain ⟨adr, hadr, hrecv⟩ : ∃ adr : Nat, tv sp ρ (2, j) = .ref adr ∧ ∃ cell : Cell, H[adr]? = some cell ∧ cell.vm.isStatics = false ∧ s.vm.findClass (ownS a) = some cell.cls := by
    by_cases hc13 : c < 13
    · obtain ⟨C, T, N, ty, f1, f2, -⟩ := KF_all c hc13
      obtain ⟨i, rfl, g1, g2, g3, g4, g5, g6, g7, g8⟩ := ob_at (cA := cA) (sp := sp) (ρ := ρ) (M := M) hkj hc13 hvj
      refine ⟨ρ i, g8, ?_⟩
      rw [← hcl, f2]
      exact va_recv hW.1 hR.1 f1 g7
    · by_cases hc96 : c = 96
      · subst hc96
        obtain ⟨i, hi, rfl⟩ := SHk_96 hkj
        refine ⟨adK i, ?_, ?_⟩
        · rw [tv_2]
          unfold rvO
          rw [if_neg (by omega), if_neg (by omega), hsp.2.2.1 i hi]
          rfl
        · rw [← hcl]
          exact vk_recv hW.2.2.2.1 hi hS
      · exfalso
        have : clN c = "" := by
          unfold clN
          have e1 : vwCl[c]? = none := by
            rw [List.getElem?_eq_none]
            show 13 ≤ c
            omega
          rw [e1]
          have e2 : Nat.beq c 96 = false := by
            cases hq : Nat.beq c 96 with
            | true => exact absurd (Nat.eq_of_beq_eq_true hq) hc96
            | false => rfl
          show (bif Nat.beq c 96 then _ else _) = _
          rw [e2]
          rfl
        rw [this] at hcl
        have hx9 := own_ne a ha
        exact hx9 hcl.symm
  have estk : (as0 ++ rest).map (tv sp ρ) = (tl.map (tv sp ρ)).reverse ++ .ref adr :: rest.map (tv sp ρ) := by
    rw [has, List.map_append, List.map_append, List.map_reverse, List.map_cons, hadr]
    simp
  have eargs : (Value.ref adr :: tl.map (tv sp ρ)).toArray = (as0.reverse.map (tv sp ρ)).toArray := by rw [hal, List.map_cons, hadr]
  have hPV : PreV s H (ownS a) adr (va_Pc (as0.reverse.map (tv sp ρ)) (fun U => WX dC dI cA sz L0 xs0 adK adV bs fm U ∧ RL dC dI cA sp sz L0 xs0 ρ G M U.heap)) (tl.map (tv sp ρ)) := ⟨fun a U g mk q => ⟨q.1, WX_same (u := U) (U := U.calling g mk a) rfl rfl q.2.1, q.2.2⟩, hrecv, (fun U hU hW1 => ⟨eargs, WX_warm hW1 hU hS hW, by rw [hU]; exact hR⟩)⟩
  have hsum : ((rest.map (tv sp ρ)).map fun v => v.category).sum ≤ 8 := by rw [cat1_sum]; exact hrest
  rcases Bool.or_eq_true_iff.mp k4 with hw | hw
  · have hw := of_decide_eq_true hw
    refine call_go (st0 := (as0 ++ rest).map (tv sp ρ)) (rest := rest) (ar := (Value.ref adr :: tl.map (tv sp ρ)).toArray) hC hS hl hvL hvr hn0 hac hret ?_
    exact va_runV (C := ownS a) (As := tl.map (tv sp ρ)) (rest := rest.map (tv sp ρ)) (nL := myM mi) ⟨hx, hb, hml, hown, hts⟩ hMet ⟨callB_of (b - 1) hts (gw_goodIn hcG) rfl rfl rfl hini (gw_good hts hw rfl) ⟨hne.1, hne.2, hnp2⟩ hRm, hinst, hsel⟩ hPV rfl (by simp [htl]) hl.1 estk (lv_room hsum) hd hroom
  · have hw := of_decide_eq_true hw
    refine call_go (st0 := (as0 ++ rest).map (tv sp ρ)) (rest := rest) (ar := (Value.ref adr :: tl.map (tv sp ρ)).toArray) hC hS hl hvL hvr hn0 hac hret ?_
    exact va_runVN (C := ownS a) (As := tl.map (tv sp ρ)) (rest := rest.map (tv sp ρ)) (nL := myM mi) ⟨hx, hb, hml, hown, hts⟩ hMet ⟨va_cnB (b - 1) hts (gw_goodIn hcG) rfl rfl rfl (hW.2.1 _ (List.mem_of_getElem? hw) rfl) hini ⟨hne.1, hne.2, hnp2⟩ hRm, hinst, hsel⟩ hPV rfl (by simp [htl]) hl.1 estk (lv_room hsum) hd hroom

end SND
