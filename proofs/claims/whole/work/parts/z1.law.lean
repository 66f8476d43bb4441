/-! THE CLAIM OUT OF ONE WALK OF THE LAW'S BODY. Your part is whole_start (and what it stands on); all else here is the same for every law, but numbers. -/
def R_law : String := "GriddleTurnLaw"
def lw_P (b : Addr) (xs : List Int32) (args : Array Value) (s : State) : Prop := args = #[.ref b] ∧ s.IntsAt b xs ∧ xs.length ≤ 3072 ∧ (Jvm.Cond.and given_1 narrow_1).before args s = true
def lw_Q (_ : Array Value) (s : State) (o : Outcome) (t : State) : Prop := o = .returned (some (.int 1)) ∧ Framed s o t [] 600000 7302250
def lw_Z (below : List Frame) (a : Array Value) (s : State) : State → Prop := fun t => ∃ o, t.status = .running ∧ Ended t below o ∧ lw_Q a s o t
/-- the law's own end, with 1 on the stack, nothing written that was there before, its room as the claim has it -/
theorem lw_ret {p : Program} {l : Launch} {e : Env} {s : State} {m : MethodId} {below : List Frame} {meth : Method} {c : Code} {b : Nat} (hx : p.tables.exec = Jvm.exec) (hb : c.code = code) (hr : meth.sig.returnType = ret) (hlocks : meth.locks = false) {pc : Nat} {H : Heap} {ls : Array Slot} (hdg : decode code pc = .ok (.ireturn, 1)) : W p l e room_1 s m #[Value.ref b] below meth c H [] 600000 7302250 (lw_Z below #[Value.ref b] s) (F0 m pc ls [.int 1]) := by
  intro T hT X
  obtain ⟨fs, hret, hrun, hended, hW, hframe⟩ := X.leave (v := some (.int 1)) (hlocks := hlocks) (fun h => by rw [hr] at h; cases h)
  have hmeth' : T.vm.method? m = some meth := X.method'
  refine ⟨T.setFrames fs, ?_, .returned (some (.int 1)), hrun, hended, rfl, ⟨_, rfl⟩, hW, hframe⟩
  jvm_step X.here [X.here.top, hx, hb, hdg, hmeth', hr, ret, narrow_b1]
  (try refine ⟨rfl, ?_⟩); (try refine ⟨rfl, ?_⟩)
  first | (intro acts; rw [hret _ acts rfl rfl rfl]) | rw [hret _ _ rfl rfl rfl]
  exact Steps.refl _
/-- what holds at the law's entry: the machine, the code, the tables' words (any of lw_tbl by 'hts w (by decide +kernel)'), the script of L ints xs at the cell b, what the Statement gives of the start (any of its parts by flat_of_before) -/
def lw_At (p : Program) (s : State) (m : MethodId) (meth : Method) (c : Code) (b L : Nat) (xs : Nat → Int32) : Prop :=
  p.tables.exec = Jvm.exec ∧ c.code = code ∧ meth.sig.returnType = ret ∧ c.maxLocals = 4 ∧ s.vm.findClass R_law = some m.cls ∧ (∀ w ∈ lw_tbl, w.before #[Value.ref b] s = true) ∧ va_X b L xs s s.heap ∧ b < s.heap.size ∧ meth.locks = false ∧ (Jvm.Cond.and given_1 narrow_1).before #[Value.ref b] s = true
def tmS (i : Nat) : Jvm.Term := if i = 0 then .string "GriddleTurn$Reader" 172 else if i = 1 then .string "GriddleTurn$Reader" 180 else .string "GriddleTurnModel" 105
def inFl (w : Jvm.Cond) : Bool := decide (w ∈ flatC (Jvm.Cond.and given_1 narrow_1))
set_option maxRecDepth 100000 in
theorem fl_el0 : ∀ j, j < 12 → inFl (.eq (.elem (.field (tmS 0) "java/lang/String" "value" "[B") (.int (Int32.ofNat j))) (.int ((txB.getD 0 []).getD j 0))) = true := by decide +kernel
set_option maxRecDepth 100000 in
theorem fl_el1 : ∀ j, j < 78 → inFl (.eq (.elem (.field (tmS 1) "java/lang/String" "value" "[B") (.int (Int32.ofNat j))) (.int ((txB.getD 1 []).getD j 0))) = true := by decide +kernel
set_option maxRecDepth 100000 in
theorem fl_el2 : ∀ j, j < 79 → inFl (.eq (.elem (.field (tmS 2) "java/lang/String" "value" "[B") (.int (Int32.ofNat j))) (.int ((txB.getD 2 []).getD j 0))) = true := by decide +kernel
set_option maxRecDepth 100000 in
theorem fl_s : ∀ i, i < 3 → (inFl (.exactly (tmS i) "java/lang/String") && inFl (.eq (.field (tmS i) "java/lang/String" "coder" "B") (.int 0)) && inFl (.arrayOf (.field (tmS i) "java/lang/String" "value" "[B") .byte) && inFl (.eq (.length (.field (tmS i) "java/lang/String" "value" "[B")) (.int (Int32.ofNat (txL.getD i 0))))) = true := by decide +kernel
set_option maxRecDepth 100000 in
theorem fl_ne : ∀ i, i < 3 → ∀ j, j < 3 → i ≠ j → (inFl (.not (.eq (tmS i) (tmS j))) || inFl (.not (.eq (tmS j) (tmS i)))) = true := by decide +kernel
set_option maxRecDepth 100000 in
theorem fl_c : inFl (.eq (.static "java/lang/String" "COMPACT_STRINGS" "Z") (.int 1)) = true := by decide +kernel
set_option maxRecDepth 100000 in
theorem fl_f : inFl (.isRef (.static "jdk/internal/util/Preconditions" "SIOOBE_FORMATTER" "Ljava/util/function/BiFunction;")) = true := by decide +kernel
set_option maxRecDepth 100000 in
theorem fl_x : inFl (.exactly (.string "GriddleTurnModel" 143) "java/lang/String") = true := by decide +kernel
set_option maxRecDepth 100000 in
theorem fl_q : inFl (.eq (.string "GriddleTurn$Reader" 172) (.string "GriddleTurnModel" 143)) = true := by decide +kernel
theorem eqR {args : Array Value} {s : State} {t u : Jvm.Term} {a b : Nat} (h : (Jvm.Cond.eq t u).before args s = true) (ht : t.eval args s none [] s = some (.ref a)) (hu : u.eval args s none [] s = some (.ref b)) : a = b := by
  simp only [Cond.before, Cond.holds, Cond.value, ht, hu] at h
  simpa using h
set_option maxHeartbeats 4000000 in
/-- what holds at the law's start -/
theorem wx_start {p : Program} {s : State} {m : MethodId} {meth : Method} {c : Code} {b L : Nat} {xs : Nat → Int32} (hL : L ≤ 3072) (C0 : lw_At p s m meth c b L xs) :
    ∃ (dC : Nat → ClassId) (dI : Nat → Nat → Nat) (cA : Nat → ClassId) (sp : Int → Option Nat) (adK adV : Nat → Nat) (fm : Option Nat), WX dC dI cA s.heap.size (L : Int) (fun k => (xs k.toNat).toInt) adK adV b fm s ∧ spOk sp adK adV b fm := by
  obtain ⟨hx, hb, hr, hml, hown, hts0, hX, hbl, hlocks, hgv⟩ := C0
  have hts : ∀ w ∈ GW, w.before #[Value.ref b] s = true := fun w hw => hts0 w (List.mem_filter.mp hw).1
  have htb : ∀ w ∈ tables_1, w.before #[Value.ref b] s = true := fun w hw => hts0 w (List.mem_append_right _ hw)
  have hfl : ∀ w, inFl w = true → w.before #[Value.ref b] s = true := fun w hw => flat_of_before _ hgv w (of_decide_eq_true hw)
  have hA : ∀ a : Nat, a < s.heap.size → ¬ AA s.heap.size a := fun a h q => by unfold AA at q; omega
  have hcl : ∀ k : Nat, ∃ q : ClassId × (Nat → Nat), ∀ r : vw_C, vwCl[k]? = some r → u_Kn s r.1 r.2.1 r.2.2 q.1 q.2 := by
    intro k
    by_cases hk : k < 13
    · obtain ⟨C, T, N, ty, f1, f2, f3, f4, f5, f6, f7, f8, f9, f10, f11⟩ := KF_all k hk
      obtain ⟨cC, iS, h⟩ := u_known (C := C) (T := T) (N := N) (n := N) hts f5 (hts _ f10)
      exact ⟨(cC, iS), fun r hr => by
        rw [f1] at hr
        cases hr
        exact h⟩
    · exact ⟨(0, fun _ => 0), fun r hr => by
        rw [List.getElem?_eq_none (by show 13 ≤ k; omega)] at hr
        cases hr⟩
  obtain ⟨f, hf⟩ := Classical.axiomOfChoice hcl
  have har : ∀ ty : FieldType, (∀ C, ¬ ty = .object C) → (Jvm.Cond.arrayClass ty).before #[Value.ref b] s = true → ∃ cA : ClassId, ArrOfT s cA ty ∧ va_RA s cA ty := by
    intro ty hno h
    obtain ⟨c1, k1, comp, h1, h2, h3⟩ := Cond.arrayClass_spec h
    refine ⟨c1, fun n z => ⟨(fun k h => by cases h), k1, h2, comp, h3⟩, ?_⟩
    cases ty with
    | object C => exact absurd rfl (hno C)
    | _ => exact h1
  have hao : ∀ C : String, (Jvm.Cond.arrayOver (.object C)).before #[Value.ref b] s = true → ∃ cA : ClassId, ArrOfT s cA (.object C) ∧ va_RA s cA (.object C) := by
    intro C h
    obtain ⟨comp, c1, k1, h1, h2, h3, h4, h5⟩ := Cond.arrayOver_spec h
    exact ⟨c1, fun n z => ⟨(fun k h => by cases h), k1, h3, comp, h4⟩, k1, comp, h3, h4, h1, h5⟩
  obtain ⟨c13, h13⟩ := har .int (fun _ h => by cases h) (htb _ (List.mem_of_getElem? (i := 59) (by decide +kernel)))
  obtain ⟨c14, h14⟩ := har .long (fun _ h => by cases h) (htb _ (List.mem_of_getElem? (i := 407) (by decide +kernel)))
  obtain ⟨c15, h15⟩ := har .boolean (fun _ h => by cases h) (htb _ (List.mem_of_getElem? (i := 1392) (by decide +kernel)))
  have ho16 : (Jvm.Cond.arrayOver (.object "GriddleTurn$Hardness")).before #[Value.ref b] s = true := htb _ (List.mem_of_getElem? (i := 337) (by decide +kernel))
  obtain ⟨c16, h16⟩ := hao _ ho16
  have ho17 : (Jvm.Cond.arrayOver (.object "GriddleTurn$Lying")).before #[Value.ref b] s = true := htb _ (List.mem_of_getElem? (i := 387) (by decide +kernel))
  obtain ⟨c17, h17⟩ := hao _ ho17
  have ho18 : (Jvm.Cond.arrayOver (.object "GriddleTurn$Plate")).before #[Value.ref b] s = true := htb _ (List.mem_of_getElem? (i := 408) (by decide +kernel))
  obtain ⟨c18, h18⟩ := hao _ ho18
  have ho19 : (Jvm.Cond.arrayOver (.object "GriddleTurn$Tray")).before #[Value.ref b] s = true := htb _ (List.mem_of_getElem? (i := 389) (by decide +kernel))
  obtain ⟨c19, h19⟩ := hao _ ho19
  obtain ⟨adK, adV, hvs, hev⟩ := vk_Sof (args := #[Value.ref b]) (s := s) (N := 3) (tm := tmS) (len := txL) (byt := txB) (A := AA s.heap.size) (by decide)
    (fun i hi => hfl _ (Bool.and_eq_true_iff.mp (Bool.and_eq_true_iff.mp (Bool.and_eq_true_iff.mp (fl_s i hi)).1).1).1)
    (fun i hi => hfl _ (Bool.and_eq_true_iff.mp (Bool.and_eq_true_iff.mp (Bool.and_eq_true_iff.mp (fl_s i hi)).1).1).2)
    (fun i hi => hfl _ (Bool.and_eq_true_iff.mp (Bool.and_eq_true_iff.mp (fl_s i hi)).1).2)
    (fun i hi => hfl _ (Bool.and_eq_true_iff.mp (fl_s i hi)).2)
    (fun i hi j hj => by
      rcases (show i = 0 ∨ i = 1 ∨ i = 2 by omega) with rfl | rfl | rfl
      · exact hfl _ (fl_el0 j hj)
      · exact hfl _ (fl_el1 j hj)
      · exact hfl _ (fl_el2 j hj))
    (fun i j hi hj hne => (Bool.or_eq_true_iff.mp (fl_ne i hi j hj hne)).elim (fun h => Or.inl (hfl _ h)) (fun h => Or.inr (hfl _ h))) hA
  have hz1 := va_Zof (A := AA s.heap.size) (htb (.laysStatic "java/lang/String" "COMPACT_STRINGS" "Z") (List.mem_of_getElem? (i := 512) (by decide +kernel))) (htb (.initialized "java/lang/String") (List.mem_of_getElem? (i := 16) (by decide +kernel))) (va_eqi (hfl _ fl_c)) hA
  have hz2 := va_Zqof (A := AA s.heap.size) (htb (.laysStatic "jdk/internal/util/Preconditions" "SIOOBE_FORMATTER" "Ljava/util/function/BiFunction;") (List.mem_of_getElem? (i := 528) (by decide +kernel))) (htb (.initialized "jdk/internal/util/Preconditions") (List.mem_of_getElem? (i := 18) (by decide +kernel))) (hfl _ fl_f) hA
  obtain ⟨fm, hz2⟩ : ∃ fm : Option Nat, va_Z "jdk/internal/util/Preconditions" "SIOOBE_FORMATTER" "Ljava/util/function/BiFunction;" (va_rf fm) (AA s.heap.size) s s.heap := by
    rcases hz2 with h | ⟨t, h⟩
    · exact ⟨none, h⟩
    · exact ⟨some t, h⟩
  have e143 : (Jvm.Term.string "GriddleTurnModel" 143).eval #[Value.ref b] s none [] s = some (.ref (adK 0)) := by
    obtain ⟨a, c9, cA9, kA9, q1, -⟩ := Cond.exactly_spec (args := #[Value.ref b]) (first := s) (o := none) (s := s) (idx := []) (t := .string "GriddleTurnModel" 143) (cls := "java/lang/String") (hfl _ fl_x)
    rw [q1, eqR (hfl _ fl_q) (hev 0 (by omega)) q1]
  refine ⟨fun k => (f k).1, fun k => (f k).2, fun k => if k = 13 then c13 else if k = 14 then c14 else if k = 15 then c15 else if k = 16 then c16 else if k = 17 then c17 else if k = 18 then c18 else c19, fun x => if x = -1 then some b else if x = -2 then fm else if -13 < x then some (adK (-10 - x).toNat) else some (adV (-20 - x).toNat), adK, adV, fm, ⟨⟨fun k r hr => hf k r hr, ?_⟩, ?_, ?_, hvs, hz1, hz2, ?_, hbl, Nat.le_refl _, ⟨by omega, by omega⟩, fun k _ => t32_in _, vk_R.of (htb _ (List.mem_of_getElem? (i := 558) (by decide +kernel))) (hev 0 (by omega)), vk_R.of (htb _ (List.mem_of_getElem? (i := 502) (by decide +kernel))) (hev 1 (by omega)), vk_R.of (htb _ (List.mem_of_getElem? (i := 1419) (by decide +kernel))) (hev 2 (by omega)), vk_R.of (htb _ (List.mem_of_getElem? (i := 1425) (by decide +kernel))) e143⟩, rfl, rfl, ?_, ?_⟩
  · intro k q hq
    match k, hq with
    | 0, hq => cases hq; exact h13
    | 1, hq => cases hq; exact h14
    | 2, hq => cases hq; exact h15
    | 3, hq => cases hq; exact h16
    | 4, hq => cases hq; exact h17
    | 5, hq => cases hq; exact h18
    | 6, hq => cases hq; exact h19
    | k + 7, hq => simp [tysA] at hq
  · intro w hw hn
    have h0 := htb w hw
    cases w <;> first | (cases hn; done) | exact va_Nw.of rfl h0
  · intro C hC
    simp only [List.mem_cons, List.not_mem_nil, or_false] at hC
    rcases hC with rfl | rfl | rfl | rfl
    · exact ho16
    · exact ho17
    · exact ho18
    · exact ho19
  · have e : (fun k : Nat => Int32.ofInt ((fun k : Int => (xs k.toNat).toInt) (k : Int))) = xs := by
      funext k
      show Int32.ofInt (xs ((k : Int).toNat)).toInt = xs k
      rw [Int32.ofInt_toInt, Int.toNat_natCast]
    rw [e, Int.toNat_natCast]
    exact hX
  · intro i hi
    show (if _ then _ else _) = _
    rw [if_neg (by omega), if_neg (by omega), if_pos (by omega)]
    congr 2
    omega
  · intro i hi
    show (if _ then _ else _) = _
    rw [if_neg (by omega), if_neg (by omega), if_neg (by omega)]
    congr 2
    omega
set_option maxHeartbeats 4000000 in
/-- THE LAW, from its entry -/
theorem whole_start {p : Program} {e : Env} {s : State} {m : MethodId} {below : List Frame} {meth : Method} {c : Code} (l : Launch) (hflags : l.flags = flags0) {b L : Nat} {xs : Nat → Int32} (hL : L ≤ 3072) (C0 : lw_At p s m meth c b L xs) : W p l e room_1 s m #[Value.ref b] below meth c s.heap [] 0 0 (lw_Z below #[Value.ref b] s) (entryFrame m ([Value.ref b] : List Value).toArray 4) := by
  obtain ⟨dC, dI, cA, sp, adK, adV, fm, hWX, hsp⟩ := wx_start hL C0
  obtain ⟨hx, hb, hr, hml, hown, hts0, hX, hbl, hlocks, hgv⟩ := C0
  have hl := lv_entry ([.ref b]) (n := 4) (Nat.le_of_ble_eq_true rfl)
  rw [lg_entry_eq]
  generalize (lg_sl ([.ref b]) ++ List.replicate (4 - (lg_sl ([.ref b])).length) Slot.unset).toArray = ls at hl ⊢
  have hl : lv_has ls 4 [(0, .ref b)] := hl
  have hM0 : ∀ k : Nat, (fun (a k : Int) => if a = 0 then (L : Int) else (xs k.toNat).toInt) (-1) (k : Int) = (xs k).toInt := fun k => by
    show (if (-1 : Int) = 0 then (L : Int) else (xs (k : Int).toNat).toInt) = _
    rw [if_neg (by omega), Int.toNat_natCast]
  have key := run_sound (l := l) (dC := dC) (dI := dI) (cA := cA) (sp := sp) (sz := s.heap.size) (L0 := (L : Int)) (xs0 := fun k => (xs k.toNat).toInt) (adK := adK) (adV := adV) (bs := b) (fm := fm)
    (law_run (M := fun (a k : Int) => if a = 0 then (L : Int) else (xs k.toNat).toInt) (L := L) hL rfl (fun k => by rw [if_neg (by omega)]; exact t32_in _))
    p e room_1 s m #[Value.ref b] below meth c s.heap [] ls (fun _ => 0) 2 (lw_Z below #[Value.ref b] s)
    ⟨hx, hb, hml, hr, hlocks, hown, fun h => absurd h (by decide), fun w hw => hts0 w (List.mem_filter.mp hw).1, hWX, Nat.le_of_ble_eq_true rfl, Nat.le_of_ble_eq_true rfl, by omega, Nat.le_of_ble_eq_true rfl, by decide +kernel, hsp⟩
    ⟨fun k q h => by simp [wl] at h, ⟨fun i j p q h => by simp [wl] at h, fun k q h => by simp [wl] at h⟩, fun j h1 h2 => absurd h2 (by show ¬ idxO j < 2; have := idx_2 h1; omega), rfl, fun k => by show (if (-1 : Int) = 0 then (L : Int) else (xs (k : Int).toNat).toInt) = (xs (k : Int).toNat).toInt; rw [if_neg (by omega)], Nat.le_refl _, rfl, fun j h1 h2 => absurd h2 (by show ¬ idxO j < 2; have := idx_2 h1; omega), fun j h1 h2 => absurd h2 (by show ¬ idxO j < 2; have := idx_2 h1; omega)⟩
    va_S.rf ?_ ?_ (fun v hv => absurd hv List.not_mem_nil) ⟨Nat.le_refl _, by show 2 ≤ 117; omega⟩ ⟨?_, ?_, ?_⟩
  · exact key
  · have e0 : tv sp (fun _ => 0) (2, -1) = .ref b := by
      rw [tv_2]
      unfold rvO
      rw [if_neg (by omega), if_neg (by omega), hsp.1]
      rfl
    show lv_has ls 4 [(0, tv sp (fun _ => 0) (2, -1))]
    rw [e0]
    exact hl
  · intro q hq
    rcases List.mem_cons.mp hq with rfl | hq
    · exact vd_n (by omega)
    · exact absurd hq List.not_mem_nil
  · intro x G' M' ρ' H' locs' pc' ls' hq hrx hRL hS hag hn0 hd ht
    obtain ⟨hq1, hq2⟩ := hq
    have hx1 : x = 1 := congrArg Prod.snd hq1
    subst hx1
    rw [hq2]
    refine va_forget (fun q hq => hS.2.2 q hq) ?_
    refine W.widen (k := 600000) (n := 7302250) (Nat.le_of_ble_eq_true rfl) (by decide +kernel) ?_
    exact lw_ret hx hb hr hlocks hd
  · intro x G' M' ρ' H' locs' pc' ls' hq
    exact absurd (congrArg Prod.fst hq.1) (by simp)
  · intro G' M' ρ' H' locs' pc' ls' hq
    exact absurd (congrArg Prod.fst hq.1) (by simp)
set_option maxHeartbeats 4000000 in
theorem lw_walk (l : Launch) (hflags : l.flags = flags0) (b : Addr) (xs : List Int32) : MetFree l x (headSpec (Jvm.Cond.code x code maxLocals ret :: tables_1) room_1) (lw_P b xs) (fun _ _ _ _ _ => True) lw_Q := by
  refine MetFree.of_bodyS (code := code) (maxLocals := maxLocals) (ret := ret) (by decide) ?_ ?_
  · intro args s m h hn
    obtain ⟨meth, c, h1, h2, h3, h4, h5, h6, -, -⟩ := Cond.code_spec hn (atoms_spec (ws := Jvm.Cond.code x code maxLocals ret :: tables_1) h _ List.mem_cons_self)
    exact ⟨meth, c, h1, h2, h3, h4, h5, h6⟩
  · intro p e s m args below meth c s₁ B hml0 hP _
    obtain ⟨rfl, hx, hbd, hgv⟩ := hP
    obtain ⟨scr, harrAt, hlist, hof, hsmall⟩ := hx
    obtain ⟨hcb, hkn, -, -⟩ := State.arrayAt?_spec harrAt
    have hown : s.vm.findClass R_law = some m.cls := findClass_of_methodNamed B.named
    have hts0 : ∀ c ∈ (Jvm.Cond.code x code maxLocals ret :: tables_1), c.before #[Value.ref b] s = true := atoms_spec (ws := Jvm.Cond.code x code maxLocals ret :: tables_1) B.pre
    have hts : ∀ w ∈ lw_tbl, w.before #[Value.ref b] s = true := k2_hts_sels lw_privs (fun w hw => hts0 w (List.mem_cons_of_mem _ hw)) lw_privs_ok
    have hml : c.maxLocals = 4 := B.maxLocals_eq (hts0 _ List.mem_cons_self)
    have X₀ : Stand p l e room_1 s m #[Value.ref b] below meth c s₁ [] 0 0 := Stand.of_body B
    have hh0 : s₁.heap = s.heap := by rw [B.state]; rfl
    have hsz : scr.slots.size = xs.length := by rw [← Array.length_toList, hlist, List.length_map]
    have hval : ∀ j : Nat, j < xs.length → scr.slots[j]? = some (.int (xs.getD j 0)) := fun j hj => by
      rw [← Array.getElem?_toList, hlist]
      simp [hj]
    have hbl : b < s.heap.size := (Array.getElem?_eq_some_iff.mp hcb).1
    have hX : va_X b xs.length (fun j => xs.getD j 0) s s.heap := ⟨scr, hcb, hof, hkn, hsz, hval⟩
    have K : W p l e room_1 s m #[Value.ref b] below meth c s₁.heap [] 0 0 (lw_Z below #[Value.ref b] s) (entryFrame m ([Value.ref b] : List Value).toArray 4) := by
      rw [hh0]
      exact whole_start l hflags hbd ⟨B.exec, B.bytes, B.returns, hml, hown, hts, hX, hbl, B.notSynchronized, hgv⟩
    obtain ⟨t, a1, o, b1, b2, b3⟩ := K s₁ rfl X₀
    exact ⟨t, o, a1, b1, b2, b3⟩
theorem lw_pre_spec {args : Array Value} {s : State} (h : (Jvm.Cond.and given_1 narrow_1).before args s = true) (hr : rest_1_c.before args s = true) : ∃ (b : Addr) (xs : List Int32), lw_P b xs args s := by
  have hs := flat_of_before _ h
  have hq := flat_of_before _ hr
  have hc : (Cond.count 1).before args s = true := hs _ (by decide +kernel)
  have harr : (Cond.arrayOf (.arg 0) .int).before args s = true := hs _ (by decide +kernel)
  have hle : (Cond.le (.length (.arg 0)) (.int 3072)).before args s = true := hs _ (by decide +kernel)
  have hlen : (Cond.isInt (.length (.arg 0))).before args s = true := hq _ (by decide +kernel)
  have hall : (Cond.all (.arg 0) (.isInt (.elem (.arg 0) (.index 0)))).before args s = true := hq _ (by decide +kernel)
  obtain ⟨b, xs, hb, hx⟩ := State.ints_of_pre rfl harr hlen hall
  have hsm : xs.length < 2 ^ 31 := hx.choose_spec.2.2.2
  have hev : (Term.length (.arg 0)).eval args s none [] s = some (.int xs.length.toInt32) := hx.length_eval hb
  have hv := Cond.le_ints hev (show (Term.int 3072).eval args s none [] s = some (.int 3072) from rfl)
  have hd : xs.length.toInt32 ≤ 3072 := by
    simpa [Cond.before, Cond.holds, hv] using hle
  have hN : xs.length ≤ 3072 := (Int32.ofNat_le_ofNat hsm (by decide)).mp (show Int32.ofNat xs.length ≤ Int32.ofNat 3072 from hd)
  exact ⟨b, xs, Cond.one_arg hc (show args[0]? = some (.ref b) from hb), hx, hN, h⟩
theorem lw_comes (l : Launch) (hflags : l.flags = flags0) : Comes l x (Jvm.Cond.code x code maxLocals ret :: tables_1) room_1 (fun tb e args s => Calls_1 tb e args s ∧ rest_1 tb e args s ∧ Pre_1 tb e args s)
    (fun _ _ args s o t => lw_Q args s o t) := by
  intro p e ha hc hk s m args below hf hfit hheap happ hpre
  obtain ⟨b, xs, hP⟩ := lw_pre_spec hpre.2.2 hpre.2.1
  obtain ⟨k, o, h1, h2, h3, hQ⟩ := lw_walk l hflags b xs p e ha hc hk s m args below hf ((Spec.applies_iff_loose hf).mp happ).1 hP trivial
  exact ⟨k, o, h1, h2, h3, hQ⟩
theorem lw_frame {s t : State} {o : Outcome} {args : Array Value} (h : Framed s o t [] 600000 7302250) :
    Framed s o t (fieldLocs frame_1_writes args s ++ arrayLocs frame_1_arrays args s ++ staticLocs frame_1_statics s) 600000 7302250 := h
theorem lw_limb (L : Cond) (hL : ∀ (args : Array Value) (s t : State), L.after args s (.returned (some (.int 1))) t = true) :
    ArmFor flags0 classFile x code maxLocals ret World_1 tables_1 room_1 Calls_1 rest_1 Pre_1
      (fun tb e a s o t => postC L tb e a s o t ∧ Framed s o t (fieldLocs frame_1_writes a s ++ arrayLocs frame_1_arrays a s ++ staticLocs frame_1_statics s) 600000 7302250) := by
  intro l hflags _ _ p e ha hc hk s m args below hf hfit hheap happ hpre
  obtain ⟨k, o, h1, h2, h3, rfl, hF⟩ := lw_comes l hflags p e ha hc hk s m args below hf hfit hheap happ hpre
  exact ⟨k, _, h1, h2, h3, hL args s _, lw_frame hF⟩
theorem i_vc : Claimed_1_1 ∧ Claimed_1_2 := ⟨lw_limb limb_1_1 (fun args s t => by simp [limb_1_1, Cond.after, Cond.holds, Cond.value]), lw_limb limb_1_2 (fun args s t => Cond.after_iff.mpr (by
  first | (rw [show limb_1_2 = Cond.eq .result (.int 1) from rfl, Cond.eq_ints (x := 1) (y := 1) rfl rfl]; simp; done) | (simp [limb_1_2, Cond.value, Term.eval]; done)))⟩
