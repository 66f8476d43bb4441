/-! SOUNDNESS: what the step asks is enough for the machine itself, an instruction a theorem -/
theorem st1_inv {t : Nat} {st : List MV} {k : Int → List MV → Prop} (h : st1 t st k) : ∃ x r, st = (t, x) :: r ∧ k x r := by
  rcases st with _ | ⟨⟨u, x⟩, r⟩
  · exact absurd h id
  · have h : (bif Nat.beq u t then k x r else False) := h
    cases hb : Nat.beq u t with
    | false => rw [hb] at h; exact absurd h id
    | true =>
      rw [hb] at h
      rw [Nat.eq_of_beq_eq_true hb]
      exact ⟨x, r, rfl, h⟩
theorem stw_inv {st : List MV} {k : MV → List MV → Prop} (h : stw st k) : ∃ w r, st = w :: r ∧ ¬ w.1 = 1 ∧ k w r := by
  rcases st with _ | ⟨⟨u, x⟩, r⟩
  · exact absurd h id
  · have h : (bif Nat.beq u 1 then False else k (u, x) r) := h
    cases hb : Nat.beq u 1 with
    | true => rw [hb] at h; exact absurd h id
    | false =>
      rw [hb] at h
      refine ⟨(u, x), r, rfl, fun e => ?_, h⟩
      have e : u = 1 := e
      rw [e] at hb
      exact absurd hb (by decide)
theorem st0_inv {st : List MV} {P : Prop} (h : st0 st P) : st = [] ∧ P := by
  rcases st with _ | ⟨v, r⟩
  · exact ⟨rfl, h⟩
  · exact absurd h id
theorem tg_inv {t : Nat} {w : MV} {k : Int → Prop} (h : tg t w k) : ∃ x, w = (t, x) ∧ k x := by
  obtain ⟨u, x⟩ := w
  have h : (bif Nat.beq u t then k x else False) := h
  cases hb : Nat.beq u t with
  | false => rw [hb] at h; exact absurd h id
  | true =>
    rw [hb] at h
    rw [Nat.eq_of_beq_eq_true hb]
    exact ⟨x, rfl, h⟩
theorem gd_inv {b : Bool} {P : Prop} (h : gd b P) : b = true ∧ P := by
  cases b
  · exact absurd h id
  · exact ⟨rfl, h⟩
theorem b2_inv {t : Nat} {st : List MV} {k : Int → Int → List MV → Prop} (h : b2 t st k) : ∃ x y r, st = (t, y) :: (t, x) :: r ∧ k x y r := by
  obtain ⟨y, r1, e1, h1⟩ := st1_inv (show st1 t st (fun y r => st1 t r fun x r => k x y r) from h)
  obtain ⟨x, r2, e2, h2⟩ := st1_inv h1
  exact ⟨x, y, r2, by rw [e1, e2], h2⟩
theorem popA_inv {k : List MV → List MV → Prop} : ∀ {n : Nat} {st acc : List MV}, popA n st acc k → ∃ as r, st = as ++ r ∧ as.length = n ∧ k (as.reverse ++ acc) r := by
  intro n
  induction n with
  | zero => intro st acc h; exact ⟨[], st, rfl, rfl, h⟩
  | succ n ih =>
    intro st acc h
    rcases st with _ | ⟨v, st⟩
    · exact absurd h id
    · obtain ⟨as, r, e, hl, h⟩ := ih (acc := v :: acc) h
      exact ⟨v :: as, r, by rw [e]; rfl, by simp [hl], by simpa using h⟩
section SND
variable (l : Launch) (dC : Nat → ClassId) (dI : Nat → Nat → Nat) (cA : Nat → ClassId) (sp : Int → Option Nat) (sz : Nat) (L0 : Int) (xs0 : Int → Int) (adK adV : Nat → Nat) (bs : Nat) (fm : Option Nat)
def CXT (p : Program) (R : Room) (s : State) (m : MethodId) (args : Array Value) (meth : Method) (c : Code) (d lim mi n0 : Nat) : Prop :=
  p.tables.exec = Jvm.exec ∧ c.code = myB mi ∧ c.maxLocals = myM mi ∧ meth.sig.returnType = myR mi ∧ meth.locks = false ∧ s.vm.findClass (ownS mi) = some m.cls ∧ ((myY mi).name = "<init>" → meth.name = "<init>")
  ∧ (∀ w ∈ GW, w.before args s = true) ∧ WX dC dI cA sz L0 xs0 adK adV bs fm s ∧ d + 1 ≤ R.frames ∧ 60 * (d + 1) ≤ R.locals ∧ mi < 317 ∧ lim - n0 ≤ R.cells ∧ slo lim - slo n0 ≤ R.slots ∧ spOk sp adK adV bs fm
def RET (Q : Po) (ρ : Nat → Nat) (n0 : Nat) (p : Program) (e : Env) (R : Room) (s : State) (m : MethodId) (args : Array Value) (below : List Frame) (meth : Method) (c : Code) (mi : Nat) (Qm : State → Prop) : Prop :=
  (∀ x G' M' ρ' H' locs' pc' ls', Q (0, x) G' M' → r32 x → RL dC dI cA sp sz L0 xs0 ρ' G' M' H' → va_S (AA sz) s.heap H' locs' → (∀ j, idxO j < n0 → ρ' j = ρ j) → n0 ≤ G'.1 → decode (myB mi) pc' = .ok (.ireturn, 1) → (∃ ty, myR mi = some ty ∧ narrow ty (.int (Int32.ofInt x)) = .int (Int32.ofInt x)) →
    W p l e R s m args below meth c H' locs' (G'.1 - n0) (slo G'.1 - slo n0) Qm (F0 m pc' ls' [.int (Int32.ofInt x)]))
  ∧ (∀ x G' M' ρ' H' locs' pc' ls', Q (1, x) G' M' → r64 x → RL dC dI cA sp sz L0 xs0 ρ' G' M' H' → va_S (AA sz) s.heap H' locs' → (∀ j, idxO j < n0 → ρ' j = ρ j) → n0 ≤ G'.1 → decode (myB mi) pc' = .ok (.lreturn, 1) → myR mi = some .long →
    W p l e R s m args below meth c H' locs' (G'.1 - n0) (slo G'.1 - slo n0) Qm (F0 m pc' ls' [.long (Int64.ofInt x)]))
  ∧ (∀ G' M' ρ' H' locs' pc' ls', Q (9, 0) G' M' → RL dC dI cA sp sz L0 xs0 ρ' G' M' H' → va_S (AA sz) s.heap H' locs' → (∀ j, idxO j < n0 → ρ' j = ρ j) → n0 ≤ G'.1 → decode (myB mi) pc' = .ok (.return_, 1) → myR mi = none →
    W p l e R s m args below meth c H' locs' (G'.1 - n0) (slo G'.1 - slo n0) Qm (F0 m pc' ls' []))
def SX : RX := fun d lim mi pc L st G M Q => ∀ (p : Program) (e : Env) (R : Room) (s : State) (m : MethodId) (args : Array Value) (below : List Frame) (meth : Method) (c : Code) (H : Heap) (locs : List Loc) (ls : Array Slot) (ρ : Nat → Nat) (n0 : Nat) (Qm : State → Prop),
  CXT dC dI cA sp sz L0 xs0 adK adV bs fm p R s m args meth c d lim mi n0 → RL dC dI cA sp sz L0 xs0 ρ G M H → va_S (AA sz) s.heap H locs → lv_has ls (myM mi) (L.map fun q => (q.1, tv sp ρ q.2)) → (∀ q ∈ L, vd G.1 q.2) → (∀ v ∈ st, vd G.1 v) → n0 ≤ G.1 ∧ G.1 ≤ lim →
  RET l dC dI cA sp sz L0 xs0 Q ρ n0 p e R s m args below meth c mi Qm → W p l e R s m args below meth c H locs (G.1 - n0) (slo G.1 - slo n0) Qm (F0 m pc ls (st.map (tv sp ρ)))
/-- what is owed of an instruction -/
def SOK (i : Instr) : Prop := ∀ (d lim mi pc a b c v np) (L : Lc) (st : List MV) (G : GG) (M : Mm) (Q : Po) (p : Program) (e : Env) (R : Room) (s : State) (m : MethodId) (args : Array Value) (below : List Frame) (meth : Method) (cc : Code) (H : Heap) (locs : List Loc) (ls : Array Slot) (ρ : Nat → Nat) (n0 : Nat) (Qm : State → Prop),
  CXT dC dI cA sp sz L0 xs0 adK adV bs fm p R s m args meth cc d lim mi n0 → RL dC dI cA sp sz L0 xs0 ρ G M H → va_S (AA sz) s.heap H locs → lv_has ls (myM mi) (L.map fun q => (q.1, tv sp ρ q.2)) → (∀ q ∈ L, vd G.1 q.2) → (∀ v ∈ st, vd G.1 v) → n0 ≤ G.1 ∧ G.1 ≤ lim →
  RET l dC dI cA sp sz L0 xs0 Q ρ n0 p e R s m args below meth cc mi Qm → decode (myB mi) pc = .ok (i, np - pc) → eokX mi (pc, i, a, b, c, v, np) = true → (pc, i, a, b, c, v, np) ∈ codes mi →
  step lim (callX (SX l dC dI cA sp sz L0 xs0 adK adV bs fm) d) (fun pc' L' st' G' M' => SX l dC dI cA sp sz L0 xs0 adK adV bs fm d lim mi pc' L' st' G' M' Q) Q (pc, i, a, b, c, v, np) L st G M →
  W p l e R s m args below meth cc H locs (G.1 - n0) (slo G.1 - slo n0) Qm (F0 m pc ls (st.map (tv sp ρ)))
variable {l dC dI cA sp sz L0 xs0 adK adV bs fm}
theorem vd_i {n : Nat} {x : Int} (h : vd n (0, x)) : r32 x := by
  rcases h with h | h | h
  · exact h.2
  · exact absurd h.1 (by simp)
  · exact absurd h.1 (by simp)
theorem vd_l {n : Nat} {x : Int} (h : vd n (1, x)) : r64 x := by
  rcases h with h | h | h
  · exact absurd h.1 (by simp)
  · exact h.2
  · exact absurd h.1 (by simp)
theorem vd_r {n : Nat} {x : Int} (h : vd n (2, x)) : idxI x < n := by
  rcases h with h | h | h
  · exact absurd h.1 (by simp)
  · exact absurd h.1 (by simp)
  · exact h.2
theorem vd_0 {n : Nat} {x : Int} (h : r32 x) : vd n (0, x) := Or.inl ⟨rfl, h⟩
theorem vd_1 {n : Nat} {x : Int} (h : r64 x) : vd n (1, x) := Or.inr (Or.inl ⟨rfl, h⟩)
theorem vd_2 {n : Nat} {x : Int} (h : idxI x < n) : vd n (2, x) := Or.inr (Or.inr ⟨rfl, h⟩)
theorem vd_n {n : Nat} {x : Int} (h : x < 0) : vd n (2, x) := vd_2 (by rw [idxI_neg (by omega)]; omega)
theorem vd_c {n : Nat} {w : MV} {r : List MV} (h1 : vd n w) (h2 : ∀ v ∈ r, vd n v) : ∀ v ∈ w :: r, vd n v := fun v hv => (List.mem_cons.mp hv).elim (fun e => e ▸ h1) (h2 v)
theorem vd_h {n : Nat} {w : MV} {r : List MV} (h : ∀ v ∈ w :: r, vd n v) : vd n w := h w List.mem_cons_self
theorem vd_t {n : Nat} {w : MV} {r : List MV} (h : ∀ v ∈ w :: r, vd n v) : ∀ v ∈ r, vd n v := fun v hv => h v (List.mem_cons_of_mem _ hv)
theorem ld_at {ρ : Nat → Nat} {L : Lc} {ls : Array Slot} {n a t : Nat} {x : Int} (hl : lv_has ls n (L.map fun q => (q.1, tv sp ρ q.2))) (h : ldL L a = (t, x)) (h9 : Nat.beq t 9 = false) : ls[a]? = some (.val (tv sp ρ (t, x))) :=
  hl.2.2 (a, tv sp ρ (t, x)) (List.mem_map.mpr ⟨_, ldL_mem h h9, rfl⟩)
theorem ld_vd {L : Lc} {n a t : Nat} {x : Int} (hv : ∀ q ∈ L, vd n q.2) (h : ldL L a = (t, x)) (h9 : Nat.beq t 9 = false) : vd n (t, x) := hv _ (ldL_mem h h9)
theorem drL_sub {L : Lc} {i : Nat} : ∀ q ∈ drL L i, q ∈ L := by
  induction L with
  | nil => intro q h; exact h
  | cons w r ih =>
    obtain ⟨j, v⟩ := w
    intro q h
    have h : q ∈ (bif Nat.beq j i || (Nat.beq (j + 1) i && Nat.beq v.1 1) then drL r i else (j, v) :: drL r i) := h
    cases hb : (Nat.beq j i || (Nat.beq (j + 1) i && Nat.beq v.1 1)) with
    | true => rw [hb] at h; exact List.mem_cons_of_mem _ (ih q h)
    | false =>
      rw [hb] at h
      rcases List.mem_cons.mp h with e | h
      · rw [e]; exact List.mem_cons_self
      · exact List.mem_cons_of_mem _ (ih q h)
theorem drL_map {ρ : Nat → Nat} {L : Lc} {i : Nat} : (drL L i).map (fun q => (q.1, tv sp ρ q.2)) = (L.map fun q => (q.1, tv sp ρ q.2)).filter (fun q => !(q.1 == i) && !(q.1 + 1 == i && q.2.category == 2)) := by
  induction L with
  | nil => rfl
  | cons w r ih =>
    obtain ⟨j, v⟩ := w
    have e2 : ((tv sp ρ v).category == 2) = Nat.beq v.1 1 := by
      rw [tv_cat]
      by_cases h : v.1 = 1
      · rw [if_pos h, h]; rfl
      · rw [if_neg h]
        cases hb : Nat.beq v.1 1 with
        | false => rfl
        | true => exact absurd (Nat.eq_of_beq_eq_true hb) h
    have e0 : ∀ a b : Nat, (a == b) = Nat.beq a b := fun a b => by
      by_cases h : a = b
      · subst h
        rw [Nat.beq_refl]
        simp
      · cases hb : Nat.beq a b with
        | false => simpa using h
        | true => exact absurd (Nat.eq_of_beq_eq_true hb) h
    show (bif Nat.beq j i || (Nat.beq (j + 1) i && Nat.beq v.1 1) then drL r i else (j, v) :: drL r i).map _ = _
    have hB : (!(j == i) && !(j + 1 == i && (tv sp ρ v).category == 2)) = !(Nat.beq j i || (Nat.beq (j + 1) i && Nat.beq v.1 1)) := by
      rw [e2, e0, e0]
      cases Nat.beq j i <;> cases Nat.beq (j + 1) i <;> cases Nat.beq v.1 1 <;> rfl
    rw [List.map_cons]
    cases hc : (Nat.beq j i || (Nat.beq (j + 1) i && Nat.beq v.1 1)) with
    | true =>
      rw [hc] at hB
      rw [List.filter_cons_of_neg (by show ¬ (!(j == i) && !(j + 1 == i && (tv sp ρ v).category == 2)) = true; rw [hB]; simp), ← ih]
      rfl
    | false =>
      rw [hc] at hB
      rw [List.filter_cons_of_pos (by show (!(j == i) && !(j + 1 == i && (tv sp ρ v).category == 2)) = true; rw [hB]; simp), ← ih]
      rfl
theorem drL_map2 {ρ : Nat → Nat} {L : Lc} {i : Nat} : (drL (drL L i) (i + 1)).map (fun q => (q.1, tv sp ρ q.2)) = (L.map fun q => (q.1, tv sp ρ q.2)).filter (fun q => !(q.1 == i) && (!(q.1 == i + 1) && !(q.1 + 1 == i && q.2.category == 2))) := by
  rw [drL_map, drL_map, List.filter_filter]
  refine List.filter_congr fun q _ => ?_
  have e : (q.1 + 1 == i + 1) = (q.1 == i) := by simp
  rw [e]
  cases (q.1 == i) <;> cases (q.1 == i + 1) <;> cases (q.1 + 1 == i) <;> cases (q.2.category == 2) <;> rfl
theorem cmp64_in (x y : Int) : r32 (cmp64 x y) := by
  unfold cmp64 r32
  split
  · omega
  · split <;> omega

theorem sok_iadd : SOK l dC dI cA sp sz L0 xs0 adK adV bs fm (.iadd) := by
  intro d lim mi pc a b c v np L st G M Q p e R s m args below meth cc H locs ls ρ n0 Qm hC hR hS hl hvL hvS hn0 hret hd hk hen hst
  obtain ⟨hx, hb, hml, hr, hlk, hown, hnm, hts, hW, hfr, hlo, hmi, hce, hsl, hsp⟩ := id hC
  obtain ⟨hk1, hk2⟩ := Bool.and_eq_true_iff.mp hk
  have hnp : np = pc + 1 := Nat.eq_of_beq_eq_true hk1
  subst hnp
  rw [Nat.add_sub_cancel_left] at hd
  obtain ⟨x, y, r, rfl, hst⟩ := b2_inv hst
  have hy := vd_i (vd_h hvS)
  have hxx := vd_i (vd_h (vd_t hvS))
  refine lv_iadd (x := Int32.ofInt x) (y := Int32.ofInt y) (rest := r.map (tv sp ρ)) hx hb hd ?_
  have e1 : Int32.ofInt x + Int32.ofInt y = Int32.ofInt (w32 (x + y)) := by rw [o32_w, Int32.ofInt_add]
  rw [e1]
  exact hst p e R s m args below meth cc H locs ls ρ n0 Qm hC hR hS hl hvL (vd_c (vd_0 (w32_in _)) (vd_t (vd_t hvS))) hn0 hret

theorem sok_isub : SOK l dC dI cA sp sz L0 xs0 adK adV bs fm (.isub) := by
  intro d lim mi pc a b c v np L st G M Q p e R s m args below meth cc H locs ls ρ n0 Qm hC hR hS hl hvL hvS hn0 hret hd hk hen hst
  obtain ⟨hx, hb, hml, hr, hlk, hown, hnm, hts, hW, hfr, hlo, hmi, hce, hsl, hsp⟩ := id hC
  obtain ⟨hk1, hk2⟩ := Bool.and_eq_true_iff.mp hk
  have hnp : np = pc + 1 := Nat.eq_of_beq_eq_true hk1
  subst hnp
  rw [Nat.add_sub_cancel_left] at hd
  obtain ⟨x, y, r, rfl, hst⟩ := b2_inv hst
  have hy := vd_i (vd_h hvS)
  have hxx := vd_i (vd_h (vd_t hvS))
  refine lv_isub (x := Int32.ofInt x) (y := Int32.ofInt y) (rest := r.map (tv sp ρ)) hx hb hd ?_
  have e1 : Int32.ofInt x - Int32.ofInt y = Int32.ofInt (w32 (x - y)) := by rw [o32_w, Int32.ofInt_sub]
  rw [e1]
  exact hst p e R s m args below meth cc H locs ls ρ n0 Qm hC hR hS hl hvL (vd_c (vd_0 (w32_in _)) (vd_t (vd_t hvS))) hn0 hret

theorem sok_imul : SOK l dC dI cA sp sz L0 xs0 adK adV bs fm (.imul) := by
  intro d lim mi pc a b c v np L st G M Q p e R s m args below meth cc H locs ls ρ n0 Qm hC hR hS hl hvL hvS hn0 hret hd hk hen hst
  obtain ⟨hx, hb, hml, hr, hlk, hown, hnm, hts, hW, hfr, hlo, hmi, hce, hsl, hsp⟩ := id hC
  obtain ⟨hk1, hk2⟩ := Bool.and_eq_true_iff.mp hk
  have hnp : np = pc + 1 := Nat.eq_of_beq_eq_true hk1
  subst hnp
  rw [Nat.add_sub_cancel_left] at hd
  obtain ⟨x, y, r, rfl, hst⟩ := b2_inv hst
  have hy := vd_i (vd_h hvS)
  have hxx := vd_i (vd_h (vd_t hvS))
  refine lv_imul (x := Int32.ofInt x) (y := Int32.ofInt y) (rest := r.map (tv sp ρ)) hx hb hd ?_
  have e1 : Int32.ofInt x * Int32.ofInt y = Int32.ofInt (w32 (x * y)) := by rw [o32_w, Int32.ofInt_mul]
  rw [e1]
  exact hst p e R s m args below meth cc H locs ls ρ n0 Qm hC hR hS hl hvL (vd_c (vd_0 (w32_in _)) (vd_t (vd_t hvS))) hn0 hret

theorem sok_idiv : SOK l dC dI cA sp sz L0 xs0 adK adV bs fm (.idiv) := by
  intro d lim mi pc a b c v np L st G M Q p e R s m args below meth cc H locs ls ρ n0 Qm hC hR hS hl hvL hvS hn0 hret hd hk hen hst
  obtain ⟨hx, hb, hml, hr, hlk, hown, hnm, hts, hW, hfr, hlo, hmi, hce, hsl, hsp⟩ := id hC
  obtain ⟨hk1, hk2⟩ := Bool.and_eq_true_iff.mp hk
  have hnp : np = pc + 1 := Nat.eq_of_beq_eq_true hk1
  subst hnp
  rw [Nat.add_sub_cancel_left] at hd
  obtain ⟨x, y, r, rfl, hst⟩ := b2_inv hst
  obtain ⟨hne, hst⟩ := hst
  have hy := vd_i (vd_h hvS)
  have hxx := vd_i (vd_h (vd_t hvS))
  refine lv_idiv (x := Int32.ofInt x) (y := Int32.ofInt y) (rest := r.map (tv sp ρ)) hx hb hd (fun q => hne ((o32_eq hy ⟨by decide, by decide⟩).mp (q.trans o32_0))) ?_
  have e1 : Int32.ofInt x / Int32.ofInt y = Int32.ofInt (div32 x y) := (Int32.ofInt_toInt _).symm
  rw [e1]
  exact hst p e R s m args below meth cc H locs ls ρ n0 Qm hC hR hS hl hvL (vd_c (vd_0 (t32_in _)) (vd_t (vd_t hvS))) hn0 hret

theorem sok_irem : SOK l dC dI cA sp sz L0 xs0 adK adV bs fm (.irem) := by
  intro d lim mi pc a b c v np L st G M Q p e R s m args below meth cc H locs ls ρ n0 Qm hC hR hS hl hvL hvS hn0 hret hd hk hen hst
  obtain ⟨hx, hb, hml, hr, hlk, hown, hnm, hts, hW, hfr, hlo, hmi, hce, hsl, hsp⟩ := id hC
  obtain ⟨hk1, hk2⟩ := Bool.and_eq_true_iff.mp hk
  have hnp : np = pc + 1 := Nat.eq_of_beq_eq_true hk1
  subst hnp
  rw [Nat.add_sub_cancel_left] at hd
  obtain ⟨x, y, r, rfl, hst⟩ := b2_inv hst
  obtain ⟨hne, hst⟩ := hst
  have hy := vd_i (vd_h hvS)
  have hxx := vd_i (vd_h (vd_t hvS))
  refine lv_irem (x := Int32.ofInt x) (y := Int32.ofInt y) (rest := r.map (tv sp ρ)) hx hb hd (fun q => hne ((o32_eq hy ⟨by decide, by decide⟩).mp (q.trans o32_0))) ?_
  have e1 : Int32.ofInt x - Int32.ofInt x / Int32.ofInt y * Int32.ofInt y = Int32.ofInt (rem32 x y) := (Int32.ofInt_toInt _).symm
  rw [e1]
  exact hst p e R s m args below meth cc H locs ls ρ n0 Qm hC hR hS hl hvL (vd_c (vd_0 (t32_in _)) (vd_t (vd_t hvS))) hn0 hret

theorem sok_iand : SOK l dC dI cA sp sz L0 xs0 adK adV bs fm (.iand) := by
  intro d lim mi pc a b c v np L st G M Q p e R s m args below meth cc H locs ls ρ n0 Qm hC hR hS hl hvL hvS hn0 hret hd hk hen hst
  obtain ⟨hx, hb, hml, hr, hlk, hown, hnm, hts, hW, hfr, hlo, hmi, hce, hsl, hsp⟩ := id hC
  obtain ⟨hk1, hk2⟩ := Bool.and_eq_true_iff.mp hk
  have hnp : np = pc + 1 := Nat.eq_of_beq_eq_true hk1
  subst hnp
  rw [Nat.add_sub_cancel_left] at hd
  obtain ⟨x, y, r, rfl, hst⟩ := b2_inv hst
  have hy := vd_i (vd_h hvS)
  have hxx := vd_i (vd_h (vd_t hvS))
  refine lv_iand (x := Int32.ofInt x) (y := Int32.ofInt y) (rest := r.map (tv sp ρ)) hx hb hd ?_
  have e1 : Int32.ofInt x &&& Int32.ofInt y = Int32.ofInt (and32 x y) := (Int32.ofInt_toInt _).symm
  rw [e1]
  exact hst p e R s m args below meth cc H locs ls ρ n0 Qm hC hR hS hl hvL (vd_c (vd_0 (t32_in _)) (vd_t (vd_t hvS))) hn0 hret

theorem sok_ior : SOK l dC dI cA sp sz L0 xs0 adK adV bs fm (.ior) := by
  intro d lim mi pc a b c v np L st G M Q p e R s m args below meth cc H locs ls ρ n0 Qm hC hR hS hl hvL hvS hn0 hret hd hk hen hst
  obtain ⟨hx, hb, hml, hr, hlk, hown, hnm, hts, hW, hfr, hlo, hmi, hce, hsl, hsp⟩ := id hC
  obtain ⟨hk1, hk2⟩ := Bool.and_eq_true_iff.mp hk
  have hnp : np = pc + 1 := Nat.eq_of_beq_eq_true hk1
  subst hnp
  rw [Nat.add_sub_cancel_left] at hd
  obtain ⟨x, y, r, rfl, hst⟩ := b2_inv hst
  have hy := vd_i (vd_h hvS)
  have hxx := vd_i (vd_h (vd_t hvS))
  refine lv_ior (x := Int32.ofInt x) (y := Int32.ofInt y) (rest := r.map (tv sp ρ)) hx hb hd ?_
  have e1 : Int32.ofInt x ||| Int32.ofInt y = Int32.ofInt (ior32 x y) := (Int32.ofInt_toInt _).symm
  rw [e1]
  exact hst p e R s m args below meth cc H locs ls ρ n0 Qm hC hR hS hl hvL (vd_c (vd_0 (t32_in _)) (vd_t (vd_t hvS))) hn0 hret

theorem sok_ixor : SOK l dC dI cA sp sz L0 xs0 adK adV bs fm (.ixor) := by
  intro d lim mi pc a b c v np L st G M Q p e R s m args below meth cc H locs ls ρ n0 Qm hC hR hS hl hvL hvS hn0 hret hd hk hen hst
  obtain ⟨hx, hb, hml, hr, hlk, hown, hnm, hts, hW, hfr, hlo, hmi, hce, hsl, hsp⟩ := id hC
  obtain ⟨hk1, hk2⟩ := Bool.and_eq_true_iff.mp hk
  have hnp : np = pc + 1 := Nat.eq_of_beq_eq_true hk1
  subst hnp
  rw [Nat.add_sub_cancel_left] at hd
  obtain ⟨x, y, r, rfl, hst⟩ := b2_inv hst
  have hy := vd_i (vd_h hvS)
  have hxx := vd_i (vd_h (vd_t hvS))
  refine lv_ixor (x := Int32.ofInt x) (y := Int32.ofInt y) (rest := r.map (tv sp ρ)) hx hb hd ?_
  have e1 : Int32.ofInt x ^^^ Int32.ofInt y = Int32.ofInt (xor32 x y) := (Int32.ofInt_toInt _).symm
  rw [e1]
  exact hst p e R s m args below meth cc H locs ls ρ n0 Qm hC hR hS hl hvL (vd_c (vd_0 (t32_in _)) (vd_t (vd_t hvS))) hn0 hret

theorem sok_ishl : SOK l dC dI cA sp sz L0 xs0 adK adV bs fm (.ishl) := by
  intro d lim mi pc a b c v np L st G M Q p e R s m args below meth cc H locs ls ρ n0 Qm hC hR hS hl hvL hvS hn0 hret hd hk hen hst
  obtain ⟨hx, hb, hml, hr, hlk, hown, hnm, hts, hW, hfr, hlo, hmi, hce, hsl, hsp⟩ := id hC
  obtain ⟨hk1, hk2⟩ := Bool.and_eq_true_iff.mp hk
  have hnp : np = pc + 1 := Nat.eq_of_beq_eq_true hk1
  subst hnp
  rw [Nat.add_sub_cancel_left] at hd
  obtain ⟨x, y, r, rfl, hst⟩ := b2_inv hst
  have hy := vd_i (vd_h hvS)
  have hxx := vd_i (vd_h (vd_t hvS))
  refine lv_ishl (x := Int32.ofInt x) (y := Int32.ofInt y) (rest := r.map (tv sp ρ)) hx hb hd ?_
  have e1 : Int32.ofInt x <<< (Int32.ofInt y &&& 31) = Int32.ofInt (shl32 x y) := (Int32.ofInt_toInt _).symm
  rw [e1]
  exact hst p e R s m args below meth cc H locs ls ρ n0 Qm hC hR hS hl hvL (vd_c (vd_0 (t32_in _)) (vd_t (vd_t hvS))) hn0 hret

theorem sok_ishr : SOK l dC dI cA sp sz L0 xs0 adK adV bs fm (.ishr) := by
  intro d lim mi pc a b c v np L st G M Q p e R s m args below meth cc H locs ls ρ n0 Qm hC hR hS hl hvL hvS hn0 hret hd hk hen hst
  obtain ⟨hx, hb, hml, hr, hlk, hown, hnm, hts, hW, hfr, hlo, hmi, hce, hsl, hsp⟩ := id hC
  obtain ⟨hk1, hk2⟩ := Bool.and_eq_true_iff.mp hk
  have hnp : np = pc + 1 := Nat.eq_of_beq_eq_true hk1
  subst hnp
  rw [Nat.add_sub_cancel_left] at hd
  obtain ⟨x, y, r, rfl, hst⟩ := b2_inv hst
  have hy := vd_i (vd_h hvS)
  have hxx := vd_i (vd_h (vd_t hvS))
  refine lv_ishr (x := Int32.ofInt x) (y := Int32.ofInt y) (rest := r.map (tv sp ρ)) hx hb hd ?_
  have e1 : Int32.ofInt x >>> (Int32.ofInt y &&& 31) = Int32.ofInt (shr32 x y) := (Int32.ofInt_toInt _).symm
  rw [e1]
  exact hst p e R s m args below meth cc H locs ls ρ n0 Qm hC hR hS hl hvL (vd_c (vd_0 (t32_in _)) (vd_t (vd_t hvS))) hn0 hret

theorem sok_iushr : SOK l dC dI cA sp sz L0 xs0 adK adV bs fm (.iushr) := by
  intro d lim mi pc a b c v np L st G M Q p e R s m args below meth cc H locs ls ρ n0 Qm hC hR hS hl hvL hvS hn0 hret hd hk hen hst
  obtain ⟨hx, hb, hml, hr, hlk, hown, hnm, hts, hW, hfr, hlo, hmi, hce, hsl, hsp⟩ := id hC
  obtain ⟨hk1, hk2⟩ := Bool.and_eq_true_iff.mp hk
  have hnp : np = pc + 1 := Nat.eq_of_beq_eq_true hk1
  subst hnp
  rw [Nat.add_sub_cancel_left] at hd
  obtain ⟨x, y, r, rfl, hst⟩ := b2_inv hst
  refine lv_iushr (x := Int32.ofInt x) (y := Int32.ofInt y) (v := Int32.ofInt (ush32 x y)) (rest := r.map (tv sp ρ)) hx hb hd (Int32.ofInt_toInt _).symm ?_
  exact hst p e R s m args below meth cc H locs ls ρ n0 Qm hC hR hS hl hvL (vd_c (vd_0 (t32_in _)) (vd_t (vd_t hvS))) hn0 hret

theorem sok_ineg : SOK l dC dI cA sp sz L0 xs0 adK adV bs fm (.ineg) := by
  intro d lim mi pc a b c v np L st G M Q p e R s m args below meth cc H locs ls ρ n0 Qm hC hR hS hl hvL hvS hn0 hret hd hk hen hst
  obtain ⟨hx, hb, hml, hr, hlk, hown, hnm, hts, hW, hfr, hlo, hmi, hce, hsl, hsp⟩ := id hC
  obtain ⟨hk1, hk2⟩ := Bool.and_eq_true_iff.mp hk
  have hnp : np = pc + 1 := Nat.eq_of_beq_eq_true hk1
  subst hnp
  rw [Nat.add_sub_cancel_left] at hd
  obtain ⟨x, r, rfl, hst⟩ := st1_inv hst
  refine lv_ineg (x := Int32.ofInt x) (rest := r.map (tv sp ρ)) hx hb hd ?_
  have e1 : -Int32.ofInt x = Int32.ofInt (w32 (-x)) := by rw [o32_w, Int32.ofInt_neg]
  first | rw [e1] | rw [show (0 : Int32) - Int32.ofInt x = Int32.ofInt (w32 (-x)) by rw [← e1]; simp]
  exact hst p e R s m args below meth cc H locs ls ρ n0 Qm hC hR hS hl hvL (vd_c (vd_0 (w32_in _)) (vd_t hvS)) hn0 hret

theorem sok_ladd : SOK l dC dI cA sp sz L0 xs0 adK adV bs fm (.ladd) := by
  intro d lim mi pc a b c v np L st G M Q p e R s m args below meth cc H locs ls ρ n0 Qm hC hR hS hl hvL hvS hn0 hret hd hk hen hst
  obtain ⟨hx, hb, hml, hr, hlk, hown, hnm, hts, hW, hfr, hlo, hmi, hce, hsl, hsp⟩ := id hC
  obtain ⟨hk1, hk2⟩ := Bool.and_eq_true_iff.mp hk
  have hnp : np = pc + 1 := Nat.eq_of_beq_eq_true hk1
  subst hnp
  rw [Nat.add_sub_cancel_left] at hd
  obtain ⟨x, y, r, rfl, hst⟩ := b2_inv hst
  have hy := vd_l (vd_h hvS)
  have hxx := vd_l (vd_h (vd_t hvS))
  refine lv_ladd (x := Int64.ofInt x) (y := Int64.ofInt y) (rest := r.map (tv sp ρ)) hx hb hd ?_
  have e1 : Int64.ofInt x + Int64.ofInt y = Int64.ofInt (w64 (x + y)) := by rw [o64_w, Int64.ofInt_add]
  rw [e1]
  exact hst p e R s m args below meth cc H locs ls ρ n0 Qm hC hR hS hl hvL (vd_c (vd_1 (w64_in _)) (vd_t (vd_t hvS))) hn0 hret

theorem sok_lsub : SOK l dC dI cA sp sz L0 xs0 adK adV bs fm (.lsub) := by
  intro d lim mi pc a b c v np L st G M Q p e R s m args below meth cc H locs ls ρ n0 Qm hC hR hS hl hvL hvS hn0 hret hd hk hen hst
  obtain ⟨hx, hb, hml, hr, hlk, hown, hnm, hts, hW, hfr, hlo, hmi, hce, hsl, hsp⟩ := id hC
  obtain ⟨hk1, hk2⟩ := Bool.and_eq_true_iff.mp hk
  have hnp : np = pc + 1 := Nat.eq_of_beq_eq_true hk1
  subst hnp
  rw [Nat.add_sub_cancel_left] at hd
  obtain ⟨x, y, r, rfl, hst⟩ := b2_inv hst
  have hy := vd_l (vd_h hvS)
  have hxx := vd_l (vd_h (vd_t hvS))
  refine lv_lsub (x := Int64.ofInt x) (y := Int64.ofInt y) (rest := r.map (tv sp ρ)) hx hb hd ?_
  have e1 : Int64.ofInt x - Int64.ofInt y = Int64.ofInt (w64 (x - y)) := by rw [o64_w, Int64.ofInt_sub]
  rw [e1]
  exact hst p e R s m args below meth cc H locs ls ρ n0 Qm hC hR hS hl hvL (vd_c (vd_1 (w64_in _)) (vd_t (vd_t hvS))) hn0 hret

theorem sok_lmul : SOK l dC dI cA sp sz L0 xs0 adK adV bs fm (.lmul) := by
  intro d lim mi pc a b c v np L st G M Q p e R s m args below meth cc H locs ls ρ n0 Qm hC hR hS hl hvL hvS hn0 hret hd hk hen hst
  obtain ⟨hx, hb, hml, hr, hlk, hown, hnm, hts, hW, hfr, hlo, hmi, hce, hsl, hsp⟩ := id hC
  obtain ⟨hk1, hk2⟩ := Bool.and_eq_true_iff.mp hk
  have hnp : np = pc + 1 := Nat.eq_of_beq_eq_true hk1
  subst hnp
  rw [Nat.add_sub_cancel_left] at hd
  obtain ⟨x, y, r, rfl, hst⟩ := b2_inv hst
  have hy := vd_l (vd_h hvS)
  have hxx := vd_l (vd_h (vd_t hvS))
  refine lv_lmul (x := Int64.ofInt x) (y := Int64.ofInt y) (rest := r.map (tv sp ρ)) hx hb hd ?_
  have e1 : Int64.ofInt x * Int64.ofInt y = Int64.ofInt (w64 (x * y)) := by rw [o64_w, Int64.ofInt_mul]
  rw [e1]
  exact hst p e R s m args below meth cc H locs ls ρ n0 Qm hC hR hS hl hvL (vd_c (vd_1 (w64_in _)) (vd_t (vd_t hvS))) hn0 hret

theorem sok_ldiv : SOK l dC dI cA sp sz L0 xs0 adK adV bs fm (.ldiv) := by
  intro d lim mi pc a b c v np L st G M Q p e R s m args below meth cc H locs ls ρ n0 Qm hC hR hS hl hvL hvS hn0 hret hd hk hen hst
  obtain ⟨hx, hb, hml, hr, hlk, hown, hnm, hts, hW, hfr, hlo, hmi, hce, hsl, hsp⟩ := id hC
  obtain ⟨hk1, hk2⟩ := Bool.and_eq_true_iff.mp hk
  have hnp : np = pc + 1 := Nat.eq_of_beq_eq_true hk1
  subst hnp
  rw [Nat.add_sub_cancel_left] at hd
  obtain ⟨x, y, r, rfl, hst⟩ := b2_inv hst
  obtain ⟨hne, hst⟩ := hst
  have hy := vd_l (vd_h hvS)
  have hxx := vd_l (vd_h (vd_t hvS))
  refine lv_ldiv (x := Int64.ofInt x) (y := Int64.ofInt y) (rest := r.map (tv sp ρ)) hx hb hd (fun q => hne (by have q2 := congrArg Int64.toInt q; rw [o64_to hy.1 hy.2] at q2; exact q2)) ?_
  have e1 : Int64.ofInt x / Int64.ofInt y = Int64.ofInt (div64 x y) := (Int64.ofInt_toInt _).symm
  rw [e1]
  exact hst p e R s m args below meth cc H locs ls ρ n0 Qm hC hR hS hl hvL (vd_c (vd_1 (t64_in _)) (vd_t (vd_t hvS))) hn0 hret

theorem sok_lrem : SOK l dC dI cA sp sz L0 xs0 adK adV bs fm (.lrem) := by
  intro d lim mi pc a b c v np L st G M Q p e R s m args below meth cc H locs ls ρ n0 Qm hC hR hS hl hvL hvS hn0 hret hd hk hen hst
  obtain ⟨hx, hb, hml, hr, hlk, hown, hnm, hts, hW, hfr, hlo, hmi, hce, hsl, hsp⟩ := id hC
  obtain ⟨hk1, hk2⟩ := Bool.and_eq_true_iff.mp hk
  have hnp : np = pc + 1 := Nat.eq_of_beq_eq_true hk1
  subst hnp
  rw [Nat.add_sub_cancel_left] at hd
  obtain ⟨x, y, r, rfl, hst⟩ := b2_inv hst
  obtain ⟨hne, hst⟩ := hst
  have hy := vd_l (vd_h hvS)
  have hxx := vd_l (vd_h (vd_t hvS))
  refine lv_lrem (x := Int64.ofInt x) (y := Int64.ofInt y) (rest := r.map (tv sp ρ)) hx hb hd (fun q => hne (by have q2 := congrArg Int64.toInt q; rw [o64_to hy.1 hy.2] at q2; exact q2)) ?_
  have e1 : Int64.ofInt x - Int64.ofInt x / Int64.ofInt y * Int64.ofInt y = Int64.ofInt (rem64 x y) := (Int64.ofInt_toInt _).symm
  rw [e1]
  exact hst p e R s m args below meth cc H locs ls ρ n0 Qm hC hR hS hl hvL (vd_c (vd_1 (t64_in _)) (vd_t (vd_t hvS))) hn0 hret

theorem sok_land : SOK l dC dI cA sp sz L0 xs0 adK adV bs fm (.land) := by
  intro d lim mi pc a b c v np L st G M Q p e R s m args below meth cc H locs ls ρ n0 Qm hC hR hS hl hvL hvS hn0 hret hd hk hen hst
  obtain ⟨hx, hb, hml, hr, hlk, hown, hnm, hts, hW, hfr, hlo, hmi, hce, hsl, hsp⟩ := id hC
  obtain ⟨hk1, hk2⟩ := Bool.and_eq_true_iff.mp hk
  have hnp : np = pc + 1 := Nat.eq_of_beq_eq_true hk1
  subst hnp
  rw [Nat.add_sub_cancel_left] at hd
  obtain ⟨x, y, r, rfl, hst⟩ := b2_inv hst
  have hy := vd_l (vd_h hvS)
  have hxx := vd_l (vd_h (vd_t hvS))
  refine lv_land (x := Int64.ofInt x) (y := Int64.ofInt y) (rest := r.map (tv sp ρ)) hx hb hd ?_
  have e1 : Int64.ofInt x &&& Int64.ofInt y = Int64.ofInt (and64 x y) := (Int64.ofInt_toInt _).symm
  rw [e1]
  exact hst p e R s m args below meth cc H locs ls ρ n0 Qm hC hR hS hl hvL (vd_c (vd_1 (t64_in _)) (vd_t (vd_t hvS))) hn0 hret

theorem sok_lor : SOK l dC dI cA sp sz L0 xs0 adK adV bs fm (.lor) := by
  intro d lim mi pc a b c v np L st G M Q p e R s m args below meth cc H locs ls ρ n0 Qm hC hR hS hl hvL hvS hn0 hret hd hk hen hst
  obtain ⟨hx, hb, hml, hr, hlk, hown, hnm, hts, hW, hfr, hlo, hmi, hce, hsl, hsp⟩ := id hC
  obtain ⟨hk1, hk2⟩ := Bool.and_eq_true_iff.mp hk
  have hnp : np = pc + 1 := Nat.eq_of_beq_eq_true hk1
  subst hnp
  rw [Nat.add_sub_cancel_left] at hd
  obtain ⟨x, y, r, rfl, hst⟩ := b2_inv hst
  have hy := vd_l (vd_h hvS)
  have hxx := vd_l (vd_h (vd_t hvS))
  refine lv_lor (x := Int64.ofInt x) (y := Int64.ofInt y) (rest := r.map (tv sp ρ)) hx hb hd ?_
  have e1 : Int64.ofInt x ||| Int64.ofInt y = Int64.ofInt (ior64 x y) := (Int64.ofInt_toInt _).symm
  rw [e1]
  exact hst p e R s m args below meth cc H locs ls ρ n0 Qm hC hR hS hl hvL (vd_c (vd_1 (t64_in _)) (vd_t (vd_t hvS))) hn0 hret

theorem sok_lcmp : SOK l dC dI cA sp sz L0 xs0 adK adV bs fm (.lcmp) := by
  intro d lim mi pc a b c v np L st G M Q p e R s m args below meth cc H locs ls ρ n0 Qm hC hR hS hl hvL hvS hn0 hret hd hk hen hst
  obtain ⟨hx, hb, hml, hr, hlk, hown, hnm, hts, hW, hfr, hlo, hmi, hce, hsl, hsp⟩ := id hC
  obtain ⟨hk1, hk2⟩ := Bool.and_eq_true_iff.mp hk
  have hnp : np = pc + 1 := Nat.eq_of_beq_eq_true hk1
  subst hnp
  rw [Nat.add_sub_cancel_left] at hd
  obtain ⟨x, y, r, rfl, hst⟩ := b2_inv hst
  refine W.lcmp (x := Int64.ofInt x) (y := Int64.ofInt y) (rest := r.map (tv sp ρ)) hx hb hd ?_
  rw [o64_cmp (vd_l (vd_h (vd_t hvS))) (vd_l (vd_h hvS))]
  exact hst p e R s m args below meth cc H locs ls ρ n0 Qm hC hR hS hl hvL (vd_c (vd_0 (cmp64_in x y)) (vd_t (vd_t hvS))) hn0 hret

theorem sok_lshl : SOK l dC dI cA sp sz L0 xs0 adK adV bs fm (.lshl) := by
  intro d lim mi pc a b c v np L st G M Q p e R s m args below meth cc H locs ls ρ n0 Qm hC hR hS hl hvL hvS hn0 hret hd hk hen hst
  obtain ⟨hx, hb, hml, hr, hlk, hown, hnm, hts, hW, hfr, hlo, hmi, hce, hsl, hsp⟩ := id hC
  obtain ⟨hk1, hk2⟩ := Bool.and_eq_true_iff.mp hk
  have hnp : np = pc + 1 := Nat.eq_of_beq_eq_true hk1
  subst hnp
  rw [Nat.add_sub_cancel_left] at hd
  obtain ⟨y, r, rfl, hst⟩ := st1_inv hst
  obtain ⟨x, r, rfl, hst⟩ := st1_inv hst
  refine lv_lshl (x := Int64.ofInt x) (y := Int32.ofInt y) (v := Int64.ofInt (shl64 x y)) (rest := r.map (tv sp ρ)) hx hb hd (Int64.ofInt_toInt _).symm ?_
  exact hst p e R s m args below meth cc H locs ls ρ n0 Qm hC hR hS hl hvL (vd_c (vd_1 (t64_in _)) (vd_t (vd_t hvS))) hn0 hret

theorem sok_lshr : SOK l dC dI cA sp sz L0 xs0 adK adV bs fm (.lshr) := by
  intro d lim mi pc a b c v np L st G M Q p e R s m args below meth cc H locs ls ρ n0 Qm hC hR hS hl hvL hvS hn0 hret hd hk hen hst
  obtain ⟨hx, hb, hml, hr, hlk, hown, hnm, hts, hW, hfr, hlo, hmi, hce, hsl, hsp⟩ := id hC
  obtain ⟨hk1, hk2⟩ := Bool.and_eq_true_iff.mp hk
  have hnp : np = pc + 1 := Nat.eq_of_beq_eq_true hk1
  subst hnp
  rw [Nat.add_sub_cancel_left] at hd
  obtain ⟨y, r, rfl, hst⟩ := st1_inv hst
  obtain ⟨x, r, rfl, hst⟩ := st1_inv hst
  refine lv_lshr (x := Int64.ofInt x) (y := Int32.ofInt y) (v := Int64.ofInt (shr64 x y)) (rest := r.map (tv sp ρ)) hx hb hd (Int64.ofInt_toInt _).symm ?_
  exact hst p e R s m args below meth cc H locs ls ρ n0 Qm hC hR hS hl hvL (vd_c (vd_1 (t64_in _)) (vd_t (vd_t hvS))) hn0 hret

theorem sok_i2l : SOK l dC dI cA sp sz L0 xs0 adK adV bs fm (.i2l) := by
  intro d lim mi pc a b c v np L st G M Q p e R s m args below meth cc H locs ls ρ n0 Qm hC hR hS hl hvL hvS hn0 hret hd hk hen hst
  obtain ⟨hx, hb, hml, hr, hlk, hown, hnm, hts, hW, hfr, hlo, hmi, hce, hsl, hsp⟩ := id hC
  obtain ⟨hk1, hk2⟩ := Bool.and_eq_true_iff.mp hk
  have hnp : np = pc + 1 := Nat.eq_of_beq_eq_true hk1
  subst hnp
  rw [Nat.add_sub_cancel_left] at hd
  obtain ⟨x, r, rfl, hst⟩ := st1_inv hst
  have hxx := vd_i (vd_h hvS)
  refine lv_i2l (x := Int32.ofInt x) (v := Int64.ofInt x) (rest := r.map (tv sp ρ)) hx hb hd (o32_l hxx.1 hxx.2) ?_
  exact hst p e R s m args below meth cc H locs ls ρ n0 Qm hC hR hS hl hvL (vd_c (vd_1 ⟨by have := hxx.1; omega, by have := hxx.2; omega⟩) (vd_t hvS)) hn0 hret

theorem sok_l2i : SOK l dC dI cA sp sz L0 xs0 adK adV bs fm (.l2i) := by
  intro d lim mi pc a b c v np L st G M Q p e R s m args below meth cc H locs ls ρ n0 Qm hC hR hS hl hvL hvS hn0 hret hd hk hen hst
  obtain ⟨hx, hb, hml, hr, hlk, hown, hnm, hts, hW, hfr, hlo, hmi, hce, hsl, hsp⟩ := id hC
  obtain ⟨hk1, hk2⟩ := Bool.and_eq_true_iff.mp hk
  have hnp : np = pc + 1 := Nat.eq_of_beq_eq_true hk1
  subst hnp
  rw [Nat.add_sub_cancel_left] at hd
  obtain ⟨x, r, rfl, hst⟩ := st1_inv hst
  have hxx := vd_l (vd_h hvS)
  refine lv_l2i (x := Int64.ofInt x) (v := Int32.ofInt (w32 x)) (rest := r.map (tv sp ρ)) hx hb hd (o64_i hxx.1 hxx.2) ?_
  exact hst p e R s m args below meth cc H locs ls ρ n0 Qm hC hR hS hl hvL (vd_c (vd_0 (w32_in _)) (vd_t hvS)) hn0 hret

theorem sok_i2b : SOK l dC dI cA sp sz L0 xs0 adK adV bs fm (.i2b) := by
  intro d lim mi pc a b c v np L st G M Q p e R s m args below meth cc H locs ls ρ n0 Qm hC hR hS hl hvL hvS hn0 hret hd hk hen hst
  obtain ⟨hx, hb, hml, hr, hlk, hown, hnm, hts, hW, hfr, hlo, hmi, hce, hsl, hsp⟩ := id hC
  obtain ⟨hk1, hk2⟩ := Bool.and_eq_true_iff.mp hk
  have hnp : np = pc + 1 := Nat.eq_of_beq_eq_true hk1
  subst hnp
  rw [Nat.add_sub_cancel_left] at hd
  obtain ⟨x, r, rfl, hst⟩ := st1_inv hst
  refine lv_i2b (x := Int32.ofInt x) (v := Int32.ofInt (cut8 x)) (rest := r.map (tv sp ρ)) hx hb hd (Int32.ofInt_toInt _).symm ?_
  exact hst p e R s m args below meth cc H locs ls ρ n0 Qm hC hR hS hl hvL (vd_c (vd_0 (t32_in _)) (vd_t hvS)) hn0 hret

theorem sok_i2s : SOK l dC dI cA sp sz L0 xs0 adK adV bs fm (.i2s) := by
  intro d lim mi pc a b c v np L st G M Q p e R s m args below meth cc H locs ls ρ n0 Qm hC hR hS hl hvL hvS hn0 hret hd hk hen hst
  obtain ⟨hx, hb, hml, hr, hlk, hown, hnm, hts, hW, hfr, hlo, hmi, hce, hsl, hsp⟩ := id hC
  obtain ⟨hk1, hk2⟩ := Bool.and_eq_true_iff.mp hk
  have hnp : np = pc + 1 := Nat.eq_of_beq_eq_true hk1
  subst hnp
  rw [Nat.add_sub_cancel_left] at hd
  obtain ⟨x, r, rfl, hst⟩ := st1_inv hst
  refine lv_i2s (x := Int32.ofInt x) (v := Int32.ofInt (cut16 x)) (rest := r.map (tv sp ρ)) hx hb hd (Int32.ofInt_toInt _).symm ?_
  exact hst p e R s m args below meth cc H locs ls ρ n0 Qm hC hR hS hl hvL (vd_c (vd_0 (t32_in _)) (vd_t hvS)) hn0 hret

theorem sok_i2c : SOK l dC dI cA sp sz L0 xs0 adK adV bs fm (.i2c) := by
  intro d lim mi pc a b c v np L st G M Q p e R s m args below meth cc H locs ls ρ n0 Qm hC hR hS hl hvL hvS hn0 hret hd hk hen hst
  obtain ⟨hx, hb, hml, hr, hlk, hown, hnm, hts, hW, hfr, hlo, hmi, hce, hsl, hsp⟩ := id hC
  obtain ⟨hk1, hk2⟩ := Bool.and_eq_true_iff.mp hk
  have hnp : np = pc + 1 := Nat.eq_of_beq_eq_true hk1
  subst hnp
  rw [Nat.add_sub_cancel_left] at hd
  obtain ⟨x, r, rfl, hst⟩ := st1_inv hst
  refine lv_i2c (x := Int32.ofInt x) (v := Int32.ofInt (cutC x)) (rest := r.map (tv sp ρ)) hx hb hd (Int32.ofInt_toInt _).symm ?_
  exact hst p e R s m args below meth cc H locs ls ρ n0 Qm hC hR hS hl hvL (vd_c (vd_0 (t32_in _)) (vd_t hvS)) hn0 hret

theorem sok_dup : SOK l dC dI cA sp sz L0 xs0 adK adV bs fm (.dup) := by
  intro d lim mi pc a b c v np L st G M Q p e R s m args below meth cc H locs ls ρ n0 Qm hC hR hS hl hvL hvS hn0 hret hd hk hen hst
  obtain ⟨hx, hb, hml, hr, hlk, hown, hnm, hts, hW, hfr, hlo, hmi, hce, hsl, hsp⟩ := id hC
  obtain ⟨hk1, hk2⟩ := Bool.and_eq_true_iff.mp hk
  have hnp : np = pc + 1 := Nat.eq_of_beq_eq_true hk1
  subst hnp
  rw [Nat.add_sub_cancel_left] at hd
  have hst : stw st (fun x r => SX l dC dI cA sp sz L0 xs0 adK adV bs fm d lim mi (pc + 1) L (x :: x :: r) G M Q) := hst
  obtain ⟨w, r, rfl, h1, hst⟩ := stw_inv hst
  refine lv_dup (va := tv sp ρ w) (rest := r.map (tv sp ρ)) hx hb hd (by rw [tv_cat, if_neg h1]) ?_
  exact hst p e R s m args below meth cc H locs ls ρ n0 Qm hC hR hS hl hvL (vd_c (vd_h hvS) hvS) hn0 hret

theorem sok_pop : SOK l dC dI cA sp sz L0 xs0 adK adV bs fm (.pop) := by
  intro d lim mi pc a b c v np L st G M Q p e R s m args below meth cc H locs ls ρ n0 Qm hC hR hS hl hvL hvS hn0 hret hd hk hen hst
  obtain ⟨hx, hb, hml, hr, hlk, hown, hnm, hts, hW, hfr, hlo, hmi, hce, hsl, hsp⟩ := id hC
  obtain ⟨hk1, hk2⟩ := Bool.and_eq_true_iff.mp hk
  have hnp : np = pc + 1 := Nat.eq_of_beq_eq_true hk1
  subst hnp
  rw [Nat.add_sub_cancel_left] at hd
  have hst : stw st (fun _ r => SX l dC dI cA sp sz L0 xs0 adK adV bs fm d lim mi (pc + 1) L r G M Q) := hst
  obtain ⟨w, r, rfl, h1, hst⟩ := stw_inv hst
  refine lv_pop (va := tv sp ρ w) (rest := r.map (tv sp ρ)) hx hb hd (by rw [tv_cat, if_neg h1]) ?_
  exact hst p e R s m args below meth cc H locs ls ρ n0 Qm hC hR hS hl hvL (vd_t hvS) hn0 hret

theorem sok_dup2 : SOK l dC dI cA sp sz L0 xs0 adK adV bs fm (.dup2) := by
  intro d lim mi pc a b c v np L st G M Q p e R s m args below meth cc H locs ls ρ n0 Qm hC hR hS hl hvL hvS hn0 hret hd hk hen hst
  obtain ⟨hx, hb, hml, hr, hlk, hown, hnm, hts, hW, hfr, hlo, hmi, hce, hsl, hsp⟩ := id hC
  obtain ⟨hk1, hk2⟩ := Bool.and_eq_true_iff.mp hk
  have hnp : np = pc + 1 := Nat.eq_of_beq_eq_true hk1
  subst hnp
  rw [Nat.add_sub_cancel_left] at hd
  have hst : stw st (fun x r => stw r fun y r => SX l dC dI cA sp sz L0 xs0 adK adV bs fm d lim mi (pc + 1) L (x :: y :: x :: y :: r) G M Q) := hst
  obtain ⟨w, r1, rfl, h1, hst⟩ := stw_inv hst
  obtain ⟨w2, r, rfl, h2, hst⟩ := stw_inv hst
  refine lv_dup2_11 (va := tv sp ρ w) (vb := tv sp ρ w2) (rest := r.map (tv sp ρ)) hx hb hd (by rw [tv_cat, if_neg h1]) (by rw [tv_cat, if_neg h2]) ?_
  exact hst p e R s m args below meth cc H locs ls ρ n0 Qm hC hR hS hl hvL (vd_c (vd_h hvS) (vd_c (vd_h (vd_t hvS)) hvS)) hn0 hret

end SND
