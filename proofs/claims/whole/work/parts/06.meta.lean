/-! what holds of steps and runs -/
theorem tg_mono {t : Nat} {w : MV} {k k' : Int → Prop} (h : ∀ x, k x → k' x) : tg t w k → tg t w k' := by
  obtain ⟨u, x⟩ := w
  show (bif Nat.beq u t then k x else False) → (bif Nat.beq u t then k' x else False)
  cases Nat.beq u t
  · exact id
  · exact h x
theorem st1_mono {t : Nat} {st : List MV} {k k' : Int → List MV → Prop} (h : ∀ x r, k x r → k' x r) : st1 t st k → st1 t st k' := by
  rcases st with _ | ⟨⟨u, x⟩, r⟩
  · exact id
  · show (bif Nat.beq u t then k x r else False) → (bif Nat.beq u t then k' x r else False)
    cases Nat.beq u t
    · exact id
    · exact h x r
theorem stw_mono {st : List MV} {k k' : MV → List MV → Prop} (h : ∀ x r, k x r → k' x r) : stw st k → stw st k' := by
  rcases st with _ | ⟨⟨u, x⟩, r⟩
  · exact id
  · show (bif Nat.beq u 1 then False else k (u, x) r) → (bif Nat.beq u 1 then False else k' (u, x) r)
    cases Nat.beq u 1
    · exact h _ r
    · exact id
theorem st0_mono {st : List MV} {P P' : Prop} (h : P → P') : st0 st P → st0 st P' := by
  rcases st with _ | ⟨v, r⟩
  · exact h
  · exact id
theorem b2_mono {t : Nat} {st : List MV} {k k' : Int → Int → List MV → Prop} (h : ∀ x y r, k x y r → k' x y r) : b2 t st k → b2 t st k' := st1_mono fun y _ => st1_mono fun x r => h x y r
theorem gd_mono {b : Bool} {P P' : Prop} (h : P → P') : gd b P → gd b P' := by
  cases b
  · exact id
  · exact h
theorem bif_mono {b : Bool} {P P' R R' : Prop} (h : P → P') (h2 : R → R') : (bif b then P else R) → (bif b then P' else R') := by
  cases b
  · exact h2
  · exact h
theorem br_mono {c A A' B B' : Prop} (h : A → A') (h2 : B → B') : br c A B → br c A' B' := fun q => ⟨fun x => h (q.1 x), fun x => h2 (q.2 x)⟩
theorem and_mono {c A A' : Prop} (h : A → A') : c ∧ A → c ∧ A' := fun q => ⟨q.1, h q.2⟩
theorem swt_mono {x : Int} {d d' : Prop} {k k' : Int → Prop} (h : d → d') (h2 : ∀ o, k o → k' o) : ∀ {i : Int} {l : List Int}, swt x d k i l → swt x d' k' i l := by
  intro i l
  induction l generalizing i with
  | nil => exact h
  | cons o r ih => exact fun q => ⟨fun z => h2 o (q.1 z), fun z => ih (q.2 z)⟩
theorem popA_mono {k k' : List MV → List MV → Prop} (h : ∀ a r, k a r → k' a r) : ∀ {n : Nat} {st acc : List MV}, popA n st acc k → popA n st acc k' := by
  intro n
  induction n with
  | zero => exact h _ _
  | succ n ih =>
    intro st acc
    rcases st with _ | ⟨v, st⟩
    · exact id
    · exact ih
set_option maxHeartbeats 4000000 in
theorem step_mono {lim : Nat} {call call' : Nat → List MV → GG → Mm → Po → Prop} {next next' : Nat → Lc → List MV → GG → Mm → Prop} {Q Q' : Po}
    (hc : ∀ m as G M (K K' : Po), (∀ r G M, K r G M → K' r G M) → call m as G M K → call' m as G M K') (hn : ∀ pc L st G M, next pc L st G M → next' pc L st G M) (hq : ∀ r G M, Q r G M → Q' r G M)
    {e : En} {L : Lc} {st : List MV} {G : GG} {M : Mm} : step lim call next Q e L st G M → step lim call' next' Q' e L st G M := by
  obtain ⟨pc, i, a, b, c, v, np⟩ := e
  cases i <;> first
    | exact id
    | exact hn _ _ _ _ _
    | exact tg_mono fun _ => hn _ _ _ _ _
    | exact st1_mono fun _ _ => hn _ _ _ _ _
    | exact b2_mono fun _ _ _ => hn _ _ _ _ _
    | exact b2_mono fun _ _ _ => and_mono (hn _ _ _ _ _)
    | exact st1_mono fun _ _ => st1_mono fun _ _ => hn _ _ _ _ _
    | exact stw_mono (k := fun x r => next np L (x :: x :: r) G M) (k' := fun x r => next' np L (x :: x :: r) G M) fun _ _ => hn _ _ _ _ _
    | exact stw_mono (k := fun _ r => next np L r G M) (k' := fun _ r => next' np L r G M) fun _ _ => hn _ _ _ _ _
    | exact stw_mono (k := fun x r => stw r fun y r => next np L (x :: y :: x :: y :: r) G M) (k' := fun x r => stw r fun y r => next' np L (x :: y :: x :: y :: r) G M) fun x _ => stw_mono fun _ _ => hn _ _ _ _ _
    | exact st1_mono fun _ _ => st1_mono fun _ _ => gd_mono (and_mono (hn _ _ _ _ _))
    | exact st1_mono fun _ _ => st1_mono fun _ _ => bif_mono (and_mono (hn _ _ _ _ _)) (gd_mono (and_mono (hn _ _ _ _ _)))
    | exact st1_mono fun _ _ => st1_mono fun _ _ => st1_mono fun _ _ => gd_mono (and_mono (hn _ _ _ _ _))
    | exact st1_mono fun _ _ => st1_mono fun _ _ => st1_mono fun _ _ => gd_mono (and_mono (and_mono (hn _ _ _ _ _)))
    | exact st1_mono fun _ _ => bif_mono (hn _ _ _ _ _) (bif_mono (hn _ _ _ _ _) (gd_mono (hn _ _ _ _ _)))
    | exact gd_mono (hn _ _ _ _ _)
    | exact st1_mono fun _ _ => gd_mono (and_mono (hn _ _ _ _ _))
    | exact st1_mono fun _ _ => st0_mono (bif_mono (hq _ _ _) (bif_mono (and_mono (hq _ _ _)) (bif_mono (and_mono (hq _ _ _)) (gd_mono (and_mono (hq _ _ _))))))
    | exact st1_mono fun _ _ => st0_mono (hq _ _ _)
    | exact st0_mono (hq _ _ _)
    | exact st1_mono fun _ _ => swt_mono (hn _ _ _ _ _) fun _ => hn _ _ _ _ _
    | exact st1_mono fun _ _ => gd_mono (bif_mono (hn _ _ _ _ _) (bif_mono (hn _ _ _ _ _) (bif_mono (hn _ _ _ _ _) (bif_mono (hn _ _ _ _ _) (bif_mono (hn _ _ _ _ _) (bif_mono (hn _ _ _ _ _) id))))))
    | exact bif_mono (st1_mono fun _ _ => st1_mono fun _ _ => gd_mono (bif_mono (hn _ _ _ _ _) (hn _ _ _ _ _))) (st1_mono fun _ _ => st1_mono fun _ _ => gd_mono (bif_mono (hn _ _ _ _ _) (gd_mono (and_mono (hn _ _ _ _ _)))))
    | exact popA_mono fun _ _ => gd_mono (hc _ _ _ _ _ _ fun _ _ _ => hn _ _ _ _ _)
    | exact popA_mono fun _ _ => gd_mono (bif_mono (st1_mono fun _ _ => st0_mono (gd_mono (hn _ _ _ _ _))) (gd_mono (hc _ _ _ _ _ _ fun _ _ _ => hn _ _ _ _ _)))
    | exact bif_mono (st1_mono fun _ _ => st1_mono fun _ _ => st1_mono fun _ _ => st1_mono fun _ _ => st1_mono fun _ _ => gd_mono (and_mono (hn _ _ _ _ _))) (popA_mono fun _ _ => gd_mono (hc _ _ _ _ _ _ fun _ _ _ => hn _ _ _ _ _))
    | (rename_i cc _; refine st1_mono fun _ _ => ?_; cases cc <;> exact br_mono (hn _ _ _ _ _) (hn _ _ _ _ _))
    | (rename_i cc _; refine b2_mono fun _ _ _ => ?_; cases cc <;> exact br_mono (hn _ _ _ _ _) (hn _ _ _ _ _))
theorem callX_mono {X Y : RX} (hY : monX Y) (h : ∀ d lim m pc L st G M Q, X d lim m pc L st G M Q → Y d lim m pc L st G M Q) {d : Nat} : ∀ m as G M (K K' : Po), (∀ r G M, K r G M → K' r G M) → callX X d m as G M K → callX Y d m as G M K' := by
  intro m as G M K K' hk ⟨d', e, x⟩
  exact ⟨d', e, hY _ _ _ _ _ _ _ _ _ _ (fun r G' M' => gd_mono (hk r G' M')) (h _ _ _ _ _ _ _ _ _ x)⟩
theorem Run_mon : monX Run := fun d lim m pc L st G M Q Q' h r X hm hc => hm _ _ _ _ _ _ _ _ _ _ h (r X hm hc)
theorem Run_clo : cloX Run := by
  intro d lim m pc L st G M Q L0 e r hs he hst X hm hc
  refine hc d lim m pc L st G M Q L0 e r hs he (step_mono (callX_mono hm fun d lim m pc L st G M Q h => h X hm hc) (fun pc' L' st' G' M' h => h X hm hc) (fun _ _ _ h => h) hst)
theorem Run_sub {d lim m pc : Nat} {L0 L : Lc} {st : List MV} {G : GG} {M : Mm} {Q : Po} (h : ∀ q ∈ L0, q ∈ L) (r : Run d lim m pc L0 st G M Q) : Run d lim m pc L st G M Q := by
  refine r (fun d lim m pc L st G M Q => ∀ L1, (∀ q ∈ L, q ∈ L1) → Run d lim m pc L1 st G M Q) ?_ ?_ L h
  · intro d lim m pc L st G M Q Q' hq x L1 h1
    exact Run_mon _ _ _ _ _ _ _ _ _ _ hq (x L1 h1)
  · intro d lim m pc L st G M Q L0 e r hs he hst L1 h1
    refine Run_clo d lim m pc L1 st G M Q L0 e r (fun q hq => h1 q (hs q hq)) he (step_mono (callX_mono Run_mon fun d lim m pc L st G M Q h => h L fun _ x => x) (fun pc' L' st' G' M' h => h L' fun _ x => x) (fun _ _ _ h => h) hst)
theorem ldL_mem : ∀ {L : Lc} {i t : Nat} {x : Int}, ldL L i = (t, x) → Nat.beq t 9 = false → (i, (t, x)) ∈ L := by
  intro L
  induction L with
  | nil =>
    intro i t x h h9
    cases h
    cases h9
  | cons q r ih =>
    obtain ⟨j, v⟩ := q
    intro i t x h h9
    have h : (bif Nat.beq j i then v else ldL r i) = (t, x) := h
    cases hb : Nat.beq j i with
    | true =>
      rw [hb] at h
      have e : j = i := Nat.eq_of_beq_eq_true hb
      have h : v = (t, x) := h
      rw [e, h]
      exact List.mem_cons_self
    | false =>
      rw [hb] at h
      exact List.mem_cons_of_mem _ (ih h h9)
theorem pkL_sub {L : Lc} : ∀ {l : List Nat}, ∀ q ∈ pkL l L, q ∈ L := by
  intro l
  induction l with
  | nil => intro q h; exact absurd h List.not_mem_nil
  | cons i r ih =>
    intro q h
    obtain ⟨t, x⟩ : MV := ldL L i
    cases hv : ldL L i with
    | mk t x =>
      have h : q ∈ (match ldL L i with | (t, x) => bif Nat.beq t 9 then pkL r L else (i, (t, x)) :: pkL r L) := h
      rw [hv] at h
      have h : q ∈ (bif Nat.beq t 9 then pkL r L else (i, (t, x)) :: pkL r L) := h
      cases hb : Nat.beq t 9 with
      | true => rw [hb] at h; exact ih q h
      | false =>
        rw [hb] at h
        rcases List.mem_cons.mp h with e | h
        · rw [e]; exact ldL_mem hv hb
        · exact ih q h
/-- pcs grow, and each names the next -/
def okC : List En → Bool
  | [] => true
  | [_] => true
  | e :: f :: r => Nat.blt e.1 f.1 && Nat.beq e.2.2.2.2.2.2 f.1 && okC (f :: r)
theorem okC_lt : ∀ {e : En} {r : List En}, okC (e :: r) = true → ∀ f ∈ r, e.1 < f.1 := by
  intro e r
  induction r generalizing e with
  | nil => intro _ f h; exact absurd h List.not_mem_nil
  | cons g r ih =>
    intro h f hf
    have h : (Nat.blt e.1 g.1 && Nat.beq e.2.2.2.2.2.2 g.1 && okC (g :: r)) = true := h
    simp only [Bool.and_eq_true] at h
    have h1 : e.1 < g.1 := Nat.le_of_ble_eq_true h.1.1
    rcases List.mem_cons.mp hf with rfl | hf
    · exact h1
    · exact Nat.lt_trans h1 (ih h.2 f hf)
theorem okC_tail {e : En} {r : List En} (h : okC (e :: r) = true) : okC r = true := by
  rcases r with _ | ⟨f, r⟩
  · rfl
  · have h : (Nat.blt e.1 f.1 && Nat.beq e.2.2.2.2.2.2 f.1 && okC (f :: r)) = true := h
    simp only [Bool.and_eq_true] at h
    exact h.2
theorem okC_suffix : ∀ {pre cs : List En}, okC (pre ++ cs) = true → okC cs = true := by
  intro pre cs
  induction pre with
  | nil => exact id
  | cons g pre ih => exact fun h => ih (okC_tail h)
theorem seek_suffix : ∀ {cd : List En} {e : En} {r pre : List En}, okC cd = true → cd = pre ++ e :: r → seekL cd e.1 = e :: r := by
  intro cd e r pre
  induction pre generalizing cd with
  | nil =>
    intro h hs
    subst hs
    show (bif Nat.beq e.1 e.1 then e :: r else seekL r e.1) = _
    rw [Nat.beq_refl]
    rfl
  | cons g pre ih =>
    intro h hs
    subst hs
    have hlt : g.1 < e.1 := okC_lt h e (by simp)
    show (bif Nat.beq g.1 e.1 then _ else seekL (pre ++ e :: r) e.1) = _
    have : Nat.beq g.1 e.1 = false := by
      cases hb : Nat.beq g.1 e.1 with
      | false => rfl
      | true => exact absurd (Nat.eq_of_beq_eq_true hb) (Nat.ne_of_lt hlt)
    rw [this]
    exact ih (okC_tail h) rfl
theorem seek_pre : ∀ {cd : List En} {p : Nat} {e : En} {r : List En}, seekL cd p = e :: r → e.1 = p ∧ ∃ pre, cd = pre ++ e :: r := by
  intro cd
  induction cd with
  | nil => intro p e r h; cases h
  | cons g cd ih =>
    intro p e r h
    have h : (bif Nat.beq g.1 p then g :: cd else seekL cd p) = e :: r := h
    cases hb : Nat.beq g.1 p with
    | true =>
      rw [hb] at h
      have h : g :: cd = e :: r := h
      injection h with h1 h2
      subst h1; subst h2
      exact ⟨Nat.eq_of_beq_eq_true hb, [], rfl⟩
    | false =>
      rw [hb] at h
      obtain ⟨h1, pre, h2⟩ := ih h
      exact ⟨h1, g :: pre, by rw [h2]; rfl⟩
theorem wpS_run {d lim m : Nat} {cd : List En} {cuts : List (Nat × List Nat)} {Q : Po} (hcd : codes m = cd) (hok : okC cd = true) : ∀ (k : Nat) (cs : List En) (L : Lc) (st : List MV) (G : GG) (M : Mm) (pre : List En), cd = pre ++ cs → wpS d lim m cd cuts Q k cs L st G M → ∃ e r, cs = e :: r ∧ Run d lim m e.1 L st G M Q := by
  intro k
  induction k with
  | zero =>
    intro cs L st G M pre hs h
    rcases cs with _ | ⟨e, r⟩
    · exact absurd h id
    · exact ⟨e, r, rfl, h⟩
  | succ k ih =>
    intro cs L st G M pre hs h
    rcases cs with _ | ⟨e, r⟩
    · exact absurd h id
    · refine ⟨e, r, rfl, ?_⟩
      refine Run_clo d lim m e.1 L st G M Q L e r (fun _ x => x) (by rw [hcd]; exact seek_suffix hok hs) (step_mono (call := CallP d) (callX_mono Run_mon fun _ _ _ _ _ _ _ _ _ h => h) ?_ (fun _ _ _ h => h) h)
      intro pc' L' st' G' M' h
      cases hc : cutAt cuts pc' with
      | some live =>
        simp only [hc] at h
        exact Run_sub pkL_sub h
      | none =>
        simp only [hc] at h
        cases hb : Nat.beq pc' e.2.2.2.2.2.2 with
        | true =>
          rw [hb] at h
          have h : wpS d lim m cd cuts Q k r L' st' G' M' := h
          obtain ⟨f, r2, hr, hrun⟩ := ih r L' st' G' M' (pre ++ [e]) (by rw [hs]; simp) h
          subst hr
          have h0 : okC (e :: f :: r2) = true := okC_suffix (pre := pre) (by rw [← hs]; exact hok)
          have h0 : (Nat.blt e.1 f.1 && Nat.beq e.2.2.2.2.2.2 f.1 && okC (f :: r2)) = true := h0
          simp only [Bool.and_eq_true] at h0
          rw [Nat.eq_of_beq_eq_true hb, Nat.eq_of_beq_eq_true h0.1.2]
          exact hrun
        | false =>
          rw [hb] at h
          have h : wpS d lim m cd cuts Q k (seekL cd pc') L' st' G' M' := h
          cases hsk : seekL cd pc' with
          | nil =>
            rw [hsk] at h
            cases k <;> exact absurd h id
          | cons f r2 =>
            obtain ⟨h1, pre2, h2⟩ := seek_pre hsk
            obtain ⟨f', r2', hr, hrun⟩ := ih _ L' st' G' M' pre2 (by rw [hsk]; exact h2) h
            rw [hsk] at hr
            injection hr with e1 e2
            rw [← h1, e1]
            exact hrun
theorem codes_ok : ∀ m, m < 317 → okC (codes m) = true := by decide +kernel
/-- a run, out of what the step asks for k steps, or up to the cuts -/
theorem wp_run {d lim m pc : Nat} {L : Lc} {st : List MV} {G : GG} {M : Mm} {Q : Po} (k : Nat) (cd : List En) (cuts : List (Nat × List Nat)) (hcd : codes m = cd) (hm : m < 317) (h : wpS d lim m cd cuts Q k (seekL cd pc) L st G M)   : Run d lim m pc L st G M Q := by
  have hok : okC cd = true := by rw [← hcd]; exact codes_ok m hm
  cases hsk : seekL cd pc with
  | nil =>
    rw [hsk] at h
    cases k <;> exact absurd h id
  | cons f r2 =>
    obtain ⟨h1, pre2, h2⟩ := seek_pre hsk
    obtain ⟨f', r2', hr, hrun⟩ := wpS_run hcd hok k _ L st G M pre2 (by rw [hsk]; exact h2) h
    rw [hsk] at hr
    injection hr with e1 e2
    rw [← h1, e1]
    exact hrun
theorem call_run {d m : Nat} {as : List MV} {G : GG} {M : Mm} {K : Po} (hd : 0 < d) (h : ∀ d', d = d' + 1 → Run d' (G.1 + acs m) m 0 (mkL 0 as) [] G M (fun r G' M' => gd (Nat.beq G'.1 (G.1 + acs m)) (K r G' M'))) : CallP d m as G M K := by
  obtain ⟨d', rfl⟩ : ∃ d', d = d' + 1 := ⟨d - 1, by omega⟩
  exact ⟨d', rfl, h d' rfl⟩
theorem call_mono {d m : Nat} {as : List MV} {G : GG} {M : Mm} {K K' : Po} (hk : ∀ r G M, K r G M → K' r G M) (h : CallP d m as G M K) : CallP d m as G M K' := callX_mono Run_mon (fun _ _ _ _ _ _ _ _ _ h => h) _ _ _ _ _ _ hk h
