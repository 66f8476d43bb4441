/-! WHAT HOLDS BETWEEN THE CALLS -/
def CI (n : Nat) (cm ch : Option (List Nat)) (ln : Int) (σ : Ds) (ts : Nat → Int) (tl : Nat → Nat) (tv : Nat → Nat → Int) (im : Nat → Option Im) (f : Nat) (T : Nat → Int) (fk fp : Int) (M : Mm) : Prop := KK n cm ch M ∧ HCs n cm M ∧ (M 12 4 = (n : Int) ∧ M 12 6 = ln) ∧ DSC σ M ∧ TrC ts tl tv M ∧ ImC im M ∧ (M 3 1 = (f : Int) ∧ ∀ i : Nat, i < f → M 4 (i : Int) = T i) ∧ (M 3 11 = fk ∧ M 3 12 = fp)
def RI (n : Nat) (cm ch : Option (List Nat)) (ln : Int) (σ : Ds) (ts : Nat → Int) (tl : Nat → Nat) (tv : Nat → Nat → Int) (im : Nat → Option Im) (f : Nat) (T : Nat → Int) (fk fp : Int) (M : Mm) : Prop := Rit n cm ch M ∧ M 92 0 = ln ∧ DSR σ M ∧ TrR ts tl tv M ∧ ImR im M ∧ (M 91 5 = (f : Int) ∧ ∀ i : Nat, i < f → M 94 (i : Int) = T i) ∧ (M 91 13 = fk ∧ M 91 14 = fp)
def PI (n : Nat) (σ : Ds) (im : Nat → Option Im) (f : Nat) (T : Nat → Int) : Prop := DSK n σ ∧ (∀ i I, im i = some I → ImK I) ∧ TxOK T f
def IV (L : Nat) (sc : Int → Int) (M : Mm) : Prop := (M 0 0 = (L : Int) ∧ ∀ b : Int, M (-1) b = sc b) ∧ ∃ (n : Nat) (cm ch : Option (List Nat)) (ln : Int) (σ : Ds) (ts : Nat → Int) (tl : Nat → Nat) (tv : Nat → Nat → Int) (im : Nat → Option Im) (f : Nat) (T : Nat → Int) (fk fp : Int), CI n cm ch ln σ ts tl tv im f T fk fp M ∧ RI n cm ch ln σ ts tl tv im f T fk fp M ∧ PI n σ im f T
section
variable {n : Nat} {cm ch : Option (List Nat)} {ln : Int} {σ : Ds} {ts : Nat → Int} {tl : Nat → Nat} {tv : Nat → Nat → Int} {im : Nat → Option Im} {f : Nat} {T : Nat → Int} {fk fp : Int} {M M' : Mm}
theorem ci_k (h : CI n cm ch ln σ ts tl tv im f T fk fp M) (hk : KK n cm ch M') (hh : HCs n cm M') (hf : ∀ a b : Int, (2 ≤ a ∧ a ≤ 14 ∨ a = 51 ∨ 53 ≤ a ∧ a ≤ 90) → M' a b = M a b) : CI n cm ch ln σ ts tl tv im f T fk fp M' := by
  obtain ⟨h1, h2, h3, h4, h5, h6, h7, h8⟩ := h
  exact ⟨hk, hh, ⟨(hf _ _ (by omega)).trans h3.1, (hf _ _ (by omega)).trans h3.2⟩, dsc_fr h4 (fun a b g => hf _ _ (by omega)), trC_fr h5 (fun a b g1 g2 => hf _ _ (by omega)), imC_fr h6 (fun a b g => hf _ _ (by omega)), ⟨(hf _ _ (by omega)).trans h7.1, fun i hi => (hf _ _ (by omega)).trans (h7.2 i hi)⟩, (hf _ _ (by omega)).trans h8.1, (hf _ _ (by omega)).trans h8.2⟩
theorem ci_fr (h : CI n cm ch ln σ ts tl tv im f T fk fp M) (hf : ∀ a b : Int, 1 ≤ a → a ≤ 90 → M' a b = M a b) : CI n cm ch ln σ ts tl tv im f T fk fp M' := ci_k h (kk_fr h.1 (fun a b g1 g2 _ _ => hf _ _ (by omega) (by omega))) (hcs_fr h.2.1 (fun a b g1 g2 => hf _ _ (by omega) (by omega))) (fun a b g => hf _ _ (by omega) (by omega))
theorem ci_sf (h : CI n cm ch ln σ ts tl tv im f T fk fp M) (f1 : SF M M') (hk : KK n cm ch M') : CI n cm ch ln σ ts tl tv im f T fk fp M' := ci_k h hk (hcs_fr h.2.1 (fun a b g1 g2 => f1 _ _ (by omega))) (fun a b g => f1 _ _ (by omega))
theorem ci_sfh (h : CI n cm ch ln σ ts tl tv im f T fk fp M) (f1 : SFH M M') (hk : KK n cm ch M') (hh : HCs n cm M') : CI n cm ch ln σ ts tl tv im f T fk fp M' := ci_k h hk hh (fun a b g => f1 _ _ (by omega))
theorem ci_28 (h : CI n cm ch ln σ ts tl tv im f T fk fp M) (f1 : ∀ a b : Int, ¬ a = 28 → ¬ a = 29 → M' a b = M a b) : CI n cm ch ln σ ts tl tv im f T fk fp M' := ci_k h (kk_fr h.1 (fun a b g1 g2 g3 g4 => f1 _ _ g3 g4)) (hcs_fr h.2.1 (fun a b g1 g2 => f1 _ _ (by omega) (by omega))) (fun a b g => f1 _ _ (by omega) (by omega))
theorem ci_df {σ' : Ds} (h : CI n cm ch ln σ ts tl tv im f T fk fp M) (f1 : DF M M') (hd : DSC σ' M') : CI n cm ch ln σ' ts tl tv im f T fk fp M' := by
  obtain ⟨h1, h2, h3, h4, h5, h6, h7, h8⟩ := h
  exact ⟨kk_fr h1 (fun a b g1 g2 g3 g4 => f1 _ _ g3 g4 (by omega) (by omega)), hcs_fr h2 (fun a b g1 g2 => f1 _ _ (by omega) (by omega) (by omega) (by omega)), ⟨(f1 _ _ (by omega) (by omega) (by omega) (by omega)).trans h3.1, (f1 _ _ (by omega) (by omega) (by omega) (by omega)).trans h3.2⟩, hd, trC_fr h5 (fun a b g1 g2 => f1 _ _ (by omega) (by omega) (by omega) (by omega)), imC_fr h6 (fun a b g => f1 _ _ (by omega) (by omega) (by omega) (by omega)), ⟨(f1 _ _ (by omega) (by omega) (by omega) (by omega)).trans h7.1, fun i hi => (f1 _ _ (by omega) (by omega) (by omega) (by omega)).trans (h7.2 i hi)⟩, (f1 _ _ (by omega) (by omega) (by omega) (by omega)).trans h8.1, (f1 _ _ (by omega) (by omega) (by omega) (by omega)).trans h8.2⟩
theorem ci_tr {ts' : Nat → Int} {tl' : Nat → Nat} {tv' : Nat → Nat → Int} (h : CI n cm ch ln σ ts tl tv im f T fk fp M) (f1 : ∀ a b : Int, (a < 64 ∨ 72 < a) → M' a b = M a b) (ht : TrC ts' tl' tv' M') : CI n cm ch ln σ ts' tl' tv' im f T fk fp M' := by
  obtain ⟨h1, h2, h3, h4, h5, h6, h7, h8⟩ := h
  exact ⟨kk_fr h1 (fun a b g1 g2 g3 g4 => f1 _ _ (by omega)), hcs_fr h2 (fun a b g1 g2 => f1 _ _ (by omega)), ⟨(f1 _ _ (by omega)).trans h3.1, (f1 _ _ (by omega)).trans h3.2⟩, dsc_fr h4 (fun a b g => f1 _ _ (by omega)), ht, imC_fr h6 (fun a b g => f1 _ _ (by omega)), ⟨(f1 _ _ (by omega)).trans h7.1, fun i hi => (f1 _ _ (by omega)).trans (h7.2 i hi)⟩, (f1 _ _ (by omega)).trans h8.1, (f1 _ _ (by omega)).trans h8.2⟩
theorem ci_im {im' : Nat → Option Im} (h : CI n cm ch ln σ ts tl tv im f T fk fp M) (f1 : IF M M') (hi : ImC im' M') : CI n cm ch ln σ ts tl tv im' f T fk fp M' := by
  obtain ⟨h1, h2, h3, h4, h5, h6, h7, h8⟩ := h
  exact ⟨kk_fr h1 (fun a b g1 g2 g3 g4 => f1 _ _ (by omega) (by omega)), hcs_fr h2 (fun a b g1 g2 => f1 _ _ (by omega) (by omega)), ⟨(f1 _ _ (by omega) (by omega)).trans h3.1, (f1 _ _ (by omega) (by omega)).trans h3.2⟩, dsc_fr h4 (fun a b g => f1 _ _ (by omega) (by omega)), trC_fr h5 (fun a b g1 g2 => f1 _ _ (by omega) (by omega)), hi, ⟨(f1 _ _ (by omega) (by omega)).trans h7.1, fun i hi => (f1 _ _ (by omega) (by omega)).trans (h7.2 i hi)⟩, (f1 _ _ (by omega) (by omega)).trans h8.1, (f1 _ _ (by omega) (by omega)).trans h8.2⟩
theorem ri_fr (hp : PI n σ im f T) (h : RI n cm ch ln σ ts tl tv im f T fk fp M) (hf : ∀ a b : Int, 91 ≤ a → M' a b = M a b) : RI n cm ch ln σ ts tl tv im f T fk fp M' := by
  obtain ⟨h1, h2, h3, h4, h5, h6, h7⟩ := h
  exact ⟨rit_fr h1 (hf _ _ (by omega)) (fun b _ => hf _ _ (by omega)) (fun b => hf _ _ (by omega)), (hf _ _ (by omega)).trans h2, dsr_fr h3 hp.1.2.1 (fun b _ _ => hf _ _ (by omega)), trR_fr h4 (fun a b g1 g2 => hf _ _ (by omega)), imR_fr h5 (fun b => hf _ _ (by omega)) (fun b _ => hf _ _ (by omega)), ⟨(hf _ _ (by omega)).trans h6.1, fun i hi => (hf _ _ (by omega)).trans (h6.2 i hi)⟩, (hf _ _ (by omega)).trans h7.1, (hf _ _ (by omega)).trans h7.2⟩
theorem ri_rsf (hp : PI n σ im f T) (h : RI n cm ch ln σ ts tl tv im f T fk fp M) (hf : RSF M M') : RI n cm ch ln σ ts tl tv im f T fk fp M' := by
  obtain ⟨h1, h2, h3, h4, h5, h6, h7⟩ := h
  exact ⟨rsf_rit h1 hf, (hf.1 _ _ (by omega)).trans h2, dsr_fr h3 hp.1.2.1 (fun b _ _ => hf.1 _ _ (by omega)), trR_fr h4 (fun a b g1 g2 => hf.1 _ _ (by omega)), imR_fr h5 (fun b => hf.1 _ _ (by omega)) (fun b _ => hf.1 _ _ (by omega)), ⟨(hf.2 _ (by omega)).trans h6.1, fun i hi => (hf.1 _ _ (by omega)).trans (h6.2 i hi)⟩, (hf.2 _ (by omega)).trans h7.1, (hf.2 _ (by omega)).trans h7.2⟩
theorem ri_rdf {σ' : Ds} (h : RI n cm ch ln σ ts tl tv im f T fk fp M) (hf : RDF M M') (hd : DSR σ' M') : RI n cm ch ln σ' ts tl tv im f T fk fp M' := by
  obtain ⟨h1, h2, h3, h4, h5, h6, h7⟩ := h
  exact ⟨rdf_rit h1 hf, (hf.2.1 _ (by omega)).trans h2, hd, trR_fr h4 (fun a b g1 g2 => hf.1 _ _ (by omega) (by omega) (by omega) (by omega) (by omega) (by omega)), imR_fr h5 (fun b => hf.1 _ _ (by omega) (by omega) (by omega) (by omega) (by omega) (by omega)) (fun b g => hf.2.1 _ (by omega)), ⟨(hf.2.2 _ (by omega) (by omega) (by omega)).trans h6.1, fun i hi => (hf.1 _ _ (by omega) (by omega) (by omega) (by omega) (by omega) (by omega)).trans (h6.2 i hi)⟩, (hf.2.2 _ (by omega) (by omega) (by omega)).trans h7.1, (hf.2.2 _ (by omega) (by omega) (by omega)).trans h7.2⟩
theorem ri_rtf {ts' : Nat → Int} {tl' : Nat → Nat} {tv' : Nat → Nat → Int} (hp : PI n σ im f T) (h : RI n cm ch ln σ ts tl tv im f T fk fp M) (hf : RTF M M') (ht : TrR ts' tl' tv' M') : RI n cm ch ln σ ts' tl' tv' im f T fk fp M' := by
  obtain ⟨h1, h2, h3, h4, h5, h6, h7⟩ := h
  exact ⟨rit_fr h1 (hf _ _ (by omega) (by omega)) (fun b _ => hf _ _ (by omega) (by omega)) (fun b => hf _ _ (by omega) (by omega)), (hf _ _ (by omega) (by omega)).trans h2, dsr_fr h3 hp.1.2.1 (fun b _ _ => hf _ _ (by omega) (by omega)), ht, imR_fr h5 (fun b => hf _ _ (by omega) (by omega)) (fun b _ => hf _ _ (by omega) (by omega)), ⟨(hf _ _ (by omega) (by omega)).trans h6.1, fun i hi => (hf _ _ (by omega) (by omega)).trans (h6.2 i hi)⟩, (hf _ _ (by omega) (by omega)).trans h7.1, (hf _ _ (by omega) (by omega)).trans h7.2⟩
theorem ri_im {im' : Nat → Option Im} (hp : PI n σ im f T) (h : RI n cm ch ln σ ts tl tv im f T fk fp M) (hf : ∀ a b : Int, ¬ (a = 91 ∧ b = 0) → ¬ (a = 92 ∧ 948 ≤ b) → ¬ a = 93 → M' a b = M a b) (hi : ImR im' M') : RI n cm ch ln σ ts tl tv im' f T fk fp M' := by
  obtain ⟨h1, h2, h3, h4, h5, h6, h7⟩ := h
  exact ⟨rit_fr h1 (hf _ _ (by omega) (by omega) (by omega)) (fun b g => hf _ _ (by omega) (by omega) (by omega)) (fun b => hf _ _ (by omega) (by omega) (by omega)), (hf _ _ (by omega) (by omega) (by omega)).trans h2, dsr_fr h3 hp.1.2.1 (fun b g1 g2 => hf _ _ (by omega) (by omega) (by omega)), trR_fr h4 (fun a b g1 g2 => hf _ _ (by omega) (by omega) (by omega)), hi, ⟨(hf _ _ (by omega) (by omega) (by omega)).trans h6.1, fun i hi => (hf _ _ (by omega) (by omega) (by omega)).trans (h6.2 i hi)⟩, (hf _ _ (by omega) (by omega) (by omega)).trans h7.1, (hf _ _ (by omega) (by omega) (by omega)).trans h7.2⟩
theorem iv_mk {L : Nat} {sc : Int → Int} (h0 : M 0 0 = (L : Int)) (h1 : ∀ b : Int, M (-1) b = sc b) (hC : CI n cm ch ln σ ts tl tv im f T fk fp M) (hR : RI n cm ch ln σ ts tl tv im f T fk fp M) (hP : PI n σ im f T) : IV L sc M := ⟨⟨h0, h1⟩, n, cm, ch, ln, σ, ts, tl, tv, im, f, T, fk, fp, hC, hR, hP⟩
theorem trn_ok {k : Int} (hn : n < 6) (h : DSK n σ) : DSK n (trnS n cm σ k) := by
  unfold trnS
  by_cases c : whyV n cm σ.1.1 σ.1.2.1 k = 0
  · rw [if_pos c]
    have := why0 c
    exact nt_ok h (lyT_ok hn h.1 (by omega))
  · rw [if_neg c]; exact h
theorem hbs_ok {k : Int} (h1 : 1 ≤ n) (hn : n < 6) (h : DSK n σ) : DSK n (hbsS n cm ch σ k) := by
  unfold hbsS
  by_cases c : 1 ≤ k ∧ k ≤ 99
  · rw [if_pos c]; exact nt_ok h (hbL_ok h1 hn h.1 _)
  · rw [if_neg c]; exact h
theorem ht_ok {k : Int} (h : DSK n σ) : DSK n (htS σ k) := by
  unfold htS
  by_cases c : 0 ≤ k ∧ k ≤ 9
  · rw [if_pos c]; exact nt_ok h ⟨h.1.1, c.1, c.2⟩
  · rw [if_neg c]; exact h
theorem pf_ok {t : Int} (h1 : 1 ≤ n) (hn : n < 6) (h : DSK n σ) : DSK n (pfS n cm ch ts tl tv σ t) := by
  unfold pfS
  by_cases c : 0 ≤ t ∧ t < 4
  · rw [if_pos c]
    by_cases c2 : ts t.toNat = -1
    · rw [if_pos c2]; exact h
    · rw [if_neg c2]; exact do_ok h (ddR_ok h1 hn _ _ _ h.1).1
  · rw [if_neg c]; exact h
theorem bf_ok {x k : Int} (h1 : 1 ≤ n) (hn : n < 6) (h : DSK n σ) : DSK n (bfS n cm ch σ x k) := by
  unfold bfS
  by_cases c : 1 ≤ k ∧ k ≤ 40
  · rw [if_pos c]; exact do_ok h (bfR_ok h1 hn _ _ _ _ h.1)
  · rw [if_neg c]; exact h
theorem imS_ok {i : Int} {I : Im} (h : ∀ i I, im i = some I → ImK I) (hI : ImK I) : ∀ j J, imS im i I j = some J → ImK J := by
  intro j J e
  unfold imS at e
  by_cases c : 0 ≤ i ∧ i < 2
  · rw [if_pos c] at e
    unfold imU at e
    by_cases c2 : j = i.toNat
    · rw [if_pos c2] at e
      rw [← Option.some.inj e]
      exact hI
    · rw [if_neg c2] at e
      exact h j J e
  · rw [if_neg c] at e
    exact h j J e
end
