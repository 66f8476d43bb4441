/-! TOKENS: what a text's next one is -/
def kcL : List Int := [59, 58, 43, 45, 42, 40, 41, 91, 93, 61, 60, 62, 256, 257, 258, 259, 260, 261, 262, 263, 264, 265, 266, 267, 268, 269, 270, 271, 272, 273, 274, 275, 276]
def krL : List Int := [30, 31, 32, 33, 34, 35, 36, 37, 38, 39, 40, 41, 25, 24, 23, 22, 10, 11, 3, 1, 12, 13, 0, 2, 4, 5, 6, 7, 8, 9, 16, 14, 15]
def kc (t : Nat) : Int := nth0 kcL t
def kr (t : Nat) : Int := nth0 krL t
theorem kc_inj : ∀ t, t < 33 → ∀ u, u < 33 → kc t = kc u → t = u := by decide +kernel
theorem kr_inj : ∀ t, t < 33 → ∀ u, u < 33 → kr t = kr u → t = u := by decide +kernel
def WdL : List (List Int) := [[116, 111, 112], [117, 110, 100, 101, 114], [117, 112], [104, 101, 97, 116], [109, 97, 110, 121], [114, 105, 103, 104, 116], [112, 108, 97, 116, 101], [99, 97, 107, 101], [109, 97, 121], [104, 97, 98, 105, 116], [105, 102], [116, 104, 101, 110], [101, 108, 115, 101], [101, 110, 100], [110, 111, 116], [97, 110, 100], [111, 114]]
def Wd (i : Nat) : List Int := nthR WdL i
def wbL : List Nat := [0, 4, 10, 13, 18, 23, 29, 35, 40, 44, 50, 53, 58, 63, 67, 71, 75]
def wb (i : Nat) : Nat := wbL.getD i 78
def vbL : List Nat := [1, 7, 12, 17, 20, 24, 30, 33, 38, 43, 47, 51, 57, 62, 68, 72, 75]
def vb (i : Nat) : Nat := vbL.getD i 79
def rxL : List Nat := [6, 3, 7, 2, 8, 9, 10, 11, 12, 13, 0, 1, 4, 5, 15, 16, 14]
def rx (i : Nat) : Nat := rxL.getD i 0
theorem wb_ok : ∀ i, i < 17 → wb i + (Wd i).length < 78 ∧ wb (i + 1) = wb i + (Wd i).length + 1 ∧ nth0 tx1 (wb i + (Wd i).length) = 32 ∧ (∀ j, j < (Wd i).length → nth0 tx1 (wb i + j) = nth0 (Wd i) j ∧ ¬ nth0 tx1 (wb i + j) = 32) := by decide +kernel
theorem vb_ok : ∀ i, i < 17 → rx i < 17 ∧ vb i + (Wd (rx i)).length < 79 ∧ vb (i + 1) = vb i + (Wd (rx i)).length + 1 ∧ nth0 tx2 (vb i + (Wd (rx i)).length) = 32 ∧ (∀ j, j < (Wd (rx i)).length → nth0 tx2 (vb i + j) = nth0 (Wd (rx i)) j ∧ ¬ nth0 tx2 (vb i + j) = 32) ∧ kr (16 + rx i) = (i : Int) := by decide +kernel
theorem rx_all : ∀ i, i < 17 → ∃ j, j < 17 ∧ rx j = i := by decide +kernel
theorem wd_len : ∀ i, i < 17 → 1 ≤ (Wd i).length ∧ (Wd i).length ≤ 5 := by decide +kernel
theorem wd_inj : ∀ i, i < 17 → ∀ j, j < 17 → Wd i = Wd j → i = j := by decide +kernel
def WM (T : Nat → Int) (pl nx : Nat) (w : List Int) : Prop := nx = pl + w.length ∧ ∀ j, j < w.length → T (pl + j) = nth0 w j
theorem nth0_ext : ∀ (a b : List Int), a.length = b.length → (∀ j, j < a.length → nth0 a j = nth0 b j) → a = b
  | [], [], _, _ => rfl
  | [], _ :: _, h, _ => by cases h
  | _ :: _, [], h, _ => by cases h
  | x :: a, y :: b, h, hq => by
    have e1 : x = y := hq 0 (Nat.succ_pos _)
    have e2 := nth0_ext a b (Nat.succ.inj h) (fun j hj => hq (j + 1) (Nat.succ_lt_succ hj))
    rw [e1, e2]
theorem wm_one {T : Nat → Int} {pl nx i j : Nat} (hi : i < 17) (hj : j < 17) (h1 : WM T pl nx (Wd i)) (h2 : WM T pl nx (Wd j)) : i = j := by
  refine wd_inj i hi j hj (nth0_ext _ _ (by have := h1.1; have := h2.1; omega) (fun q hq => ?_))
  rw [← h1.2 q hq]
  exact h2.2 q (by have := h1.1; have := h2.1; omega)
def blk (x : Int) : Prop := x = 10 ∨ x = 32
def ltr (x : Int) : Prop := 97 ≤ x ∧ x ≤ 122
def dgt (x : Int) : Prop := 48 ≤ x ∧ x ≤ 57
def TxOK (T : Nat → Int) (sz : Nat) : Prop := sz ≤ 900 ∧ ∀ i, i < sz → 0 ≤ T i ∧ T i < 256
def dgV (T : Nat → Int) (pl : Nat) : Nat → Int
  | 0 => 0
  | m + 1 => dgV T pl m * 10 + T (pl + m) - 48
abbrev Tk : Type := Nat × Nat × Nat × Int
def Spn (P : Int → Prop) (T : Nat → Int) (sz pl nx : Nat) : Prop := pl < nx ∧ nx ≤ sz ∧ (∀ q, pl ≤ q → q < nx → P (T q)) ∧ (nx < sz → ¬ P (T nx))
def TkW (T : Nat → Int) (k : Tk) : Prop := (k.2.2.1 = 15 ∧ ∀ i, i < 17 → ¬ WM T k.1 k.2.1 (Wd i)) ∨ ∃ i, i < 17 ∧ k.2.2.1 = 16 + i ∧ WM T k.1 k.2.1 (Wd i)
def TkD (T : Nat → Int) (k : Tk) : Prop := (k.2.1 ≤ k.1 + 3 ∧ k.2.2.1 = 14 ∧ k.2.2.2 = dgV T k.1 (k.2.1 - k.1)) ∨ (k.1 + 3 < k.2.1 ∧ k.2.2.1 = 12)
def TkS (T : Nat → Int) (k : Tk) : Prop := (∃ i, i < 12 ∧ k.2.2.1 = i ∧ nth0 tx0 i = T k.1) ∨ (k.2.2.1 = 12 ∧ ∀ i, i < 12 → ¬ nth0 tx0 i = T k.1)
def TokR (T : Nat → Int) (sz p : Nat) (k : Tk) : Prop := (p ≤ k.1 ∧ k.1 ≤ sz) ∧ (∀ q, p ≤ q → q < k.1 → blk (T q)) ∧ (k.1 < sz → ¬ blk (T k.1)) ∧
  ((k.1 = sz ∧ k.2.1 = sz ∧ k.2.2.1 = 13) ∨ (k.1 < sz ∧ ltr (T k.1) ∧ Spn ltr T sz k.1 k.2.1 ∧ TkW T k) ∨ (k.1 < sz ∧ ¬ ltr (T k.1) ∧ dgt (T k.1) ∧ Spn dgt T sz k.1 k.2.1 ∧ TkD T k) ∨ (k.1 < sz ∧ ¬ ltr (T k.1) ∧ ¬ dgt (T k.1) ∧ k.2.1 = k.1 + 1 ∧ TkS T k))
theorem spn_ex (P : Int → Prop) (T : Nat → Int) (sz : Nat) : ∀ f p, p + f = sz → ∃ q, (p ≤ q ∧ q ≤ sz) ∧ (∀ r, p ≤ r → r < q → P (T r)) ∧ (q < sz → ¬ P (T q))
  | 0, p, h => ⟨p, ⟨Nat.le_refl _, by omega⟩, fun r h1 h2 => by omega, fun h1 => by omega⟩
  | f + 1, p, h => by
    by_cases c : P (T p)
    · obtain ⟨q, h1, h2, h3⟩ := spn_ex P T sz f (p + 1) (by omega)
      refine ⟨q, by omega, fun r g1 g2 => ?_, h3⟩
      by_cases e : r = p
      · rw [e]; exact c
      · exact h2 r (by omega) g2
    · exact ⟨p, by omega, fun r h1 h2 => by omega, fun _ => c⟩
theorem tok_ex (T : Nat → Int) {sz p : Nat} (hp : p ≤ sz) : ∃ k, TokR T sz p k := by
  obtain ⟨pl, h1, h2, h3⟩ := spn_ex blk T sz (sz - p) p (by omega)
  by_cases c0 : pl = sz
  · exact ⟨(pl, sz, 13, 0), h1, h2, h3, Or.inl ⟨c0, rfl, rfl⟩⟩
  by_cases c1 : ltr (T pl)
  · obtain ⟨nx, g1, g2, g3⟩ := spn_ex ltr T sz (sz - (pl + 1)) (pl + 1) (by omega)
    have hs : Spn ltr T sz pl nx := ⟨by omega, by omega, fun q a b => by
      by_cases e : q = pl
      · rw [e]; exact c1
      · exact g2 q (by omega) b, g3⟩
    by_cases c2 : ∃ i, i < 17 ∧ WM T pl nx (Wd i)
    · obtain ⟨i, hi, hw⟩ := c2
      exact ⟨(pl, nx, 16 + i, 0), h1, h2, h3, Or.inr (Or.inl ⟨by show pl < sz; omega, c1, hs, Or.inr ⟨i, hi, rfl, hw⟩⟩)⟩
    · exact ⟨(pl, nx, 15, 0), h1, h2, h3, Or.inr (Or.inl ⟨by show pl < sz; omega, c1, hs, Or.inl ⟨rfl, fun i hi hw => c2 ⟨i, hi, hw⟩⟩⟩)⟩
  by_cases c2 : dgt (T pl)
  · obtain ⟨nx, g1, g2, g3⟩ := spn_ex dgt T sz (sz - (pl + 1)) (pl + 1) (by omega)
    have hs : Spn dgt T sz pl nx := ⟨by omega, by omega, fun q a b => by
      by_cases e : q = pl
      · rw [e]; exact c2
      · exact g2 q (by omega) b, g3⟩
    by_cases c3 : nx ≤ pl + 3
    · exact ⟨(pl, nx, 14, dgV T pl (nx - pl)), h1, h2, h3, Or.inr (Or.inr (Or.inl ⟨by show pl < sz; omega, c1, c2, hs, Or.inl ⟨c3, rfl, rfl⟩⟩))⟩
    · exact ⟨(pl, nx, 12, 0), h1, h2, h3, Or.inr (Or.inr (Or.inl ⟨by show pl < sz; omega, c1, c2, hs, Or.inr ⟨by show pl + 3 < nx; omega, rfl⟩⟩))⟩
  by_cases c3 : ∃ i, i < 12 ∧ nth0 tx0 i = T pl
  · obtain ⟨i, hi, hw⟩ := c3
    exact ⟨(pl, pl + 1, i, 0), h1, h2, h3, Or.inr (Or.inr (Or.inr ⟨by show pl < sz; omega, c1, c2, rfl, Or.inl ⟨i, hi, rfl, hw⟩⟩))⟩
  · exact ⟨(pl, pl + 1, 12, 0), h1, h2, h3, Or.inr (Or.inr (Or.inr ⟨by show pl < sz; omega, c1, c2, rfl, Or.inr ⟨rfl, fun i hi hw => c3 ⟨i, hi, hw⟩⟩⟩))⟩
def TkK (sz : Nat) (k : Tk) : Prop := (k.1 ≤ k.2.1 ∧ k.2.1 ≤ sz) ∧ k.2.2.1 < 33 ∧ (¬ k.2.2.1 = 13 → k.1 < k.2.1) ∧ (k.2.2.1 = 14 → 0 ≤ k.2.2.2 ∧ k.2.2.2 ≤ 999)
theorem dg_in {T : Nat → Int} {pl m : Nat} (hm : m ≤ 3) (h : ∀ q, pl ≤ q → q < pl + m → dgt (T q)) : 0 ≤ dgV T pl m ∧ dgV T pl m ≤ 999 := by
  unfold dgt at h
  have : m = 0 ∨ m = 1 ∨ m = 2 ∨ m = 3 := by omega
  rcases this with rfl | rfl | rfl | rfl
  · show 0 ≤ (0 : Int) ∧ (0 : Int) ≤ 999
    omega
  · have a := h pl (by omega) (by omega)
    show 0 ≤ (0 : Int) * 10 + T (pl + 0) - 48 ∧ (0 : Int) * 10 + T (pl + 0) - 48 ≤ 999
    rw [Nat.add_zero]
    omega
  · have a := h pl (by omega) (by omega)
    have b := h (pl + 1) (by omega) (by omega)
    show 0 ≤ ((0 : Int) * 10 + T (pl + 0) - 48) * 10 + T (pl + 1) - 48 ∧ ((0 : Int) * 10 + T (pl + 0) - 48) * 10 + T (pl + 1) - 48 ≤ 999
    rw [Nat.add_zero]
    omega
  · have a := h pl (by omega) (by omega)
    have b := h (pl + 1) (by omega) (by omega)
    have c := h (pl + 2) (by omega) (by omega)
    show 0 ≤ (((0 : Int) * 10 + T (pl + 0) - 48) * 10 + T (pl + 1) - 48) * 10 + T (pl + 2) - 48 ∧ (((0 : Int) * 10 + T (pl + 0) - 48) * 10 + T (pl + 1) - 48) * 10 + T (pl + 2) - 48 ≤ 999
    rw [Nat.add_zero]
    omega
theorem tok_ok {T : Nat → Int} {sz p : Nat} {k : Tk} (h : TokR T sz p k) : TkK sz k ∧ p ≤ k.1 := by
  obtain ⟨h1, h2, h3, h4⟩ := h
  refine ⟨?_, h1.1⟩
  rcases h4 with ⟨a, b, c⟩ | ⟨a, b, c, e⟩ | ⟨a, b, c, e, g⟩ | ⟨a, b, c, e, g⟩
  · exact ⟨by omega, by omega, fun q => absurd c q, fun q => by omega⟩
  · rcases e with ⟨e, _⟩ | ⟨i, hi, e, _⟩
    · exact ⟨⟨by have := c.1; omega, c.2.1⟩, by omega, fun _ => c.1, fun q => by omega⟩
    · exact ⟨⟨by have := c.1; omega, c.2.1⟩, by omega, fun _ => c.1, fun q => by omega⟩
  · rcases g with ⟨g1, g2, g3⟩ | ⟨g1, g2⟩
    · refine ⟨⟨by have := e.1; omega, e.2.1⟩, by omega, fun _ => e.1, fun q => ?_⟩
      rw [g3]
      exact dg_in (by omega) (fun r r1 r2 => e.2.2.1 r r1 (by have := e.1; omega))
    · exact ⟨⟨by have := e.1; omega, e.2.1⟩, by omega, fun _ => e.1, fun q => by omega⟩
  · rcases g with ⟨i, hi, g, _⟩ | ⟨g, _⟩
    · exact ⟨by omega, by omega, fun _ => by omega, fun q => by omega⟩
    · exact ⟨by omega, by omega, fun _ => by omega, fun q => by omega⟩
/-- the class's reader looks at this one -/
def CT (T : Nat → Int) (sz : Nat) (k : Tk) (M : Mm) : Prop := (∀ i : Nat, i < sz → M 4 (i : Int) = T i) ∧ M 3 2 = (sz : Int) ∧ M 3 3 = (k.2.1 : Int) ∧ M 3 4 = kc k.2.2.1 ∧ (k.2.2.1 = 14 → M 3 5 = k.2.2.2) ∧ M 3 6 = (k.1 : Int)
/-- and the reference's -/
def RT (T : Nat → Int) (sz : Nat) (k : Tk) (M : Mm) : Prop := (∀ i : Nat, i < sz → M 94 (i : Int) = T i) ∧ M 91 8 = (sz : Int) ∧ M 91 7 = (k.2.1 : Int) ∧ M 91 9 = kr k.2.2.1 ∧ (k.2.2.1 = 14 → M 91 10 = k.2.2.2) ∧ M 91 6 = (k.1 : Int)
theorem ct_fr {T : Nat → Int} {sz : Nat} {k : Tk} {M M' : Mm} (h : CT T sz k M) (h1 : ∀ b : Int, M' 4 b = M 4 b) (h2 : ∀ b : Int, 2 ≤ b → b ≤ 6 → M' 3 b = M 3 b) : CT T sz k M' := ⟨fun i hi => (h1 _).trans (h.1 i hi), (h2 _ (by omega) (by omega)).trans h.2.1, (h2 _ (by omega) (by omega)).trans h.2.2.1, (h2 _ (by omega) (by omega)).trans h.2.2.2.1, fun q => (h2 _ (by omega) (by omega)).trans (h.2.2.2.2.1 q), (h2 _ (by omega) (by omega)).trans h.2.2.2.2.2⟩
theorem rt_fr {T : Nat → Int} {sz : Nat} {k : Tk} {M M' : Mm} (h : RT T sz k M) (h1 : ∀ b : Int, M' 94 b = M 94 b) (h2 : ∀ b : Int, 6 ≤ b → b ≤ 10 → M' 91 b = M 91 b) : RT T sz k M' := ⟨fun i hi => (h1 _).trans (h.1 i hi), (h2 _ (by omega) (by omega)).trans h.2.1, (h2 _ (by omega) (by omega)).trans h.2.2.1, (h2 _ (by omega) (by omega)).trans h.2.2.2.1, fun q => (h2 _ (by omega) (by omega)).trans (h.2.2.2.2.1 q), (h2 _ (by omega) (by omega)).trans h.2.2.2.2.2⟩
