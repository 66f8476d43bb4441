theorem mok : ∀ m, m < 316 → mokM m = true := by
  intro m hm
  by_cases h0 : m < 40
  · have h := mok_0 (m - 0) (by omega)
    rwa [show 0 + (m - 0) = m by omega] at h
  by_cases h1 : m < 80
  · have h := mok_40 (m - 40) (by omega)
    rwa [show 40 + (m - 40) = m by omega] at h
  by_cases h2 : m < 120
  · have h := mok_80 (m - 80) (by omega)
    rwa [show 80 + (m - 80) = m by omega] at h
  by_cases h3 : m < 160
  · have h := mok_120 (m - 120) (by omega)
    rwa [show 120 + (m - 120) = m by omega] at h
  by_cases h4 : m < 200
  · have h := mok_160 (m - 160) (by omega)
    rwa [show 160 + (m - 160) = m by omega] at h
  by_cases h5 : m < 240
  · have h := mok_200 (m - 200) (by omega)
    rwa [show 200 + (m - 200) = m by omega] at h
  by_cases h6 : m < 280
  · have h := mok_240 (m - 240) (by omega)
    rwa [show 240 + (m - 240) = m by omega] at h
  by_cases h7 : m < 316
  · have h := mok_280 (m - 280) (by omega)
    rwa [show 280 + (m - 280) = m by omega] at h
  omega
theorem eokd_316 : (codes 316).all (eokD 316) = true := by
  have e : codes 316 = cd_L_law := rfl
  rw [e]
  have h1 := eokl_0
  have h2 := eokl_250
  have h3 := eokl_500
  have h4 := eokl_750
  refine List.all_eq_true.mpr fun x hx => ?_
  obtain ⟨i, hi⟩ := List.getElem?_of_mem hx
  have key : ∀ a n, a ≤ i → i < a + n → ((cd_L_law.drop a).take n).all (eokD 316) = true → eokD 316 x = true := by
    intro a n h1 h2 h
    refine List.all_eq_true.mp h x (List.mem_of_getElem? (i := i - a) ?_)
    rw [List.getElem?_take, if_pos (by omega), List.getElem?_drop, show a + (i - a) = i by omega]
    exact hi
  have hl : i < 1000 := by
    have h5 := (List.getElem?_eq_some_iff.mp hi).1
    have h6 : cd_L_law.length = 974 := by decide +kernel
    omega
  rcases (show i < 250 ∨ (250 ≤ i ∧ i < 500) ∨ (500 ≤ i ∧ i < 750) ∨ 750 ≤ i by omega) with q | q | q | q
  · exact key 0 250 (by omega) (by omega) h1
  · exact key 250 250 (by omega) (by omega) h2
  · exact key 500 250 (by omega) (by omega) h3
  · exact key 750 250 (by omega) (by omega) h4
theorem eokX_all : ∀ m, m < 317 → (codes m).all (eokX m) = true := by
  intro m hm
  by_cases h0 : m < 40
  · have h := eokx_0 (m - 0) (by omega)
    rwa [show 0 + (m - 0) = m by omega] at h
  by_cases h1 : m < 80
  · have h := eokx_40 (m - 40) (by omega)
    rwa [show 40 + (m - 40) = m by omega] at h
  by_cases h2 : m < 120
  · have h := eokx_80 (m - 80) (by omega)
    rwa [show 80 + (m - 80) = m by omega] at h
  by_cases h3 : m < 160
  · have h := eokx_120 (m - 120) (by omega)
    rwa [show 120 + (m - 120) = m by omega] at h
  by_cases h4 : m < 200
  · have h := eokx_160 (m - 160) (by omega)
    rwa [show 160 + (m - 160) = m by omega] at h
  by_cases h5 : m < 240
  · have h := eokx_200 (m - 200) (by omega)
    rwa [show 200 + (m - 200) = m by omega] at h
  by_cases h6 : m < 280
  · have h := eokx_240 (m - 240) (by omega)
    rwa [show 240 + (m - 240) = m by omega] at h
  by_cases h7 : m < 316
  · have h := eokx_280 (m - 280) (by omega)
    rwa [show 280 + (m - 280) = m by omega] at h
  rw [show m = 316 by omega]
  exact eokx_316
theorem eokD_all : ∀ m, m < 317 → (codes m).all (eokD m) = true := by
  intro m hm
  by_cases h0 : m < 40
  · have h := eokd_0 (m - 0) (by omega)
    rwa [show 0 + (m - 0) = m by omega] at h
  by_cases h1 : m < 80
  · have h := eokd_40 (m - 40) (by omega)
    rwa [show 40 + (m - 40) = m by omega] at h
  by_cases h2 : m < 120
  · have h := eokd_80 (m - 80) (by omega)
    rwa [show 80 + (m - 80) = m by omega] at h
  by_cases h3 : m < 160
  · have h := eokd_120 (m - 120) (by omega)
    rwa [show 120 + (m - 120) = m by omega] at h
  by_cases h4 : m < 200
  · have h := eokd_160 (m - 160) (by omega)
    rwa [show 160 + (m - 160) = m by omega] at h
  by_cases h5 : m < 240
  · have h := eokd_200 (m - 200) (by omega)
    rwa [show 200 + (m - 200) = m by omega] at h
  by_cases h6 : m < 280
  · have h := eokd_240 (m - 240) (by omega)
    rwa [show 240 + (m - 240) = m by omega] at h
  by_cases h7 : m < 316
  · have h := eokd_280 (m - 280) (by omega)
    rwa [show 280 + (m - 280) = m by omega] at h
  rw [show m = 316 by omega]
  exact eokd_316
