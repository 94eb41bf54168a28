/-! pure: a town's single numbers changed -/
def ps_set (A : ps_T) (i k v : Nat) : ps_T := fun a b => if a = i ∧ b = k then v else A a b
theorem ps_setS (A : ps_T) (i k v : Nat) : ps_set A i k v i k = v := by simp [ps_set]
theorem ps_setN (A : ps_T) (v : Nat) {i k a b : Nat} (h : ¬ (a = i ∧ b = k)) : ps_set A i k v a b = A a b := by simp only [ps_set]; rw [if_neg h]
theorem ps_updS (f : Nat → Int32) (k : Nat) (x : Int32) : upd f k x k = x := by simp [upd]
theorem ps_updN (f : Nat → Int32) {k j : Nat} (x : Int32) (h : j ≠ k) : upd f k x j = f j := by simp [upd, h]
theorem ps_C_man {A : ps_T} {σ : vz_I} {T m v s : Nat} (hm : m < A 0 0) (hm4 : A 0 0 ≤ 4) (hs : s < 2) (h : ps_C A σ T) : ps_C (ps_set A (s + 1) m v) (vz_up σ (T + 5 + 2 * m) s (nI v)) T := by
  obtain ⟨h1, h2, h3, h4, h5, h6, h7, h8⟩ := h
  refine ⟨?_, ?_, ?_, ?_, ?_, fun m' hm' => ?_, fun r hr => ?_, fun i hi => ?_⟩
  · simp (disch := omega) only [vz_up_ne, ps_setN, h1]
  · simp (disch := omega) only [vz_up_ne, ps_setN, h2]
  · simp (disch := omega) only [vz_up_ne, ps_setN, h3]
  · simp (disch := omega) only [vz_up_ne, ps_setN, h4]
  · simp (disch := omega) only [vz_up_ne, ps_setN, h5]
  · simp (disch := omega) only [ps_setN] at hm'
    obtain ⟨g1, g2, g3, g4⟩ := h6 m' hm'
    by_cases e : m' = m
    · subst e
      rcases (show s = 0 ∨ s = 1 by omega) with rfl | rfl
      · simp (disch := omega) only [ps_setN, ps_setS, ps_upS, ps_upN, vz_up_ne]
        exact ⟨trivial, g2, g3, g4⟩
      · simp (disch := omega) only [ps_setN, ps_setS, ps_upS, ps_upN, vz_up_ne]
        exact ⟨g1, trivial, g3, g4⟩
    · simp (disch := omega) only [ps_setN, vz_up_ne]
      exact ⟨g1, g2, g3, g4⟩
  · simp (disch := omega) only [ps_setN, vz_up_ne] at hr ⊢
    exact h7 r hr
  · simp (disch := omega) only [ps_setN, vz_up_ne] at hi ⊢
    exact h8 i hi
theorem ps_M_man {A : ps_T} {f : Nat → Int32} {p m v s : Nat} (hok : ps_Ok A) (hm : m < A 0 0) (hs : s < 2) (h : ps_M A f p) : ps_M (ps_set A (s + 1) m v) (upd f (p + 4 * s + m) (nI v)) p := by
  obtain ⟨h1, h2, h3, h6, h7, h8⟩ := h
  obtain ⟨o1, o2, o3, -, -, o6, -⟩ := hok
  refine ⟨?_, ?_, ?_, fun m' hm' => ?_, fun r hr => ?_, fun i hi => ?_⟩
  · simp (disch := omega) only [ps_updN, ps_setN, h1]
  · simp (disch := omega) only [ps_updN, ps_setN, h2]
  · simp (disch := omega) only [ps_updN, ps_setN, h3]
  · simp (disch := omega) only [ps_setN] at hm'
    obtain ⟨g1, g2, g3, g4⟩ := h6 m' hm'
    by_cases e : m' = m
    · subst e
      rcases (show s = 0 ∨ s = 1 by omega) with rfl | rfl
      · refine ⟨?_, ?_, ?_, fun i hi => ?_⟩
        · simp only [ps_setS, Nat.mul_zero, Nat.add_zero, ps_updS]
        · simp (disch := omega) only [ps_setN, ps_updN]; exact g2
        · simp (disch := omega) only [ps_setN, ps_updN]; exact g3
        · simp (disch := omega) only [ps_setN, ps_updN] at hi ⊢; exact g4 i hi
      · refine ⟨?_, ?_, ?_, fun i hi => ?_⟩
        · simp (disch := omega) only [ps_setN, ps_updN]; exact g1
        · simp only [ps_setS, Nat.mul_one, ps_updS]
        · simp (disch := omega) only [ps_setN, ps_updN]; exact g3
        · simp (disch := omega) only [ps_setN, ps_updN] at hi ⊢; exact g4 i hi
    · refine ⟨?_, ?_, ?_, fun i hi => ?_⟩
      · simp (disch := omega) only [ps_setN, ps_updN]; exact g1
      · simp (disch := omega) only [ps_setN, ps_updN]; exact g2
      · simp (disch := omega) only [ps_setN, ps_updN]; exact g3
      · simp (disch := omega) only [ps_setN, ps_updN] at hi ⊢; exact g4 i hi
  · simp (disch := omega) only [ps_setN] at hr ⊢
    simp (disch := omega) only [ps_updN]
    exact h7 r hr
  · simp (disch := omega) only [ps_setN] at hi ⊢
    simp (disch := omega) only [ps_updN]
    exact h8 i hi
theorem ps_C_rd {A : ps_T} {σ : vz_I} {T r v s : Nat} (hr : r < A 0 1) (hok : ps_Ok A) (hs : s < 3) (h : ps_C A σ T) : ps_C (ps_set A (4 + s) r v) (vz_up σ (T + 13 + r) s (nI v)) T := by
  obtain ⟨h1, h2, h3, h4, h5, h6, h7, h8⟩ := h
  obtain ⟨o1, o2, o3, -⟩ := hok
  refine ⟨?_, ?_, ?_, ?_, ?_, fun m' hm' => ?_, fun r' hr' => ?_, fun i hi => ?_⟩
  · simp (disch := omega) only [vz_up_ne, ps_setN, h1]
  · simp (disch := omega) only [vz_up_ne, ps_setN, h2]
  · simp (disch := omega) only [vz_up_ne, ps_setN, h3]
  · simp (disch := omega) only [vz_up_ne, ps_setN, h4]
  · simp (disch := omega) only [vz_up_ne, ps_setN, h5]
  · simp (disch := omega) only [ps_setN] at hm' ⊢
    simp (disch := omega) only [vz_up_ne]
    exact h6 m' hm'
  · simp (disch := omega) only [ps_setN] at hr'
    obtain ⟨g1, g2, g3⟩ := h7 r' hr'
    by_cases e : r' = r
    · subst e
      rcases (show s = 0 ∨ s = 1 ∨ s = 2 by omega) with rfl | rfl | rfl
      · exact ⟨by simp (disch := omega) only [ps_setS, ps_upS], by simp (disch := omega) only [ps_setN, ps_upN]; exact g2, by simp (disch := omega) only [ps_setN, ps_upN]; exact g3⟩
      · exact ⟨by simp (disch := omega) only [ps_setN, ps_upN]; exact g1, by simp (disch := omega) only [ps_setS, ps_upS], by simp (disch := omega) only [ps_setN, ps_upN]; exact g3⟩
      · exact ⟨by simp (disch := omega) only [ps_setN, ps_upN]; exact g1, by simp (disch := omega) only [ps_setN, ps_upN]; exact g2, by simp (disch := omega) only [ps_setS, ps_upS]⟩
    · simp (disch := omega) only [ps_setN, vz_up_ne]
      exact ⟨g1, g2, g3⟩
  · simp (disch := omega) only [ps_setN, vz_up_ne] at hi ⊢
    exact h8 i hi
theorem ps_M_rd {A : ps_T} {f : Nat → Int32} {p r v s : Nat} (hok : ps_Ok A) (hr : r < A 0 1) (hs : s < 3) (h : ps_M A f p) : ps_M (ps_set A (4 + s) r v) (upd f (p + 28 + 4 * s + r) (nI v)) p := by
  obtain ⟨h1, h2, h3, h6, h7, h8⟩ := h
  obtain ⟨o1, o2, o3, -, -, o6, -⟩ := hok
  refine ⟨?_, ?_, ?_, fun m' hm' => ?_, fun r' hr' => ?_, fun i hi => ?_⟩
  · simp (disch := omega) only [ps_updN, ps_setN, h1]
  · simp (disch := omega) only [ps_updN, ps_setN, h2]
  · simp (disch := omega) only [ps_updN, ps_setN, h3]
  · simp (disch := omega) only [ps_setN] at hm' ⊢
    have ho := o6 m' hm'
    obtain ⟨g1, g2, g3, g4⟩ := h6 m' hm'
    refine ⟨?_, ?_, ?_, fun i hi => ?_⟩
    · simp (disch := omega) only [ps_updN]; exact g1
    · simp (disch := omega) only [ps_updN]; exact g2
    · simp (disch := omega) only [ps_updN]; exact g3
    · simp (disch := omega) only [ps_updN]; exact g4 i hi
  · simp (disch := omega) only [ps_setN] at hr'
    obtain ⟨g1, g2, g3⟩ := h7 r' hr'
    by_cases e : r' = r
    · subst e
      rcases (show s = 0 ∨ s = 1 ∨ s = 2 by omega) with rfl | rfl | rfl
      · exact ⟨by rw [ps_setS, show p + 28 + r' = p + 28 + 4 * 0 + r' by omega, ps_updS], by simp (disch := omega) only [ps_setN, ps_updN]; exact g2, by simp (disch := omega) only [ps_setN, ps_updN]; exact g3⟩
      · exact ⟨by simp (disch := omega) only [ps_setN, ps_updN]; exact g1, by rw [show 5 = 4 + 1 by rfl, ps_setS, show p + 32 + r' = p + 28 + 4 * 1 + r' by omega, ps_updS], by simp (disch := omega) only [ps_setN, ps_updN]; exact g3⟩
      · exact ⟨by simp (disch := omega) only [ps_setN, ps_updN]; exact g1, by simp (disch := omega) only [ps_setN, ps_updN]; exact g2, by rw [show 6 = 4 + 2 by rfl, ps_setS, show p + 36 + r' = p + 28 + 4 * 2 + r' by omega, ps_updS]⟩
    · simp (disch := omega) only [ps_setN, ps_updN]
      exact ⟨g1, g2, g3⟩
  · simp (disch := omega) only [ps_setN] at hi ⊢
    simp (disch := omega) only [ps_updN]
    exact h8 i hi
theorem ps_manY {A : ps_T} {σ : vz_I} {T j : Nat} (hok : ps_Ok A) (h : ps_C A σ T) (hj : j < A 0 0) : f_X7_manAt T (nI j) σ = some (some (T + 5 + 2 * j)) := by
  have h4 := hok.1
  unfold f_X7_manAt
  rw [h.1, if_neg (nI_pos (by omega)), if_neg (nI_ge hj (by omega)), if_pos ((ps_in (by omega)).mpr (by omega)), nI_clamp (by omega)]
theorem ps_manN {A : ps_T} {σ : vz_I} {T : Nat} {x : Int32} (hok : ps_Ok A) (h : ps_C A σ T) (hx : ¬ (0 ≤ x.toInt ∧ x.toInt < A 0 0)) : f_X7_manAt T x σ = some none := by
  have h4 := hok.1
  unfold f_X7_manAt
  rw [h.1]
  by_cases h0 : x < 0
  · rw [if_pos h0]
  · rw [if_neg h0, if_pos]
    rw [Int32.le_iff_toInt_le, nI_toInt (by omega)]
    rw [Int32.lt_iff_toInt_lt] at h0
    simp at h0
    omega
theorem ps_rdY {A : ps_T} {σ : vz_I} {T j : Nat} (hok : ps_Ok A) (h : ps_C A σ T) (hj : j < A 0 1) : f_X7_readerAt T (nI j) σ = some (some (T + 13 + j)) := by
  have h4 := hok.2.1
  unfold f_X7_readerAt
  rw [h.2.2.1, if_neg (nI_pos (by omega)), if_neg (nI_ge hj (by omega)), if_pos ((ps_in (by omega)).mpr (by omega)), nI_clamp (by omega)]
theorem ps_rdN {A : ps_T} {σ : vz_I} {T : Nat} {x : Int32} (hok : ps_Ok A) (h : ps_C A σ T) (hx : ¬ (0 ≤ x.toInt ∧ x.toInt < A 0 1)) : f_X7_readerAt T x σ = some none := by
  have h4 := hok.2.1
  unfold f_X7_readerAt
  rw [h.2.2.1]
  by_cases h0 : x < 0
  · rw [if_pos h0]
  · rw [if_neg h0, if_pos]
    rw [Int32.le_iff_toInt_le, nI_toInt (by omega)]
    rw [Int32.lt_iff_toInt_lt] at h0
    simp at h0
    omega
theorem ps_isMan {A : ps_T} {σ : vz_I} {x : Int32} (hok : ps_Ok A) (h : σ 108 1 = nI (A 0 0)) : f_X9_isMan x σ = if 0 ≤ x.toInt ∧ x.toInt < A 0 0 then 1 else 0 := by
  have h4 := hok.1
  unfold f_X9_isMan
  rw [h]
  exact ps_im x (by omega)
theorem ps_isRd {A : ps_T} {σ : vz_I} {x : Int32} (hok : ps_Ok A) (h : σ 108 2 = nI (A 0 1)) : f_X9_isReader x σ = if 0 ≤ x.toInt ∧ x.toInt < A 0 1 then 1 else 0 := by
  have h4 := hok.2.1
  unfold f_X9_isReader
  rw [h]
  exact ps_im x (by omega)
theorem ps_c8 (x : Int32) : f_X8_isCorner x = if 0 ≤ x.toInt ∧ x.toInt ≤ (7 : Nat) then 1 else 0 := ps_w0 x (n := 7) (by decide)
theorem ps_c9 (x : Int32) : f_X9_isCorner x = if 0 ≤ x.toInt ∧ x.toInt ≤ (7 : Nat) then 1 else 0 := ps_il x (n := 7) (by decide)
theorem ps_t8 (x : Int32) : f_X8_isMinute x = if 0 ≤ x.toInt ∧ x.toInt ≤ (59 : Nat) then 1 else 0 := ps_w0 x (n := 59) (by decide)
theorem ps_t9 (x : Int32) : f_X9_isMinute x = if 0 ≤ x.toInt ∧ x.toInt ≤ (59 : Nat) then 1 else 0 := ps_il x (n := 59) (by decide)
theorem ps_n8 (x : Int32) : f_X8_isNews x = if 0 ≤ x.toInt ∧ x.toInt ≤ (9 : Nat) then 1 else 0 := ps_w0 x (n := 9) (by decide)
theorem ps_n9 (x : Int32) : f_X9_isNews x = if 0 ≤ x.toInt ∧ x.toInt ≤ (9 : Nat) then 1 else 0 := ps_il x (n := 9) (by decide)
theorem ps_e8 (x : Int32) : f_X8_isEither x = if 0 ≤ x.toInt ∧ x.toInt ≤ (1 : Nat) then 1 else 0 := by
  unfold f_X8_isEither
  by_cases h0 : x = 0
  · subst h0; decide
  · by_cases h1 : x = 1
    · subst h1; decide
    · rw [if_neg h0, if_neg h1, if_neg]
      intro h
      have e0 := lv_neT h0 (show (0 : Int32).toInt = 0 by decide)
      have e1 := lv_neT h1 (show (1 : Int32).toInt = 1 by decide)
      omega
