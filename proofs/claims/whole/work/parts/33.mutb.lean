/-! pure: pave, see, keep, back, sheet, lay -/
theorem ps_C_pave {A : ps_T} {σ : vz_I} {T a b : Nat} (hok : ps_Ok A) (h : ps_C A σ T) : ps_C (ps_set (ps_set (ps_set A 8 (A 0 2) a) 9 (A 0 2) b) 0 2 (A 0 2 + 1)) (vz_up (vz_up (vz_up σ (T + 3) (A 0 2) (nI a)) (T + 4) (A 0 2) (nI b)) T 1 (nI (A 0 2 + 1))) T := by
  obtain ⟨h1, h2, h3, h4, h5, h6, h7, h8⟩ := h
  obtain ⟨o1, o2, o3, -⟩ := hok
  refine ⟨?_, ?_, ?_, ?_, ?_, fun m' hm' => ?_, fun r hr => ?_, fun i hi => ?_⟩
  · simp (disch := omega) only [ps_upN, vz_up_ne, ps_setN, h1]
  · simp (disch := omega) only [ps_upS, ps_setS]
  · simp (disch := omega) only [ps_upN, vz_up_ne, ps_setN, h3]
  · simp (disch := omega) only [ps_upN, vz_up_ne, ps_setN, h4]
  · simp (disch := omega) only [ps_upN, vz_up_ne, ps_setN, h5]
  · simp (disch := omega) only [ps_setN] at hm' ⊢
    simp (disch := omega) only [vz_up_ne]
    exact h6 m' hm'
  · simp (disch := omega) only [ps_setN] at hr ⊢
    simp (disch := omega) only [vz_up_ne]
    exact h7 r hr
  · rw [ps_setS] at hi
    by_cases e : i = A 0 2
    · subst e
      simp (disch := omega) only [ps_setN, ps_setS, vz_up_ne, ps_upS]
      exact ⟨trivial, trivial⟩
    · simp (disch := omega) only [ps_setN, vz_up_ne, ps_upN]
      exact h8 i (by omega)
theorem ps_M_pave {A : ps_T} {f : Nat → Int32} {p a b : Nat} (hok : ps_Ok A) (h9 : A 0 2 < 9) (h : ps_M A f p) : ps_M (ps_set (ps_set (ps_set A 8 (A 0 2) a) 9 (A 0 2) b) 0 2 (A 0 2 + 1)) (upd (upd (upd f (p + 43 + A 0 2) (nI a)) (p + 52 + A 0 2) (nI b)) (p + 42) (nI (A 0 2 + 1))) p := by
  obtain ⟨h1, h2, h3, h6, h7, h8⟩ := h
  obtain ⟨o1, o2, o3, -, -, o6, -⟩ := hok
  refine ⟨?_, ?_, ?_, fun m' hm' => ?_, fun r hr => ?_, fun i hi => ?_⟩
  · simp (disch := omega) only [ps_updN, ps_setN, h1]
  · simp (disch := omega) only [ps_updN, ps_setN, h2]
  · simp (disch := omega) only [ps_updS, ps_setS]
  · simp (disch := omega) only [ps_setN] at hm' ⊢
    have ho := o6 m' hm'
    obtain ⟨g1, g2, g3, g4⟩ := h6 m' hm'
    refine ⟨?_, ?_, ?_, fun i hi => ?_⟩
    · simp (disch := omega) only [ps_updN]; exact g1
    · simp (disch := omega) only [ps_updN]; exact g2
    · simp (disch := omega) only [ps_updN]; exact g3
    · simp (disch := omega) only [ps_updN]; exact g4 i hi
  · simp (disch := omega) only [ps_setN] at hr ⊢
    simp (disch := omega) only [ps_updN]
    exact h7 r hr
  · rw [ps_setS] at hi
    by_cases e : i = A 0 2
    · subst e
      simp (disch := omega) only [ps_setN, ps_setS, ps_updN, ps_updS]
      exact ⟨trivial, trivial⟩
    · simp (disch := omega) only [ps_setN, ps_updN]
      exact h8 i (by omega)
theorem ps_Ok_pave {A : ps_T} {a b : Nat} (h : ps_Ok A) (h9 : A 0 2 < 9) (ha : a < 8) (hb : b < 8) : ps_Ok (ps_set (ps_set (ps_set A 8 (A 0 2) a) 9 (A 0 2) b) 0 2 (A 0 2 + 1)) := by
  obtain ⟨o1, o2, o3, o4, o5, o6, o7, o8⟩ := h
  refine ⟨?_, ?_, ?_, ?_, ?_, fun m' hm' => ?_, fun r' hr' => ?_, fun i hi => ?_⟩
  · simp (disch := omega) only [ps_setN]; exact o1
  · simp (disch := omega) only [ps_setN]; exact o2
  · simp (disch := omega) only [ps_setS]; omega
  · simp (disch := omega) only [ps_setN]; exact o4
  · simp (disch := omega) only [ps_setN]; exact o5
  · simp (disch := omega) only [ps_setN] at hm' ⊢; exact o6 m' hm'
  · simp (disch := omega) only [ps_setN] at hr' ⊢; exact o7 r' hr'
  · rw [ps_setS] at hi
    by_cases e : i = A 0 2
    · subst e
      simp (disch := omega) only [ps_setN, ps_setS]
      exact ⟨ha, hb⟩
    · simp (disch := omega) only [ps_setN]
      exact o8 i (by omega)
theorem sm_pave : sim_pave ps_R := by
  intro σ h x1 x2
  have h' := h
  obtain ⟨⟨A, a1, a2, a3, a4, a5, a6, a7, a8⟩, hP, hF, hS, hX⟩ := h'
  have o3 := a1.2.2.1
  by_cases hc : 0 ≤ x1.toInt ∧ x1.toInt ≤ (7 : Nat)
  · have hc' := hc
    obtain ⟨a, ha, rfl⟩ := ps_ofL hc
    by_cases hd : 0 ≤ x2.toInt ∧ x2.toInt ≤ (7 : Nat)
    · have hd' := hd
      obtain ⟨b, hb, rfl⟩ := ps_ofL hd
      by_cases e : nI a = nI b
      · refine ⟨-1, σ, σ, ?_, ?_, h⟩
        · simp only [f_X8_pave, ps_c8, if_pos hc', if_pos hd', if_neg ps_10, if_pos e]
        · simp only [f_X9_pave, ps_c9, if_pos hc', if_pos hd', if_neg ps_10, if_pos e]
      · by_cases h9 : A 0 2 < 9
        · have hok := ps_Ok_pave (a := a) (b := b) a1 h9 (by omega) (by omega)
          have hin : vz_in (nI (A 0 2)) 9 := (ps_in (by omega)).mpr (by omega)
          refine ⟨nI (A 0 2 + 1), vz_up (vz_up (vz_up σ (21 + 3) (A 0 2) (nI a)) (21 + 4) (A 0 2) (nI b)) 21 1 (nI (A 0 2 + 1)), vz_up (vz_up (vz_up (vz_up (vz_up (vz_up σ (21 + 3) (A 0 2) (nI a)) (21 + 4) (A 0 2) (nI b)) 21 1 (nI (A 0 2 + 1))) 109 (43 + A 0 2) (nI a)) 109 (52 + A 0 2) (nI b)) 109 42 (nI (A 0 2 + 1)), ?_, ?_, ?_, ?_, ?_, ?_, ?_⟩
          · unfold f_X8_pave f_X7_addStreet
            rw [ps_c8, if_pos hc', if_neg ps_10, ps_c8, if_pos hd', if_neg ps_10, if_neg e, a2.2.1, if_pos (show nI (A 0 2) < (9 : Int32) from nI_lt (b := 9) h9 (by omega)), if_pos hin, vz_up_ne _ _ _ (show (21 : Nat) ≠ 21 + 3 by omega), a2.2.1, if_pos hin, vz_let, nI_clamp (by omega), vz_up_ne _ _ _ (show (21 : Nat) ≠ 21 + 4 by omega), vz_up_ne _ _ _ (show (21 : Nat) ≠ 21 + 3 by omega), a2.2.1, nI_1, vz_b2, if_neg ps_10, ps_upS]
          · generalize hs : vz_up (vz_up (vz_up σ (21 + 3) (A 0 2) (nI a)) (21 + 4) (A 0 2) (nI b)) 21 1 (nI (A 0 2 + 1)) = τ
            have t1 : τ 109 = σ 109 := by rw [← hs]; simp (disch := omega) only [vz_up_ne]
            have t2 : τ 109 (42 : Int32).toNatClampNeg = nI (A 0 2) := by rw [t1]; exact (ps_42 a3).2
            have hin2 := (ps_42 a3).1
            unfold f_X9_pave
            rw [ps_c9, if_pos hc', if_neg ps_10, ps_c9, if_pos hd', if_neg ps_10, if_neg e, if_pos hin2, t2, if_neg (show ¬ nI (A 0 2) = (9 : Int32) from fun q => by have := (nI_eq (b := 9) (by omega) (by omega)).mp q; omega), show (43 : Int32) + nI (A 0 2) = nI (43 + A 0 2) from nI_add 43 _, show (52 : Int32) + nI (A 0 2) = nI (52 + A 0 2) from nI_add 52 _, if_pos ((ps_in (by omega)).mpr (by omega)), vz_let, if_pos ((ps_in (by omega)).mpr (by omega)), vz_let, if_pos hin2, if_pos hin2, vz_let, if_pos hin2, nI_clamp (by omega), nI_clamp (by omega), show (42 : Int32).toNatClampNeg = 42 from rfl, ps_upS, ps_upN _ _ (by omega), ps_upN _ _ (by omega), show τ 109 42 = nI (A 0 2) from t2, nI_1]
          · refine ps_town_up a1 hok (ps_C_fr hok (ps_C_pave (a := a) (b := b) a1 a2) (fun b _ _ => by simp (disch := omega) only [vz_up_ne])) ?_ (by simp (disch := omega) only [ps_setN]) (by simp (disch := omega) only [ps_setN]) a4 a5 a6 a7 a8 (fun b hb => by simp (disch := omega) only [vz_up_ne]) (fun b _ _ => by simp (disch := omega) only [ps_upN, vz_up_ne]) (fun j hj => by simp (disch := omega) only [vz_up_ne])
            have q := ps_M_pave (a := a) (b := b) a1 h9 a3
            rw [vz_up_self, vz_up_self, vz_up_self, vz_up_ne _ _ _ (show (109 : Nat) ≠ 21 by omega), vz_up_ne _ _ _ (show (109 : Nat) ≠ 21 + 4 by omega), vz_up_ne _ _ _ (show (109 : Nat) ≠ 21 + 3 by omega)]
            rw [show 0 + 43 + A 0 2 = 43 + A 0 2 by omega, show 0 + 52 + A 0 2 = 52 + A 0 2 by omega] at q
            exact q
          · exact ps_tape_fr hP (fun b hb => by simp (disch := omega) only [vz_up_ne]) (by simp (disch := omega) only [vz_up_ne])
          · exact ps_ft_fr hF (by simp (disch := omega) only [vz_up_ne]) (by simp (disch := omega) only [vz_up_ne]) (by simp (disch := omega) only [vz_up_ne]) (by simp (disch := omega) only [vz_up_ne])
          · exact ps_sheet_fr hS (fun b hb => by simp (disch := omega) only [vz_up_ne])
          · exact ps_fix_fr hX (fun b hb => by simp (disch := omega) only [vz_up_ne]) (by simp (disch := omega) only [vz_up_ne])
        · have e9 : A 0 2 = 9 := by omega
          refine ⟨-3, σ, σ, ?_, ?_, h⟩
          · unfold f_X8_pave f_X7_addStreet
            rw [ps_c8, if_pos hc', if_neg ps_10, ps_c8, if_pos hd', if_neg ps_10, if_neg e, a2.2.1, e9, if_neg (by decide), vz_b2, if_pos rfl]
          · unfold f_X9_pave
            rw [ps_c9, if_pos hc', if_neg ps_10, ps_c9, if_pos hd', if_neg ps_10, if_neg e, if_pos (ps_42 a3).1, (ps_42 a3).2, e9, if_pos (by decide)]
    · refine ⟨-1, σ, σ, ?_, ?_, h⟩
      · simp only [f_X8_pave, ps_c8, if_pos hc', if_neg hd, if_neg ps_10, if_true]
      · simp only [f_X9_pave, ps_c9, if_pos hc', if_neg hd, if_neg ps_10, if_true]
  · refine ⟨-1, σ, σ, ?_, ?_, h⟩
    · simp only [f_X8_pave, ps_c8, if_neg hc, if_true]
    · simp only [f_X9_pave, ps_c9, if_neg hc, if_true]
theorem sm_see : sim_see ps_R := by
  intro σ h x1 x2 x3 x4 hx4
  have h' := h
  obtain ⟨⟨A, a1, a2, a3, a4, a5, ⟨n, hn, s1, s2, s3⟩, a7, a8⟩, hP, hF, hS, hX⟩ := h'
  by_cases hc : 0 ≤ x1.toInt ∧ x1.toInt < A 0 1
  · obtain ⟨r, hr, rfl⟩ := ps_ofM hc
    have hrY := ps_isRdY a1 a5 hr
    by_cases hd : 0 ≤ x2.toInt ∧ x2.toInt ≤ (9 : Nat)
    · have hd' := hd
      obtain ⟨w, hw, rfl⟩ := ps_ofL hd
      by_cases he : 0 ≤ x3.toInt ∧ x3.toInt ≤ (59 : Nat)
      · have he' := he
        obtain ⟨t, ht, rfl⟩ := ps_ofL he
        by_cases h6 : n < 6
        · obtain ⟨k, hk, rfl⟩ : ∃ k, k < 2 ∧ x4 = nI k := by
            rcases hx4 with rfl | rfl
            · exact ⟨0, by omega, rfl⟩
            · exact ⟨1, by omega, rfl⟩
          have hin : vz_in (nI n) 6 := (ps_in (by omega)).mpr (by omega)
          have ek : nI k &&& (1 : Int32) = nI k := by
            rcases (show k = 0 ∨ k = 1 by omega) with rfl | rfl <;> decide
          refine ⟨nI (n + 1), vz_up (vz_up (vz_up (vz_up (vz_up σ 58 n (nI r)) 59 n (nI w)) 60 n (nI t)) 61 n (nI k)) 57 0 (nI (n + 1)), vz_up (vz_up (vz_up (vz_up (vz_up (vz_up (vz_up (vz_up (vz_up (vz_up σ 58 n (nI r)) 59 n (nI w)) 60 n (nI t)) 61 n (nI k)) 57 0 (nI (n + 1))) 117 (4 * n) (nI r)) 117 (4 * n + 1) (nI w)) 117 (4 * n + 2) (nI t)) 117 (4 * n + 3) (nI k)) 108 24 (nI (n + 1)), ?_, ?_, ⟨A, a1, ?_, ?_, ?_, ?_, ?_, ?_, ?_⟩, ?_, ?_, ?_, ?_⟩
          · unfold f_X8_see f_X1_add
            rw [ps_rdY a1 a2 hr, vz_b1, vz_mo, ps_n8, if_pos hd', if_neg ps_10, ps_t8, if_pos he', if_neg ps_10, s1, if_pos (show nI n < (6 : Int32) from nI_lt (b := 6) h6 (by omega)), if_pos hin]
            simp (disch := omega) only [vz_up_ne, s1, if_pos hin, vz_let, nI_clamp (show n < 2 ^ 31 by omega), ek, nI_1, vz_b2, if_neg ps_10, ps_upS]
          · generalize hs : vz_up (vz_up (vz_up (vz_up (vz_up σ 58 n (nI r)) 59 n (nI w)) 60 n (nI t)) 61 n (nI k)) 57 0 (nI (n + 1)) = τ
            have t1 : τ 108 = σ 108 := by rw [← hs]; simp (disch := omega) only [vz_up_ne]
            have hrY' : f_X9_isReader (nI r) τ = 1 := ps_isRdY a1 (by rw [t1]; exact a5) hr
            have t24 : τ 108 24 = nI n := by rw [t1]; exact s2
            have e4 : (4 : Int32) * nI n = nI (4 * n) := pk_mul 4 n
            have e41 : nI (4 * n) + (1 : Int32) = nI (4 * n + 1) := nI_add _ 1
            have e42 : nI (4 * n) + (2 : Int32) = nI (4 * n + 2) := nI_add _ 2
            have e43 : nI (4 * n) + (3 : Int32) = nI (4 * n + 3) := nI_add _ 3
            have ne6 : ¬ nI n = (6 : Int32) := fun q => by have := (nI_eq (b := 6) (by omega) (by omega)).mp q; omega
            have hi : ∀ j, j < 24 → vz_in (nI j) 24 := fun j hj => (ps_in (by omega)).mpr hj
            unfold f_X9_see
            rw [hrY', if_neg ps_10, ps_n9, if_pos hd', if_neg ps_10, ps_t9, if_pos he', if_neg ps_10, t24, if_neg ne6]
            simp (disch := omega) only [vz_up_ne, t24, e4, e41, e42, e43, if_pos (hi (4 * n) (by omega)), if_pos (hi (4 * n + 1) (by omega)), if_pos (hi (4 * n + 2) (by omega)), if_pos (hi (4 * n + 3) (by omega)), vz_let, nI_clamp (show 4 * n < 2 ^ 31 by omega), nI_clamp (show 4 * n + 1 < 2 ^ 31 by omega), nI_clamp (show 4 * n + 2 < 2 ^ 31 by omega), nI_clamp (show 4 * n + 3 < 2 ^ 31 by omega), nI_1, ps_upS]
            rcases (show k = 0 ∨ k = 1 by omega) with rfl | rfl
            · rw [if_pos (by decide)]
              rfl
            · rw [if_neg (by decide)]
              rfl
          · exact ps_C_fr a1 a2 (fun b _ _ => by simp (disch := omega) only [vz_up_ne])
          · simp (disch := omega) only [vz_up_ne]; exact a3
          · simp (disch := omega) only [vz_up_ne, ps_upN]; exact a4
          · simp (disch := omega) only [vz_up_ne, ps_upN]; exact a5
          · refine ⟨n + 1, by omega, by simp (disch := omega) only [vz_up_ne, ps_upS], by simp (disch := omega) only [ps_upS], fun i hi => ?_⟩
            by_cases ei : i = n
            · subst ei
              exact ⟨r, w, t, k, hr, by omega, by omega, hk, by simp (disch := omega) only [vz_up_ne, ps_upS], by simp (disch := omega) only [vz_up_ne, ps_upS], by simp (disch := omega) only [vz_up_ne, ps_upS], by simp (disch := omega) only [vz_up_ne, ps_upS], by simp (disch := omega) only [vz_up_ne, ps_upN, ps_upS], by simp (disch := omega) only [vz_up_ne, ps_upN, ps_upS], by simp (disch := omega) only [vz_up_ne, ps_upN, ps_upS], by simp (disch := omega) only [vz_up_ne, ps_upS]⟩
            · obtain ⟨r', w', t', k', q1, q2, q3, q4, q⟩ := s3 i (by omega)
              refine ⟨r', w', t', k', q1, q2, q3, q4, ?_⟩
              simp (disch := omega) only [vz_up_ne, ps_upN]
              exact q
          · exact ps_img_fr (by omega) a7 (fun b hb => by simp (disch := omega) only [vz_up_ne]) (fun b _ _ => by simp (disch := omega) only [vz_up_ne])
          · exact ps_img_fr (by omega) a8 (fun b hb => by simp (disch := omega) only [vz_up_ne]) (fun b _ _ => by simp (disch := omega) only [vz_up_ne])
          · exact ps_tape_fr hP (fun b hb => by simp (disch := omega) only [vz_up_ne]) (by simp (disch := omega) only [vz_up_ne, ps_upN])
          · exact ps_ft_fr hF (by simp (disch := omega) only [vz_up_ne]) (by simp (disch := omega) only [vz_up_ne]) (by simp (disch := omega) only [vz_up_ne, ps_upN]) (by simp (disch := omega) only [vz_up_ne, ps_upN])
          · exact ps_sheet_fr hS (fun b hb => by simp (disch := omega) only [vz_up_ne])
          · exact ps_fix_fr hX (fun b hb => by simp (disch := omega) only [vz_up_ne]) (by simp (disch := omega) only [vz_up_ne, ps_upN])
        · obtain rfl : n = 6 := by omega
          refine ⟨-3, σ, σ, ?_, ?_, h⟩
          · unfold f_X8_see f_X1_add
            rw [ps_rdY a1 a2 hr, vz_b1, vz_mo, ps_n8, if_pos hd', if_neg ps_10, ps_t8, if_pos he', if_neg ps_10, s1, if_neg (by decide), vz_b2, if_pos rfl]
          · unfold f_X9_see
            rw [hrY, if_neg ps_10, ps_n9, if_pos hd', if_neg ps_10, ps_t9, if_pos he', if_neg ps_10, s2, if_pos (by decide)]
      · refine ⟨-1, σ, σ, ?_, ?_, h⟩
        · simp only [f_X8_see, ps_rdY a1 a2 hr, vz_b1, vz_mo, ps_n8, if_pos hd', if_neg ps_10, ps_t8, if_neg he, if_true]
        · simp only [f_X9_see, hrY, if_neg ps_10, ps_n9, if_pos hd', ps_t9, if_neg he, if_true]
    · refine ⟨-1, σ, σ, ?_, ?_, h⟩
      · simp only [f_X8_see, ps_rdY a1 a2 hr, vz_b1, vz_mo, ps_n8, if_neg hd, if_true]
      · simp only [f_X9_see, hrY, if_neg ps_10, ps_n9, if_neg hd, if_true]
  · refine ⟨-1, σ, σ, ?_, ?_, h⟩
    · simp only [f_X8_see, ps_rdN a1 a2 hc, vz_b1, vz_mo]
    · simp only [f_X9_see, ps_isRd a1 a5, if_neg hc, if_true]
theorem sm_keep : sim_keep ps_R := by
  intro σ h x1
  have h' := h
  obtain ⟨⟨A, a1, a2, a3, a4, a5, a6, a7, a8⟩, hP, hF, hS, hX⟩ := h'
  by_cases hc : 0 ≤ x1.toInt ∧ x1.toInt ≤ (1 : Nat)
  · have hc' := hc
    have w8 : f_X8_isWithin x1 0 1 = 1 := ps_w0t (n := 1) (by decide) hc'
    have w9 : f_X9_in x1.toInt64 0 1 = 1 := ps_ilt 1 (by decide) hc'
    obtain ⟨k, hk, rfl⟩ := ps_ofL hc
    have hin : vz_in (nI k) 2 := (ps_in (by omega)).mpr (by omega)
    have hkk : ∃ q : Int32, σ 56 k = q ∧ σ 119 k = q := by
      rcases (show k = 0 ∨ k = 1 by omega) with rfl | rfl
      · rcases a7 with ⟨q1, q2⟩ | ⟨q1, q2, _⟩
        · exact ⟨_, q1, q2⟩
        · exact ⟨_, q1, q2⟩
      · rcases a8 with ⟨q1, q2⟩ | ⟨q1, q2, _⟩
        · exact ⟨_, q1, q2⟩
        · exact ⟨_, q1, q2⟩
    obtain ⟨kk, kk1, kk2⟩ := hkk
    obtain ⟨τ, c1, c2, c3⟩ := ps_copy (T := 66 + 17 * k) a1 a2 (by omega)
    obtain ⟨υ, d1, d2, d3, d4⟩ := ps_copies (σ := vz_up τ 56 k 1) (x := 0) (y := 61 * (k + 1)) (by omega) (by omega) (by omega)
    have e61 : (61 : Int32) * (nI k + (1 : Int32)) = nI (61 * (k + 1)) := by rw [nI_1]; exact pk_mul 61 _
    have u1 : ∀ b, b ≠ 109 → b ≠ 56 → (b < 66 + 17 * k ∨ 66 + 17 * k + 16 < b) → υ b = σ b := fun b q1 q2 q3 => by rw [d2 b q1, vz_up_ne _ _ _ q2, c3 b q3]
    have v109 : (vz_up τ 56 k 1) 109 = σ 109 := by rw [vz_up_ne _ _ _ (by omega), c3 _ (by omega)]
    refine ⟨if kk = 0 then 0 else 1, vz_up τ 56 k 1, vz_up υ 119 k 1, ?_, ?_, ?_, ?_, ?_, ?_, ?_⟩
    · unfold f_X8_keep f_X8_keep_25
      rw [w8, if_neg ps_10, if_pos hin, nI_clamp (by omega), kk1, if_pos hin, c1, vz_b1, if_pos hin, vz_b1, if_pos hin, show ((1 : Int32) &&& 1) = 1 from by decide]
      split <;> rfl
    · unfold f_X9_keep f_X9_keep_37
      rw [w9, if_neg ps_10, e61]
      rw [show nI 0 = (0 : Int32) from rfl] at d1
      rw [d1, vz_b1, if_pos hin, nI_clamp (by omega), u1 119 (by omega) (by omega) (by omega), kk2, if_pos hin, if_pos hin, show ((1 : Int32) &&& 1) = 1 from by decide]
      split <;> rfl
    · have p0 : ∀ b, b < 61 * (k + 1) ∨ 61 * (k + 1) + 61 ≤ b → υ 109 b = σ 109 b := fun b hb => by rw [d3 b hb, v109]
      have hnew : ps_img A (vz_up υ 119 k 1) k := by
        refine Or.inr ⟨?_, ?_, A, a1, rfl, rfl, ?_, ?_⟩
        · rw [vz_up_ne _ _ _ (by omega), d2 56 (by omega), ps_upS]
        · rw [ps_upS]
        · exact ps_C_fr a1 c2 (fun b _ _ => by rw [vz_up_ne _ _ _ (by omega), d2 b (by omega), vz_up_ne _ _ _ (by omega)])
        · rw [vz_up_ne _ _ _ (by omega)]
          exact ps_M_mv (f := (vz_up τ 56 k 1) 109) (x := 0) a1 (by rw [v109]; exact a3) d4
      have hold : ∀ j, j < 2 → j ≠ k → ps_img A σ j → ps_img A (vz_up υ 119 k 1) j := by
        intro j hj hjk hi
        rcases hi with ⟨q1, q2⟩ | ⟨q1, q2, B, b1, b2, b3, b4, b5⟩
        · refine Or.inl ⟨?_, ?_⟩
          · rw [vz_up_ne _ _ _ (by omega), d2 56 (by omega), ps_upN _ _ hjk, c3 56 (by omega)]; exact q1
          · rw [ps_upN _ _ hjk, u1 119 (by omega) (by omega) (by omega)]; exact q2
        · refine Or.inr ⟨?_, ?_, B, b1, b2, b3, ?_, ?_⟩
          · rw [vz_up_ne _ _ _ (by omega), d2 56 (by omega), ps_upN _ _ hjk, c3 56 (by omega)]; exact q1
          · rw [ps_upN _ _ hjk, u1 119 (by omega) (by omega) (by omega)]; exact q2
          · exact ps_C_fr b1 b4 (fun b _ _ => by rw [vz_up_ne _ _ _ (by omega)]; exact u1 b (by omega) (by omega) (by omega))
          · exact ps_M_fr b1 b5 (fun b _ _ => by rw [vz_up_ne _ _ _ (by omega)]; exact p0 b (by omega))
      refine ⟨A, a1, ?_, ?_, ?_, ?_, ?_, ?_, ?_⟩
      · exact ps_C_fr a1 a2 (fun b _ _ => by rw [vz_up_ne _ _ _ (by omega)]; exact u1 b (by omega) (by omega) (by omega))
      · exact ps_M_fr a1 a3 (fun b _ _ => by rw [vz_up_ne _ _ _ (by omega)]; exact p0 b (by omega))
      · rw [vz_up_ne _ _ _ (by omega), u1 108 (by omega) (by omega) (by omega)]; exact a4
      · rw [vz_up_ne _ _ _ (by omega), u1 108 (by omega) (by omega) (by omega)]; exact a5
      · exact ps_seen_fr a6 (fun b hb => by rw [vz_up_ne _ _ _ (by omega)]; exact u1 b (by omega) (by omega) (by omega)) (by rw [vz_up_ne _ _ _ (by omega), u1 108 (by omega) (by omega) (by omega)])
      · by_cases e : 0 = k
        · subst e; exact hnew
        · exact hold 0 (by omega) e a7
      · by_cases e : 1 = k
        · subst e; exact hnew
        · exact hold 1 (by omega) e a8
    · exact ps_tape_fr hP (fun b hb => by rw [vz_up_ne _ _ _ (by omega)]; exact u1 b (by omega) (by omega) (by omega)) (by rw [vz_up_ne _ _ _ (by omega), u1 108 (by omega) (by omega) (by omega)])
    · exact ps_ft_fr hF (by rw [vz_up_ne _ _ _ (by omega), u1 1 (by omega) (by omega) (by omega)]) (by rw [vz_up_ne _ _ _ (by omega), u1 0 (by omega) (by omega) (by omega)]) (by rw [vz_up_ne _ _ _ (by omega), u1 108 (by omega) (by omega) (by omega)]) (by rw [vz_up_ne _ _ _ (by omega), u1 108 (by omega) (by omega) (by omega)])
    · exact ps_sheet_fr hS (fun b hb => by rw [vz_up_ne _ _ _ (by omega)]; exact u1 b (by omega) (by omega) (by omega))
    · exact ps_fix_fr hX (fun b hb => by rw [vz_up_ne _ _ _ (by omega)]; exact u1 b (by omega) (by omega) (by omega)) (by rw [vz_up_ne _ _ _ (by omega), u1 108 (by omega) (by omega) (by omega)])
  · have w8 : f_X8_isWithin x1 0 1 = 0 := ps_w0f (n := 1) (by decide) hc
    have w9 : f_X9_in x1.toInt64 0 1 = 0 := ps_ilf 1 (by decide) hc
    refine ⟨-1, σ, σ, ?_, ?_, h⟩
    · simp only [f_X8_keep, w8, if_true]
    · simp only [f_X9_keep, w9, if_true]
