/-! pure: stand, rain, pave, see -/
theorem ps_Ok_rd {A : ps_T} {r v s : Nat} (h : ps_Ok A) (hr : r < A 0 1) (hs : s < 3) (h0 : s = 0 → v < 8) (h1 : s = 1 → v ≤ A 6 r) (h2 : s = 2 → A 5 r ≤ v ∧ v < 60) : ps_Ok (ps_set A (4 + s) r v) := by
  obtain ⟨o1, o2, o3, o4, o5, o6, o7, o8⟩ := h
  refine ⟨?_, ?_, ?_, ?_, ?_, fun m' hm' => ?_, fun r' hr' => ?_, fun i hi => ?_⟩
  · simp (disch := omega) only [ps_setN]; exact o1
  · simp (disch := omega) only [ps_setN]; exact o2
  · simp (disch := omega) only [ps_setN]; exact o3
  · simp (disch := omega) only [ps_setN]; exact o4
  · simp (disch := omega) only [ps_setN]; exact o5
  · simp (disch := omega) only [ps_setN] at hm' ⊢; exact o6 m' hm'
  · simp (disch := omega) only [ps_setN] at hr'
    obtain ⟨g1, g2, g3⟩ := o7 r' hr'
    by_cases e : r' = r
    · subst e
      rcases (show s = 0 ∨ s = 1 ∨ s = 2 by omega) with rfl | rfl | rfl
      · have := h0 rfl
        simp (disch := omega) only [ps_setN, ps_setS]
        omega
      · have := h1 rfl
        rw [show 4 + 1 = 5 by rfl]
        simp (disch := omega) only [ps_setN, ps_setS]
        omega
      · have := h2 rfl
        rw [show 4 + 2 = 6 by rfl]
        simp (disch := omega) only [ps_setN, ps_setS]
        omega
    · simp (disch := omega) only [ps_setN]
      exact ⟨g1, g2, g3⟩
  · simp (disch := omega) only [ps_setN] at hi ⊢; exact o8 i hi
/-- both sides change one number of a reader -/
theorem ps_setrd {σ : vz_I} {A : ps_T} {r v s : Nat} (a1 : ps_Ok A) (a2 : ps_C A σ 21) (a3 : ps_M A (σ 109) 0) (a4 : σ 108 1 = nI (A 0 0)) (a5 : σ 108 2 = nI (A 0 1)) (a6 : ps_seen A σ) (a7 : ps_img A σ 0) (a8 : ps_img A σ 1) (hr : r < A 0 1) (hs : s < 3) (h0 : s = 0 → v < 8) (h1 : s = 1 → v ≤ A 6 r) (h2 : s = 2 → A 5 r ≤ v ∧ v < 60) : ps_town (vz_up (vz_up σ (21 + 13 + r) s (nI v)) 109 (28 + 4 * s + r) (nI v)) := by
  have o2 := a1.2.1
  have hC := ps_C_rd (v := v) hr a1 hs a2
  have hM := ps_M_rd (v := v) a1 hr hs a3
  have hok := ps_Ok_rd a1 hr hs h0 h1 h2
  have e1 : ∀ b, (21 ≤ b ∧ b ≤ 37) → (vz_up (vz_up σ (21 + 13 + r) s (nI v)) 109 (28 + 4 * s + r) (nI v)) b = (vz_up σ (21 + 13 + r) s (nI v)) b := fun b hb => by simp (disch := omega) only [vz_up_ne]
  refine ps_town_up a1 hok (ps_C_fr hok hC (fun b q1 q2 => e1 b (by omega))) ?_ (ps_setN A v (by omega)) (ps_setN A v (by omega)) a4 a5 a6 a7 a8 (fun b hb => by simp (disch := omega) only [vz_up_ne]) (fun b q1 q2 => ?_) (fun j hj => by simp (disch := omega) only [vz_up_ne])
  · rw [vz_up_self, vz_up_ne σ _ _ (by omega), show 28 + 4 * s + r = 0 + 28 + 4 * s + r by omega]
    exact hM
  · rw [ps_upN _ _ (by omega), vz_up_ne σ _ _ (by omega)]
theorem ps_s82 {σ : vz_I} {r s : Nat} {v : Int32} (hr : r < 4) (hs : s < 3) : f_X9_stands_82 (nI r) (nI s) v σ = some (σ 109 (28 + 4 * s + r), vz_up σ 109 (28 + 4 * s + r) v) := by
  unfold f_X9_stands_82
  rw [show (4 : Int32) * nI s = nI (4 * s) from pk_mul 4 s, show (28 : Int32) + nI (4 * s) = nI (28 + 4 * s) from nI_add 28 _, nI_add, ps_puts1 (by omega)]
  rfl
theorem ps_toI {x : Int32} {n : Nat} (hn : n < 2 ^ 31) : x < nI n ↔ x.toInt < (n : Int) := by
  rw [Int32.lt_iff_toInt_lt, nI_toInt hn]
theorem ps_toG {x : Int32} {n : Nat} (hn : n < 2 ^ 31) : nI n < x ↔ (n : Int) < x.toInt := by
  rw [Int32.lt_iff_toInt_lt, nI_toInt hn]
theorem ps_toL {x : Int32} {n : Nat} (hn : n < 2 ^ 31) : nI n ≤ x ↔ (n : Int) ≤ x.toInt := by
  rw [Int32.le_iff_toInt_le, nI_toInt hn]
theorem sm_stand : sim_stand ps_R := by
  intro σ h x1 x2 x3
  have h' := h
  obtain ⟨⟨A, a1, a2, a3, a4, a5, a6, a7, a8⟩, hP, hF, hS, hX⟩ := h'
  have o2 := a1.2.1
  by_cases hc : 0 ≤ x1.toInt ∧ x1.toInt < A 0 1
  · obtain ⟨r, hr, rfl⟩ := ps_ofM hc
    have hrY := ps_isRdY a1 a5 hr
    obtain ⟨k1, k2, k3⟩ := ps_rOk a1 hr
    obtain ⟨g1, g2, g3⟩ := ps_rcOf a2 hr
    obtain ⟨j1, j2, j3⟩ := a3.2.2.2.2.1 r hr
    rw [show 0 + 28 + r = 28 + r by omega] at j1
    rw [show 0 + 32 + r = 32 + r by omega] at j2
    rw [show 0 + 36 + r = 36 + r by omega] at j3
    have e32 : (32 : Int32) + nI r = nI (32 + r) := nI_add 32 r
    have e36 : (36 : Int32) + nI r = nI (36 + r) := nI_add 36 r
    have key : ∀ s v : Nat, s < 3 → (s = 0 → v < 8) → (s = 1 → v ≤ A 6 r) → (s = 2 → A 5 r ≤ v ∧ v < 60) → ps_R (vz_up (vz_up σ (21 + 13 + r) s (nI v)) 109 (28 + 4 * s + r) (nI v)) := fun s v hs h0 h1 h2 => by
      refine ⟨ps_setrd a1 a2 a3 a4 a5 a6 a7 a8 hr hs h0 h1 h2, ?_, ?_, ?_, ?_⟩
      · exact ps_tape_fr hP (fun b hb => by simp (disch := omega) only [vz_up_ne]) (by simp (disch := omega) only [vz_up_ne])
      · exact ps_ft_fr hF (by simp (disch := omega) only [vz_up_ne]) (by simp (disch := omega) only [vz_up_ne]) (by simp (disch := omega) only [vz_up_ne]) (by simp (disch := omega) only [vz_up_ne])
      · exact ps_sheet_fr hS (fun b hb => by simp (disch := omega) only [vz_up_ne])
      · exact ps_fix_fr hX (fun b hb => by simp (disch := omega) only [vz_up_ne]) (by simp (disch := omega) only [vz_up_ne])
    have hrY' : ∀ s x, f_X9_isReader (nI r) (vz_up σ (21 + 13 + r) s x) = 1 := fun s x => ps_isRdY a1 (by rw [vz_up_ne σ _ _ (by omega)]; exact a5) hr
    have f109 : ∀ s x, (vz_up σ (21 + 13 + r) s x) 109 = σ 109 := fun s x => vz_up_ne σ _ _ (by omega)
    by_cases hd : 0 ≤ x2.toInt ∧ x2.toInt ≤ (2 : Nat)
    · have hi9 : f_X9_in x2.toInt64 0 2 = 1 := ps_ilt 2 (by decide) hd
      rcases ps_three hd with rfl | rfl | rfl
      · by_cases he : 0 ≤ x3.toInt ∧ x3.toInt ≤ (7 : Nat)
        · have he' := he
          obtain ⟨v, hv, rfl⟩ := ps_ofL he
          refine ⟨nI (A 4 r), vz_up σ (21 + 13 + r) 0 (nI v), vz_up (vz_up σ (21 + 13 + r) 0 (nI v)) 109 (28 + 4 * 0 + r) (nI v), ?_, ?_, key 0 v (by omega) (by omega) (by omega) (by omega)⟩
          · simp only [f_X8_stand, ps_rdY a1 a2 hr, vz_b1, vz_mo]
            rw [if_pos (by decide), ps_c8, if_pos he', if_neg ps_10]
            simp only [f_X3_setCorner, vz_c2, g1]
          · unfold f_X9_stand f_X9_stands f_X9_stands_15 f_X9_stands_62
            rw [if_pos (by decide), hrY', if_neg ps_10, hi9, if_neg ps_10, ps_c9, if_pos he', if_neg ps_10, if_neg (by decide), if_neg (by decide), ps_s82 (by omega) (by omega), f109, vz_b2, show 28 + 4 * 0 + r = 28 + r by omega, j1]
        · refine ⟨-1, σ, σ, ?_, ?_, h⟩
          · simp only [f_X8_stand, ps_rdY a1 a2 hr, vz_b1, vz_mo]
            rw [if_pos (by decide), ps_c8, if_neg he, if_pos rfl]
          · unfold f_X9_stand f_X9_stands f_X9_stands_15
            rw [if_pos (by decide), hrY, if_neg ps_10, hi9, if_neg ps_10, ps_c9, if_neg he, if_pos rfl]
            rfl
      · by_cases he : 0 ≤ x3.toInt ∧ x3.toInt ≤ (A 6 r : Nat)
        · have he' := he
          obtain ⟨v, hv, rfl⟩ := ps_ofL he
          refine ⟨nI (A 5 r), vz_up σ (21 + 13 + r) 1 (nI v), vz_up (vz_up σ (21 + 13 + r) 1 (nI v)) 109 (28 + 4 * 1 + r) (nI v), ?_, ?_, key 1 v (by omega) (by omega) (by omega) (by omega)⟩
          · simp only [f_X8_stand, ps_rdY a1 a2 hr, vz_b1, vz_mo]
            rw [if_neg (by decide), if_pos (by decide), g3, ps_w0t (by omega) he', if_neg ps_10]
            simp only [f_X3_setFrom, vz_c2, g2]
          · have hm : 0 ≤ (nI v).toInt ∧ (nI v).toInt ≤ (59 : Nat) := by rw [nI_toInt (by omega)]; omega
            unfold f_X9_stand f_X9_stands f_X9_stands_15 f_X9_stands_62
            rw [if_neg (by decide), hrY', if_neg ps_10, hi9, if_neg ps_10, ps_t9, if_pos hm, if_neg ps_10, if_pos (by decide), e36, if_pos ((ps_in (by omega)).mpr (by omega)), nI_clamp (by omega), f109, j3, if_neg (nI_nlt hv (by omega)), if_neg (by decide), ps_s82 (by omega) (by omega), f109, vz_b2, show 28 + 4 * 1 + r = 32 + r by omega, j2]
        · refine ⟨-1, σ, σ, ?_, ?_, h⟩
          · simp only [f_X8_stand, ps_rdY a1 a2 hr, vz_b1, vz_mo]
            rw [if_neg (by decide), if_pos (by decide), g3, ps_w0f (by omega) he, if_pos rfl]
          · unfold f_X9_stand f_X9_stands f_X9_stands_15
            rw [if_neg (by decide), hrY, if_neg ps_10, hi9, if_neg ps_10, ps_t9]
            by_cases hm : 0 ≤ x3.toInt ∧ x3.toInt ≤ (59 : Nat)
            · rw [if_pos hm, if_neg ps_10, if_pos (by decide), e36, if_pos ((ps_in (by omega)).mpr (by omega)), nI_clamp (by omega), j3, if_pos ((ps_toG (by omega)).mpr (by omega))]
              rfl
            · rw [if_neg hm, if_pos rfl]
              rfl
      · by_cases he : (A 5 r : Nat) ≤ x3.toInt ∧ x3.toInt ≤ (59 : Nat)
        · have he' := he
          have hm : 0 ≤ x3.toInt ∧ x3.toInt ≤ (59 : Nat) := by omega
          have hm' := hm
          obtain ⟨v, hv, rfl⟩ := ps_ofL hm
          have hv2 : A 5 r ≤ v := by rw [nI_toInt (by omega)] at he; omega
          refine ⟨nI (A 6 r), vz_up σ (21 + 13 + r) 2 (nI v), vz_up (vz_up σ (21 + 13 + r) 2 (nI v)) 109 (28 + 4 * 2 + r) (nI v), ?_, ?_, key 2 v (by omega) (by omega) (by omega) (by omega)⟩
          · simp only [f_X8_stand, ps_rdY a1 a2 hr, vz_b1, vz_mo]
            rw [if_neg (by decide), if_neg (by decide), if_pos (by decide), g2, ps_w, nI_toInt (show A 5 r < 2 ^ 31 by omega), show (59 : Int32).toInt = ((59 : Nat) : Int) from rfl, if_pos he', if_neg ps_10]
            simp only [f_X3_setUntil, vz_c2, g3]
          · unfold f_X9_stand f_X9_stands f_X9_stands_15 f_X9_stands_62
            rw [if_neg (by decide), hrY', if_neg ps_10, hi9, if_neg ps_10, ps_t9, if_pos hm', if_neg ps_10, if_neg (by decide), if_pos (by decide), e32, if_pos ((ps_in (by omega)).mpr (by omega)), nI_clamp (by omega), f109, j2, if_pos (nI_le hv2 (by omega)), ps_s82 (by omega) (by omega), f109, vz_b2, show 28 + 4 * 2 + r = 36 + r by omega, j3]
        · refine ⟨-1, σ, σ, ?_, ?_, h⟩
          · simp only [f_X8_stand, ps_rdY a1 a2 hr, vz_b1, vz_mo]
            rw [if_neg (by decide), if_neg (by decide), if_pos (by decide), g2, ps_w, nI_toInt (show A 5 r < 2 ^ 31 by omega), show (59 : Int32).toInt = ((59 : Nat) : Int) from rfl, if_neg he, if_pos rfl]
          · unfold f_X9_stand f_X9_stands f_X9_stands_15 f_X9_stands_62
            rw [if_neg (by decide), hrY, if_neg ps_10, hi9, if_neg ps_10, ps_t9]
            by_cases hm : 0 ≤ x3.toInt ∧ x3.toInt ≤ (59 : Nat)
            · rw [if_pos hm, if_neg ps_10, if_neg (by decide), if_pos (by decide), e32, if_pos ((ps_in (by omega)).mpr (by omega)), nI_clamp (by omega), j2, if_neg (fun q => by rw [ps_toL (by omega)] at q; omega)]
              rfl
            · rw [if_neg hm, if_pos rfl]
              rfl
    · obtain ⟨n0, n1, n2⟩ := ps_not2 hd
      have hi9 : f_X9_in x2.toInt64 0 2 = 0 := ps_ilf 2 (by decide) hd
      refine ⟨-1, σ, σ, ?_, ?_, h⟩
      · simp only [f_X8_stand, ps_rdY a1 a2 hr, vz_b1, vz_mo, if_neg n0, if_neg n1, if_neg n2]
      · unfold f_X9_stand f_X9_stands f_X9_stands_15
        rw [if_neg n0, hrY, if_neg ps_10, hi9, if_pos rfl]
        rfl
  · refine ⟨-1, σ, σ, ?_, ?_, h⟩
    · simp only [f_X8_stand, ps_rdN a1 a2 hc, vz_b1, vz_mo]
    · unfold f_X9_stand f_X9_stands f_X9_stands_15
      rw [ps_isRd a1 a5, if_neg hc]
      by_cases z : x2 = 0
      · rw [if_pos z, if_pos rfl]; rfl
      · rw [if_neg z, if_pos rfl]; rfl
theorem ps_C_rain {A : ps_T} {σ : vz_I} {T a n : Nat} (hok : ps_Ok A) (h : ps_C A σ T) : ps_C (ps_set (ps_set A 7 0 a) 7 1 n) (vz_up (vz_up σ T 3 (nI a)) T 4 (nI n)) T := by
  obtain ⟨h1, h2, h3, h4, h5, h6, h7, h8⟩ := h
  obtain ⟨o1, o2, o3, -⟩ := hok
  refine ⟨?_, ?_, ?_, ?_, ?_, fun m' hm' => ?_, fun r hr => ?_, fun i hi => ?_⟩
  · simp (disch := omega) only [ps_upN, ps_setN, h1]
  · simp (disch := omega) only [ps_upN, ps_setN, h2]
  · simp (disch := omega) only [ps_upN, ps_setN, h3]
  · simp (disch := omega) only [ps_upN, ps_upS, ps_setN, ps_setS]
  · simp (disch := omega) only [ps_upS, ps_setS]
  · simp (disch := omega) only [ps_setN] at hm' ⊢
    simp (disch := omega) only [vz_up_ne]
    exact h6 m' hm'
  · simp (disch := omega) only [ps_setN] at hr ⊢
    simp (disch := omega) only [vz_up_ne]
    exact h7 r hr
  · simp (disch := omega) only [ps_setN] at hi ⊢
    simp (disch := omega) only [vz_up_ne]
    exact h8 i hi
theorem ps_M_rain {A : ps_T} {f : Nat → Int32} {p a n : Nat} (hok : ps_Ok A) (h : ps_M A f p) : ps_M (ps_set (ps_set A 7 0 a) 7 1 n) (upd (upd f (p + 41) (nI n)) (p + 40) (nI a)) p := by
  obtain ⟨h1, h2, h3, h6, h7, h8⟩ := h
  obtain ⟨o1, o2, o3, -, -, o6, -⟩ := hok
  refine ⟨?_, ?_, ?_, fun m' hm' => ?_, fun r hr => ?_, fun i hi => ?_⟩
  · simp (disch := omega) only [ps_updS, ps_setN, ps_setS]
  · simp (disch := omega) only [ps_updN, ps_updS, ps_setS]
  · simp (disch := omega) only [ps_updN, ps_setN, h3]
  · simp (disch := omega) only [ps_setN] at hm' ⊢
    have ho := o6 m' hm'
    obtain ⟨g1, g2, g3, g4⟩ := h6 m' hm'
    refine ⟨?_, ?_, ?_, fun i hi => ?_⟩
    · simp (disch := omega) only [ps_updN]; exact g1
    · simp (disch := omega) only [ps_updN]; exact g2
    · simp (disch := omega) only [ps_updN]; exact g3
    · simp (disch := omega) only [ps_updN]; exact g4 i hi
  · simp (disch := omega) only [ps_setN] at hr ⊢
    simp (disch := omega) only [ps_updN]
    exact h7 r hr
  · simp (disch := omega) only [ps_setN] at hi ⊢
    simp (disch := omega) only [ps_updN]
    exact h8 i hi
theorem ps_Ok_rain {A : ps_T} {a n : Nat} (h : ps_Ok A) (ha : a < 60) (hn : n < 60) : ps_Ok (ps_set (ps_set A 7 0 a) 7 1 n) := by
  obtain ⟨o1, o2, o3, o4, o5, o6, o7, o8⟩ := h
  refine ⟨?_, ?_, ?_, ?_, ?_, fun m' hm' => ?_, fun r' hr' => ?_, fun i hi => ?_⟩
  · simp (disch := omega) only [ps_setN]; exact o1
  · simp (disch := omega) only [ps_setN]; exact o2
  · simp (disch := omega) only [ps_setN]; exact o3
  · simp (disch := omega) only [ps_setN, ps_setS]; exact ha
  · simp (disch := omega) only [ps_setS]; exact hn
  · simp (disch := omega) only [ps_setN] at hm' ⊢; exact o6 m' hm'
  · simp (disch := omega) only [ps_setN] at hr' ⊢; exact o7 r' hr'
  · simp (disch := omega) only [ps_setN] at hi ⊢; exact o8 i hi
theorem sm_rain : sim_rain ps_R := by
  intro σ h x1 x2
  have h' := h
  obtain ⟨⟨A, a1, a2, a3, a4, a5, a6, a7, a8⟩, hP, hF, hS, hX⟩ := h'
  by_cases hc : 0 ≤ x1.toInt ∧ x1.toInt ≤ (59 : Nat)
  · have hc' := hc
    obtain ⟨a, ha, rfl⟩ := ps_ofL hc
    by_cases hd : 0 ≤ x2.toInt ∧ x2.toInt ≤ (59 : Nat)
    · have hd' := hd
      obtain ⟨n, hn, rfl⟩ := ps_ofL hd
      have hok := ps_Ok_rain (a := a) (n := n) a1 (by omega) (by omega)
      refine ⟨nI (A 7 0), vz_up (vz_up σ 21 3 (nI a)) 21 4 (nI n), vz_up (vz_up (vz_up (vz_up σ 21 3 (nI a)) 21 4 (nI n)) 109 41 (nI n)) 109 40 (nI a), ?_, ?_, ?_, ?_, ?_, ?_, ?_⟩
      · simp only [f_X8_rain, ps_t8, if_pos hc', if_pos hd', if_neg ps_10, f_X7_setRain, a2.2.2.2.1]
      · unfold f_X9_rain
        rw [ps_t9, if_pos hc', if_neg ps_10, ps_t9, if_pos hd', if_neg ps_10, if_pos (by decide), show (40 : Int32) = nI 40 from rfl, ps_puts1 (by omega), show (41 : Int32).toNatClampNeg = 41 from rfl, vz_b2, ps_upN _ _ (by omega), vz_up_ne _ _ _ (show (109 : Nat) ≠ 21 by omega), vz_up_ne _ _ _ (show (109 : Nat) ≠ 21 by omega), a3.1]
      · refine ps_town_up a1 hok (ps_C_fr hok (ps_C_rain (a := a) (n := n) a1 a2) (fun b _ _ => by simp (disch := omega) only [vz_up_ne])) ?_ (by simp (disch := omega) only [ps_setN]) (by simp (disch := omega) only [ps_setN]) a4 a5 a6 a7 a8 (fun b hb => by simp (disch := omega) only [vz_up_ne]) (fun b _ _ => by simp (disch := omega) only [ps_upN, vz_up_ne]) (fun j hj => by simp (disch := omega) only [vz_up_ne])
        have q := ps_M_rain (a := a) (n := n) a1 a3
        rw [vz_up_self, vz_up_self, vz_up_ne _ _ _ (show (109 : Nat) ≠ 21 by omega), vz_up_ne _ _ _ (show (109 : Nat) ≠ 21 by omega)]
        exact q
      · exact ps_tape_fr hP (fun b hb => by simp (disch := omega) only [vz_up_ne]) (by simp (disch := omega) only [vz_up_ne])
      · exact ps_ft_fr hF (by simp (disch := omega) only [vz_up_ne]) (by simp (disch := omega) only [vz_up_ne]) (by simp (disch := omega) only [vz_up_ne]) (by simp (disch := omega) only [vz_up_ne])
      · exact ps_sheet_fr hS (fun b hb => by simp (disch := omega) only [vz_up_ne])
      · exact ps_fix_fr hX (fun b hb => by simp (disch := omega) only [vz_up_ne]) (by simp (disch := omega) only [vz_up_ne])
    · refine ⟨-1, σ, σ, ?_, ?_, h⟩
      · simp only [f_X8_rain, ps_t8, if_pos hc', if_neg hd, if_neg ps_10, if_true]
      · simp only [f_X9_rain, ps_t9, if_pos hc', if_neg hd, if_neg ps_10, if_true]
  · refine ⟨-1, σ, σ, ?_, ?_, h⟩
    · simp only [f_X8_rain, ps_t8, if_neg hc, if_true]
    · simp only [f_X9_rain, ps_t9, if_neg hc, if_true]
