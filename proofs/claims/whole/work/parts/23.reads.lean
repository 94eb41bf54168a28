/-! pure: walk, street, reader, alter, stand, rain -/
theorem ps_hp {σ : vz_I} {a n : Nat} {x : Int32} (hn : n < 2 ^ 30) (h : σ a 2 = nI n) : f_X0_hasPlace a x σ = if 0 ≤ x.toInt ∧ x.toInt < n then 1 else 0 := by
  unfold f_X0_hasPlace
  rw [h]
  by_cases h0 : x < 0
  · rw [if_pos h0, if_neg]
    rw [Int32.lt_iff_toInt_lt] at h0
    simp at h0
    omega
  · rw [if_neg h0]
    rw [Int32.lt_iff_toInt_lt] at h0
    simp at h0
    by_cases h1 : nI n ≤ x
    · rw [if_pos h1, if_neg]
      rw [Int32.le_iff_toInt_le, nI_toInt (by omega)] at h1
      omega
    · rw [if_neg h1, if_pos]
      rw [Int32.le_iff_toInt_le, nI_toInt (by omega)] at h1
      omega
theorem ps_isManY {A : ps_T} {σ : vz_I} {m : Nat} (hok : ps_Ok A) (h1 : σ 108 1 = nI (A 0 0)) (hm : m < A 0 0) : f_X9_isMan (nI m) σ = 1 := by
  have h4 := hok.1
  rw [ps_isMan hok h1]
  exact if_pos (by rw [nI_toInt (by omega)]; omega)
theorem ps_isRdY {A : ps_T} {σ : vz_I} {m : Nat} (hok : ps_Ok A) (h1 : σ 108 2 = nI (A 0 1)) (hm : m < A 0 1) : f_X9_isReader (nI m) σ = 1 := by
  have h4 := hok.2.1
  rw [ps_isRd hok h1]
  exact if_pos (by rw [nI_toInt (by omega)]; omega)
theorem ps_mlen {A : ps_T} {σ : vz_I} {m : Nat} (hM : ps_M A (σ 109) 0) (hm : m < A 0 0) (hok : ps_Ok A) : vz_in ((8 : Int32) + nI m) 305 ∧ σ 109 ((8 : Int32) + nI m).toNatClampNeg = nI (A 3 m) := by
  have h4 := hok.1
  have e : (8 : Int32) + nI m = nI (8 + m) := nI_add 8 m
  rw [e]
  refine ⟨(ps_in (by omega)).mpr (by omega), ?_⟩
  rw [nI_clamp (by omega)]
  have := (hM.2.2.2.1 m hm).2.2.1
  rw [show 0 + 8 + m = 8 + m by omega] at this
  exact this
theorem ps_isPl {A : ps_T} {σ : vz_I} {m : Nat} {x : Int32} (hok : ps_Ok A) (hM : ps_M A (σ 109) 0) (h1 : σ 108 1 = nI (A 0 0)) (hm : m < A 0 0) : f_X9_isPlace (nI m) x σ = some (if 0 ≤ x.toInt ∧ x.toInt < A 3 m then 1 else 0) := by
  have h4 := hok.1
  have hl := (hok.2.2.2.2.2.1 m hm).2.2.2.1
  obtain ⟨q1, q2⟩ := ps_mlen hM hm hok
  unfold f_X9_isPlace
  rw [ps_isManY hok h1 hm, if_neg ps_10, if_pos q1, q2, ps_im x (by omega)]
  by_cases hc : 0 ≤ x.toInt ∧ x.toInt < A 3 m
  · rw [if_pos hc, if_neg ps_10]
  · rw [if_neg hc, if_pos rfl]
theorem ps_isPlN {A : ps_T} {σ : vz_I} {x1 x : Int32} (hok : ps_Ok A) (h1 : σ 108 1 = nI (A 0 0)) (hx : ¬ (0 ≤ x1.toInt ∧ x1.toInt < A 0 0)) : f_X9_isPlace x1 x σ = some 0 := by
  unfold f_X9_isPlace
  rw [ps_isMan hok h1, if_neg hx, if_pos rfl]
theorem sm_walk : sim_walk ps_R := by
  intro σ h x1 x2
  have h' := h
  obtain ⟨⟨A, a1, a2, a3, a4, a5, a6, a7, a8⟩, -⟩ := h'
  by_cases hc : 0 ≤ x1.toInt ∧ x1.toInt < A 0 0
  · obtain ⟨m, hm, rfl⟩ := ps_ofM hc
    have h4 := a1.1
    obtain ⟨-, -, l1, l2, -⟩ := a1.2.2.2.2.2.1 m hm
    obtain ⟨-, -, g3, g4⟩ := a2.2.2.2.2.2.1 m hm
    by_cases hd : 0 ≤ x2.toInt ∧ x2.toInt < A 3 m
    · have hd' := hd
      obtain ⟨i, hi, rfl⟩ := ps_ofM hd
      have hin : vz_in (nI i) 4 := (ps_in (by omega)).mpr (by omega)
      have e : ((12 : Int32) + ((4 : Int32) * nI m)) + nI i = nI (12 + 4 * m + i) := by
        rw [show (4 : Int32) * nI m = nI (4 * m) from pk_mul 4 m, show (12 : Int32) + nI (4 * m) = nI (12 + 4 * m) from nI_add 12 _, nI_add]
      have hin2 : vz_in (nI (12 + 4 * m + i)) 305 := (ps_in (by omega)).mpr (by omega)
      have hv := (a3.2.2.2.1 m hm).2.2.2 i hi
      rw [show 0 + 12 + 4 * m + i = 12 + 4 * m + i by omega] at hv
      refine ⟨nI (A (10 + m) i), σ, σ, ⟨?_, rfl⟩, ⟨?_, rfl⟩, h⟩
      · simp only [f_X8_walk, ps_manY a1 a2 hm, vz_b1, vz_mo, ps_hp (show A 3 m < 2 ^ 30 by omega) g3, if_pos hd', if_neg ps_10, if_pos hin, nI_clamp (show i < 2 ^ 31 by omega), g4 i hi]
      · simp only [f_X9_walk, ps_isPl a1 a3 a4 hm, if_pos hd', vz_b1, if_neg ps_10, e, if_pos hin2, nI_clamp (show 12 + 4 * m + i < 2 ^ 31 by omega), hv]
    · refine ⟨-1, σ, σ, ⟨?_, rfl⟩, ⟨?_, rfl⟩, h⟩
      · simp only [f_X8_walk, ps_manY a1 a2 hm, vz_b1, vz_mo, ps_hp (show A 3 m < 2 ^ 30 by omega) g3, if_neg hd, if_true]
      · simp only [f_X9_walk, ps_isPl a1 a3 a4 hm, if_neg hd, vz_b1, if_true]
  · refine ⟨-1, σ, σ, ⟨?_, rfl⟩, ⟨?_, rfl⟩, h⟩
    · simp only [f_X8_walk, ps_manN a1 a2 hc, vz_b1, vz_mo]
    · simp only [f_X9_walk, ps_isPlN a1 a4 hc, vz_b1, if_true]
theorem ps_42 {A : ps_T} {σ : vz_I} (hM : ps_M A (σ 109) 0) : vz_in (42 : Int32) 305 ∧ σ 109 (42 : Int32).toNatClampNeg = nI (A 0 2) := ⟨by decide, hM.2.2.1⟩
theorem ps_two {x : Int32} (h : 0 ≤ x.toInt ∧ x.toInt ≤ (1 : Nat)) : x = 0 ∨ x = 1 := by
  obtain ⟨j, hj, rfl⟩ := ps_ofL h
  rcases (show j = 0 ∨ j = 1 by omega) with rfl | rfl
  · exact Or.inl rfl
  · exact Or.inr rfl
theorem sm_street : sim_street ps_R := by
  intro σ h x1 x2
  have h' := h
  obtain ⟨⟨A, a1, a2, a3, a4, a5, a6, a7, a8⟩, -⟩ := h'
  have h9 := a1.2.2.1
  obtain ⟨q1, q2⟩ := ps_42 a3
  have h1l : (1 : Int64) = lN 1 := rfl
  by_cases hc : 0 ≤ x1.toInt ∧ x1.toInt < A 0 2
  · have hc' := hc
    obtain ⟨i, hi, rfl⟩ := ps_ofM hc
    have hin : vz_in (nI i) 9 := (ps_in (by omega)).mpr (by omega)
    obtain ⟨g1, g2⟩ := a2.2.2.2.2.2.2.2 i hi
    obtain ⟨k1, k2⟩ := a3.2.2.2.2.2 i hi
    by_cases hd : 0 ≤ x2.toInt ∧ x2.toInt ≤ (1 : Nat)
    · rcases ps_two hd with rfl | rfl
      · have e : ((43 : Int32) + ((9 : Int32) * 0)) + nI i = nI (43 + i) := nI_add 43 i
        have hin2 : vz_in (nI (43 + i)) 305 := (ps_in (by omega)).mpr (by omega)
        refine ⟨nI (A 8 i), σ, σ, ⟨?_, rfl⟩, ⟨?_, rfl⟩, h⟩
        · simp only [f_X8_street, a2.2.1, ps_wm _ (show A 0 2 < 2 ^ 30 by omega), if_pos hc', if_neg ps_10, ps_e8, if_pos hd, if_true, if_pos hin, nI_clamp (show i < 2 ^ 31 by omega), g1]
        · simp only [f_X9_street, if_pos q1, q2, ps_im _ (show A 0 2 < 2 ^ 30 by omega), if_pos hc', if_neg ps_10, h1l, ps_ilt 1 (by decide) hd, e, if_pos hin2, nI_clamp (show 43 + i < 2 ^ 31 by omega)]
          rw [show 0 + 43 + i = 43 + i by omega] at k1
          rw [k1]
      · have e : ((43 : Int32) + ((9 : Int32) * 1)) + nI i = nI (52 + i) := nI_add 52 i
        have hin2 : vz_in (nI (52 + i)) 305 := (ps_in (by omega)).mpr (by omega)
        refine ⟨nI (A 9 i), σ, σ, ⟨?_, rfl⟩, ⟨?_, rfl⟩, h⟩
        · simp only [f_X8_street, a2.2.1, ps_wm _ (show A 0 2 < 2 ^ 30 by omega), if_pos hc', if_neg ps_10, ps_e8, if_pos hd, if_pos hin, nI_clamp (show i < 2 ^ 31 by omega), g2]
        · simp only [f_X9_street, if_pos q1, q2, ps_im _ (show A 0 2 < 2 ^ 30 by omega), if_pos hc', if_neg ps_10, h1l, ps_ilt 1 (by decide) hd, if_pos hin2, nI_clamp (show 52 + i < 2 ^ 31 by omega)]
          rw [show (lN 1 : Int64) = 1 from rfl] at *
          rw [e, if_pos hin2, nI_clamp (show 52 + i < 2 ^ 31 by omega)]
          rw [show 0 + 52 + i = 52 + i by omega] at k2
          rw [k2]
    · refine ⟨-1, σ, σ, ⟨?_, rfl⟩, ⟨?_, rfl⟩, h⟩
      · simp only [f_X8_street, a2.2.1, ps_wm _ (show A 0 2 < 2 ^ 30 by omega), if_pos hc', if_neg ps_10, ps_e8, if_neg hd, if_true]
      · simp only [f_X9_street, if_pos q1, q2, ps_im _ (show A 0 2 < 2 ^ 30 by omega), if_pos hc', if_neg ps_10, h1l, ps_ilf 1 (by decide) hd, if_true]
  · refine ⟨-1, σ, σ, ⟨?_, rfl⟩, ⟨?_, rfl⟩, h⟩
    · simp only [f_X8_street, a2.2.1, ps_wm _ (show A 0 2 < 2 ^ 30 by omega), if_neg hc, if_true]
    · simp only [f_X9_street, if_pos q1, q2, ps_im _ (show A 0 2 < 2 ^ 30 by omega), if_neg hc, if_true]
theorem ps_three {x : Int32} (h : 0 ≤ x.toInt ∧ x.toInt ≤ (2 : Nat)) : x = nI 0 ∨ x = nI 1 ∨ x = nI 2 := by
  obtain ⟨j, hj, rfl⟩ := ps_ofL h
  rcases (show j = 0 ∨ j = 1 ∨ j = 2 by omega) with rfl | rfl | rfl
  · exact Or.inl rfl
  · exact Or.inr (Or.inl rfl)
  · exact Or.inr (Or.inr rfl)
theorem ps_not2 {x : Int32} (h : ¬ (0 ≤ x.toInt ∧ x.toInt ≤ (2 : Nat))) : ¬ x = 0 ∧ ¬ x = 1 ∧ ¬ x = 2 := by
  refine ⟨fun e => h ?_, fun e => h ?_, fun e => h ?_⟩ <;> subst e <;> decide
theorem sm_reader : sim_reader ps_R := by
  intro σ h x1 x2
  have h' := h
  obtain ⟨⟨A, a1, a2, a3, a4, a5, a6, a7, a8⟩, -⟩ := h'
  have h4 := a1.2.1
  have h2l : (2 : Int64) = lN 2 := rfl
  by_cases hc : 0 ≤ x1.toInt ∧ x1.toInt < A 0 1
  · have hc' := hc
    obtain ⟨r, hr, rfl⟩ := ps_ofM hc
    obtain ⟨g1, g2, g3⟩ := a2.2.2.2.2.2.2.1 r hr
    obtain ⟨k1, k2, k3⟩ := a3.2.2.2.2.1 r hr
    by_cases hd : 0 ≤ x2.toInt ∧ x2.toInt ≤ (2 : Nat)
    · have hr9 : f_X9_isReader (nI r) σ = 1 := by rw [ps_isRd a1 a5, if_pos hc']
      have hi9 : f_X9_in x2.toInt64 0 2 = 1 := ps_ilt 2 (by decide) hd
      rcases ps_three hd with rfl | rfl | rfl
      · have e : ((28 : Int32) + ((4 : Int32) * nI 0)) + nI r = nI (28 + r) := nI_add 28 r
        refine ⟨nI (A 4 r), σ, σ, ⟨?_, rfl⟩, ⟨?_, rfl⟩, h⟩
        · simp only [f_X8_reader, ps_rdY a1 a2 hr, vz_b1, vz_mo]
          rw [if_pos (by decide), g1]
        · unfold f_X9_reader
          rw [hr9, if_neg ps_10, hi9, if_neg ps_10, e, if_pos ((ps_in (by omega)).mpr (by omega)), nI_clamp (by omega)]
          rw [show 0 + 28 + r = 28 + r by omega] at k1
          rw [k1]
      · have e : ((28 : Int32) + ((4 : Int32) * nI 1)) + nI r = nI (32 + r) := nI_add 32 r
        refine ⟨nI (A 5 r), σ, σ, ⟨?_, rfl⟩, ⟨?_, rfl⟩, h⟩
        · simp only [f_X8_reader, ps_rdY a1 a2 hr, vz_b1, vz_mo]
          rw [if_neg (by decide), if_pos (by decide), g2]
        · unfold f_X9_reader
          rw [hr9, if_neg ps_10, hi9, if_neg ps_10, e, if_pos ((ps_in (by omega)).mpr (by omega)), nI_clamp (by omega)]
          rw [show 0 + 32 + r = 32 + r by omega] at k2
          rw [k2]
      · have e : ((28 : Int32) + ((4 : Int32) * nI 2)) + nI r = nI (36 + r) := nI_add 36 r
        refine ⟨nI (A 6 r), σ, σ, ⟨?_, rfl⟩, ⟨?_, rfl⟩, h⟩
        · simp only [f_X8_reader, ps_rdY a1 a2 hr, vz_b1, vz_mo]
          rw [if_neg (by decide), if_neg (by decide), if_pos (by decide), g3]
        · unfold f_X9_reader
          rw [hr9, if_neg ps_10, hi9, if_neg ps_10, e, if_pos ((ps_in (by omega)).mpr (by omega)), nI_clamp (by omega)]
          rw [show 0 + 36 + r = 36 + r by omega] at k3
          rw [k3]
    · obtain ⟨n0, n1, n2⟩ := ps_not2 hd
      refine ⟨-1, σ, σ, ⟨?_, rfl⟩, ⟨?_, rfl⟩, h⟩
      · simp only [f_X8_reader, ps_rdY a1 a2 hr, vz_b1, vz_mo, if_neg n0, if_neg n1, if_neg n2]
      · simp only [f_X9_reader, ps_isRd a1 a5, if_pos hc', if_neg ps_10, h2l, ps_ilf 2 (by decide) hd, if_true]
  · refine ⟨-1, σ, σ, ⟨?_, rfl⟩, ⟨?_, rfl⟩, h⟩
    · simp only [f_X8_reader, ps_rdN a1 a2 hc, vz_b1, vz_mo]
    · simp only [f_X9_reader, ps_isRd a1 a5, if_neg hc, if_true]
theorem ps_town_up {A' : ps_T} {σ σ' : vz_I} {A : ps_T} (hA : ps_Ok A) (hok : ps_Ok A') (hc : ps_C A' σ' 21) (hm : ps_M A' (σ' 109) 0) (h0 : A' 0 0 = A 0 0) (h1 : A' 0 1 = A 0 1) (a4 : σ 108 1 = nI (A 0 0)) (a5 : σ 108 2 = nI (A 0 1)) (a6 : ps_seen A σ) (a7 : ps_img A σ 0) (a8 : ps_img A σ 1) (hf : ∀ b, (56 ≤ b ∧ b ≤ 61) ∨ (66 ≤ b ∧ b ≤ 99) ∨ b = 117 ∨ b = 119 → σ' b = σ b) (hg : ∀ b, 61 ≤ b → b ≤ 182 → σ' 109 b = σ 109 b) (h108 : ∀ j, j = 1 ∨ j = 2 ∨ j = 24 → σ' 108 j = σ 108 j) : ps_town σ' := by
  refine ⟨A', hok, hc, hm, by rw [h108 1 (by omega), h0]; exact a4, by rw [h108 2 (by omega), h1]; exact a5, ?_, ?_, ?_⟩
  · have q := ps_seen_fr a6 (σ' := σ') (fun b hb => hf b (by omega)) (h108 24 (by omega))
    unfold ps_seen at q ⊢
    rw [h1]
    exact q
  · have q := ps_img_fr (by omega) a7 (σ' := σ') (fun b hb => hf b (by omega)) hg
    unfold ps_img at q ⊢
    rw [h0, h1]
    exact q
  · have q := ps_img_fr (by omega) a8 (σ' := σ') (fun b hb => hf b (by omega)) hg
    unfold ps_img at q ⊢
    rw [h0, h1]
    exact q
theorem ps_Ok_man {A : ps_T} {m v s : Nat} (h : ps_Ok A) (hs : s < 2) (hv : v < 4 ∨ (s = 1 ∧ v < 10)) : ps_Ok (ps_set A (s + 1) m v) := by
  obtain ⟨o1, o2, o3, o4, o5, o6, o7, o8⟩ := h
  refine ⟨?_, ?_, ?_, ?_, ?_, fun m' hm' => ?_, fun r hr => ?_, fun i hi => ?_⟩
  · simp (disch := omega) only [ps_setN]; exact o1
  · simp (disch := omega) only [ps_setN]; exact o2
  · simp (disch := omega) only [ps_setN]; exact o3
  · simp (disch := omega) only [ps_setN]; exact o4
  · simp (disch := omega) only [ps_setN]; exact o5
  · simp (disch := omega) only [ps_setN] at hm'
    obtain ⟨g1, g2, g3, g4, g5⟩ := o6 m' hm'
    have e3 : ps_set A (s + 1) m v 3 m' = A 3 m' := ps_setN A v (by omega)
    refine ⟨?_, ?_, by rw [e3]; exact g3, by rw [e3]; exact g4, fun i hi => ?_⟩
    · by_cases e : 1 = s + 1 ∧ m' = m
      · simp only [ps_set, if_pos e]; omega
      · rw [ps_setN A v e]; exact g1
    · by_cases e : 2 = s + 1 ∧ m' = m
      · simp only [ps_set, if_pos e]; omega
      · rw [ps_setN A v e]; exact g2
    · rw [ps_setN A v (by omega)]; rw [e3] at hi; exact g5 i hi
  · simp (disch := omega) only [ps_setN] at hr ⊢; exact o7 r hr
  · simp (disch := omega) only [ps_setN] at hi ⊢; exact o8 i hi
theorem ps_puts1 {σ : vz_I} {k : Nat} {v : Int32} (hk : k < 305) : f_X9_puts 1 (nI k) v σ = some (σ 109 k, vz_up σ 109 k v) := by
  unfold f_X9_puts
  rw [if_neg ps_10, if_pos ((ps_in (by omega)).mpr hk), if_pos ((ps_in (by omega)).mpr hk), nI_clamp (by omega)]
theorem ps_puts0 {σ : vz_I} {k v : Int32} : f_X9_puts 0 k v σ = some (-1, σ) := by
  unfold f_X9_puts
  rw [if_pos rfl]
/-- a change of one number of a man: kind (s = 0), news (s = 1) -/
theorem ps_alt {σ : vz_I} {A : ps_T} {m v s : Nat} (a1 : ps_Ok A) (a2 : ps_C A σ 21) (a3 : ps_M A (σ 109) 0) (a4 : σ 108 1 = nI (A 0 0)) (a5 : σ 108 2 = nI (A 0 1)) (a6 : ps_seen A σ) (a7 : ps_img A σ 0) (a8 : ps_img A σ 1) (hm : m < A 0 0) (hs : s < 2) (hv : v < 4 ∨ (s = 1 ∧ v < 10)) : ps_town (vz_up (vz_up σ (26 + 2 * m) s (nI v)) 109 (4 * s + m) (nI v)) := by
  have h4 := a1.1
  have hC := ps_C_man (v := v) hm h4 hs a2
  have hM := ps_M_man (v := v) a1 hm hs a3
  have e1 : ∀ b, (21 ≤ b ∧ b ≤ 37) → (vz_up (vz_up σ (26 + 2 * m) s (nI v)) 109 (4 * s + m) (nI v)) b = (vz_up σ (21 + 5 + 2 * m) s (nI v)) b := fun b hb => by simp (disch := omega) only [vz_up_ne]
  refine ps_town_up a1 (ps_Ok_man a1 hs hv) (ps_C_fr (ps_Ok_man a1 hs hv) hC (fun b q1 q2 => e1 b (by omega))) ?_ (ps_setN A v (by omega)) (ps_setN A v (by omega)) a4 a5 a6 a7 a8 (fun b hb => by simp (disch := omega) only [vz_up_ne]) (fun b q1 q2 => ?_) (fun j hj => by simp (disch := omega) only [vz_up_ne])
  · rw [vz_up_self, vz_up_ne σ _ _ (by omega), show 4 * s + m = 0 + 4 * s + m by omega]
    exact hM
  · rw [ps_upN _ _ (by omega), vz_up_ne σ _ _ (by omega)]
theorem sm_alter : sim_alter ps_R := by
  intro σ h x1 x2 x3
  have h' := h
  obtain ⟨⟨A, a1, a2, a3, a4, a5, a6, a7, a8⟩, hP, hF, hS, hX⟩ := h'
  have h4 := a1.1
  by_cases hc : 0 ≤ x1.toInt ∧ x1.toInt < A 0 0
  · have hc' := hc
    obtain ⟨m, hm, rfl⟩ := ps_ofM hc
    obtain ⟨g1, g2, g3, g4⟩ := a2.2.2.2.2.2.1 m hm
    obtain ⟨k1, k2, k3, k4⟩ := a3.2.2.2.1 m hm
    have hmY := ps_isManY a1 a4 hm
    have key : ∀ s v : Nat, s < 2 → (v < 4 ∨ (s = 1 ∧ v < 10)) → ps_R (vz_up (vz_up σ (26 + 2 * m) s (nI v)) 109 (4 * s + m) (nI v)) := fun s v hs hv => by
      refine ⟨ps_alt a1 a2 a3 a4 a5 a6 a7 a8 hm hs hv, ?_, ?_, ?_, ?_⟩
      · exact ps_tape_fr hP (fun b hb => by simp (disch := omega) only [vz_up_ne]) (by simp (disch := omega) only [vz_up_ne])
      · exact ps_ft_fr hF (by simp (disch := omega) only [vz_up_ne]) (by simp (disch := omega) only [vz_up_ne]) (by simp (disch := omega) only [vz_up_ne]) (by simp (disch := omega) only [vz_up_ne])
      · exact ps_sheet_fr hS (fun b hb => by simp (disch := omega) only [vz_up_ne])
      · exact ps_fix_fr hX (fun b hb => by simp (disch := omega) only [vz_up_ne]) (by simp (disch := omega) only [vz_up_ne])
    by_cases hd : 0 ≤ x2.toInt ∧ x2.toInt ≤ (1 : Nat)
    · have hi9 : f_X9_in x2.toInt64 0 1 = 1 := ps_ilt 1 (by decide) hd
      rcases ps_two hd with rfl | rfl
      · by_cases he : 0 ≤ x3.toInt ∧ x3.toInt ≤ (3 : Nat)
        · have he' := he
          obtain ⟨v, hv, rfl⟩ := ps_ofL he
          have w8 : f_X8_isWithin (nI v) 0 3 = 1 := ps_w0t (n := 3) (by decide) he'
          have w9 : f_X9_in (nI v).toInt64 0 3 = 1 := ps_ilt 3 (by decide) he'
          have e : ((4 : Int32) * 0) + nI m = nI m := by show (0 : Int32) + nI m = nI m; rw [show (0 : Int32) = nI 0 from rfl, nI_add, Nat.zero_add]
          have e2 : (vz_up σ (26 + 2 * m) 0 (nI v)) 109 m = nI (A 1 m) := by rw [vz_up_ne σ _ _ (by omega)]; rw [show 0 + m = m by omega] at k1; exact k1
          refine ⟨nI (A 1 m), vz_up σ (26 + 2 * m) 0 (nI v), vz_up (vz_up σ (26 + 2 * m) 0 (nI v)) 109 m (nI v), ?_, ?_, ?_⟩
          · simp only [f_X8_alter, ps_manY a1 a2 hm, vz_b1, vz_mo, if_true, w8, if_neg ps_10]
            rw [show 21 + 5 + 2 * m = 26 + 2 * m by omega] at g1 ⊢
            rw [g1]
          · have hmY' : f_X9_isMan (nI m) (vz_up σ (26 + 2 * m) 0 (nI v)) = 1 := ps_isManY a1 (by rw [vz_up_ne σ _ _ (by omega)]; exact a4) hm
            unfold f_X9_alter
            rw [hmY', if_neg ps_10, hi9, if_neg ps_10, if_pos rfl, w9, if_neg ps_10, e, ps_puts1 (by omega), e2]
            rfl
          · have q := key 0 v (by omega) (by omega)
            rw [show 4 * 0 + m = m by omega] at q
            exact q
        · have w8 : f_X8_isWithin x3 0 3 = 0 := ps_w0f (n := 3) (by decide) he
          have w9 : f_X9_in x3.toInt64 0 3 = 0 := ps_ilf 3 (by decide) he
          refine ⟨-1, σ, σ, ?_, ?_, h⟩
          · simp only [f_X8_alter, ps_manY a1 a2 hm, vz_b1, vz_mo, if_true, w8, f_X8_alter_46]
            rfl
          · unfold f_X9_alter
            rw [hmY, if_neg ps_10, hi9, if_neg ps_10, if_pos rfl, w9, if_pos rfl, ps_puts0]
            rfl
      · by_cases he : 0 ≤ x3.toInt ∧ x3.toInt ≤ (9 : Nat)
        · have he' := he
          obtain ⟨v, hv, rfl⟩ := ps_ofL he
          have w8 : f_X8_isNews (nI v) = 1 := by rw [ps_n8, if_pos he']
          have w9 : f_X9_in (nI v).toInt64 0 9 = 1 := ps_ilt 9 (by decide) he'
          have e : ((4 : Int32) * 1) + nI m = nI (4 + m) := nI_add 4 m
          have e2 : (vz_up σ (26 + 2 * m) 1 (nI v)) 109 (4 + m) = nI (A 2 m) := by rw [vz_up_ne σ _ _ (by omega)]; rw [show 0 + 4 + m = 4 + m by omega] at k2; exact k2
          refine ⟨nI (A 2 m), vz_up σ (26 + 2 * m) 1 (nI v), vz_up (vz_up σ (26 + 2 * m) 1 (nI v)) 109 (4 + m) (nI v), ?_, ?_, ?_⟩
          · simp only [f_X8_alter, ps_manY a1 a2 hm, vz_b1, vz_mo, f_X8_alter_46, w8, if_neg ps_10, if_true]
            rw [show 21 + 5 + 2 * m = 26 + 2 * m by omega] at g2 ⊢
            rw [g2]
          · have hmY' : f_X9_isMan (nI m) (vz_up σ (26 + 2 * m) 1 (nI v)) = 1 := ps_isManY a1 (by rw [vz_up_ne σ _ _ (by omega)]; exact a4) hm
            unfold f_X9_alter
            rw [hmY', if_neg ps_10, hi9, if_neg ps_10, if_neg ps_10, w9, if_neg ps_10, e, ps_puts1 (by omega), e2]
            rfl
          · have q := key 1 v (by omega) (by omega)
            rw [show 4 * 1 + m = 4 + m by omega] at q
            exact q
        · have w8 : f_X8_isNews x3 = 0 := by rw [ps_n8, if_neg he]
          have w9 : f_X9_in x3.toInt64 0 9 = 0 := ps_ilf 9 (by decide) he
          refine ⟨-1, σ, σ, ?_, ?_, h⟩
          · simp only [f_X8_alter, ps_manY a1 a2 hm, vz_b1, vz_mo, f_X8_alter_46, w8, if_true, if_neg ps_10]
          · unfold f_X9_alter
            rw [hmY, if_neg ps_10, hi9, if_neg ps_10, if_neg ps_10, w9, if_pos rfl, ps_puts0]
            rfl
    · have n0 : ¬ x2 = 0 := fun e => hd (by subst e; decide)
      have n1 : ¬ x2 = 1 := fun e => hd (by subst e; decide)
      have hi9 : f_X9_in x2.toInt64 0 1 = 0 := ps_ilf 1 (by decide) hd
      refine ⟨-1, σ, σ, ?_, ?_, h⟩
      · simp only [f_X8_alter, ps_manY a1 a2 hm, vz_b1, vz_mo, if_neg n0, f_X8_alter_46, if_neg n1]
      · unfold f_X9_alter
        rw [hmY, if_neg ps_10, hi9, if_pos rfl, ps_puts0]
        rfl
  · refine ⟨-1, σ, σ, ?_, ?_, h⟩
    · simp only [f_X8_alter, ps_manN a1 a2 hc, vz_b1, vz_mo]
    · unfold f_X9_alter
      rw [ps_isMan a1 a4, if_neg hc, if_pos rfl, ps_puts0]
      rfl
