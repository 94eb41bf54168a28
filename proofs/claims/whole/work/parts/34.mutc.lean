/-! pure: back, sheet, lay -/
theorem sm_back : sim_back ps_R := by
  intro σ h x1
  have h' := h
  obtain ⟨⟨A, a1, a2, a3, a4, a5, a6, a7, a8⟩, hP, hF, hS, hX⟩ := h'
  by_cases hc : 0 ≤ x1.toInt ∧ x1.toInt ≤ (1 : Nat)
  · have hc' := hc
    have w8 : f_X8_isWithin x1 0 1 = 1 := ps_w0t (n := 1) (by decide) hc'
    have w9 : f_X9_in x1.toInt64 0 1 = 1 := ps_ilt 1 (by decide) hc'
    obtain ⟨k, hk, rfl⟩ := ps_ofL hc
    have hin : vz_in (nI k) 2 := (ps_in (by omega)).mpr (by omega)
    have hik : ps_img A σ k := by
      rcases (show k = 0 ∨ k = 1 by omega) with rfl | rfl
      · exact a7
      · exact a8
    rcases hik with ⟨q1, q2⟩ | ⟨q1, q2, B, b1, b2, b3, b4, b5⟩
    · refine ⟨-2, σ, σ, ?_, ?_, h⟩
      · unfold f_X8_back
        rw [w8, if_neg ps_10, if_pos hin, nI_clamp (by omega), q1, if_pos rfl]
      · unfold f_X9_back
        rw [w9, if_neg ps_10, if_pos hin, nI_clamp (by omega), q2, if_pos rfl]
    · obtain ⟨τ, c1, c2, c3⟩ := ps_copy (T := 21) b1 b4 (by omega)
      have t109 : τ 109 = σ 109 := c3 _ (by omega)
      obtain ⟨υ, d1, d2, d3, d4⟩ := ps_copies (σ := τ) (x := 61 * (k + 1)) (y := 0) (by omega) (by omega) (by omega)
      have hM : ps_M B (υ 109) 0 := ps_M_mv (f := τ 109) (x := 61 * (k + 1)) b1 (by rw [t109]; exact b5) d4
      have e108 : υ 108 = σ 108 := by rw [d2 108 (by omega), c3 108 (by omega)]
      obtain ⟨ω, p1, p2, p3⟩ := ps_po b1 (show ps_E B υ 0 0 from ⟨hM, by rw [e108, b2]; exact a4, by rw [e108, b3]; exact a5, by rw [e108]; exact hX.2.2⟩) (by omega) (by omega)
      have e61 : (61 : Int32) * (nI k + (1 : Int32)) = nI (61 * (k + 1)) := by rw [nI_1]; exact pk_mul 61 _
      have u1 : ∀ b, b ≠ 109 → b ≠ 114 → b ≠ 115 → (b < 21 ∨ 21 + 16 < b) → ω b = σ b := fun b r1 r2 r3 r4 => by rw [p3 b r2 r3, d2 b r1, c3 b r4]
      refine ⟨nI (ps_pairs B 0), τ, ω, ?_, ?_, ?_, ?_, ?_, ?_, ?_⟩
      · unfold f_X8_back
        rw [w8, if_neg ps_10, if_pos hin, nI_clamp (by omega), q1, if_neg ps_10, if_pos hin, c1, vz_b1, ps_pr0 b1 c2, vz_b1]
      · unfold f_X9_back
        rw [show nI 0 = (0 : Int32) from rfl] at d1 p1
        rw [w9, if_neg ps_10, if_pos hin, nI_clamp (by omega), show τ 119 = σ 119 from c3 _ (by omega), q2, if_neg ps_10, e61, d1, vz_b1, p1, vz_b2]
      · refine ps_town_up a1 b1 (ps_C_fr b1 c2 (fun b _ _ => by rw [p3 b (by omega) (by omega), d2 b (by omega)])) (by rw [p3 109 (by omega) (by omega)]; exact hM) b2 b3 a4 a5 a6 a7 a8 (fun b hb => u1 b (by omega) (by omega) (by omega) (by omega)) (fun b r1 r2 => by rw [p3 109 (by omega) (by omega), d3 b (by omega), t109]) (fun j hj => by rw [u1 108 (by omega) (by omega) (by omega) (by omega)])
      · exact ps_tape_fr hP (fun b hb => u1 b (by omega) (by omega) (by omega) (by omega)) (by rw [u1 108 (by omega) (by omega) (by omega) (by omega)])
      · exact ps_ft_fr hF (by rw [u1 1 (by omega) (by omega) (by omega) (by omega)]) (by rw [u1 0 (by omega) (by omega) (by omega) (by omega)]) (by rw [u1 108 (by omega) (by omega) (by omega) (by omega)]) (by rw [u1 108 (by omega) (by omega) (by omega) (by omega)])
      · exact ps_sheet_fr hS (fun b hb => u1 b (by omega) (by omega) (by omega) (by omega))
      · exact ps_fix_fr hX (fun b hb => u1 b (by omega) (by omega) (by omega) (by omega)) (by rw [u1 108 (by omega) (by omega) (by omega) (by omega)])
  · have w8 : f_X8_isWithin x1 0 1 = 0 := ps_w0f (n := 1) (by decide) hc
    have w9 : f_X9_in x1.toInt64 0 1 = 0 := ps_ilf 1 (by decide) hc
    refine ⟨-1, σ, σ, ?_, ?_, h⟩
    · simp only [f_X8_back, w8, if_true]
    · simp only [f_X9_back, w9, if_true]
theorem ps_renew_l {a : Nat} : ∀ (n i : Nat) (σ : vz_I), i ≤ 40 → 40 - i < n → ∃ σ', f_X4_renew_12 n a (nI i) σ = some σ' ∧ (∀ b, b ≠ a + 1 → σ' b = σ b) ∧ (∀ j, j < i → σ' (a + 1) j = σ (a + 1) j) ∧ (∀ j, i ≤ j → j < 40 → σ' (a + 1) j = 0) := by
  intro n
  induction n with
  | zero => intro i σ _ h; omega
  | succ n ih =>
    intro i σ hi hn
    rw [f_X4_renew_12_s]
    by_cases e : i = 40
    · subst e
      rw [if_pos (by decide)]
      exact ⟨σ, rfl, fun _ _ => rfl, fun _ _ => rfl, fun j _ _ => by omega⟩
    · rw [if_neg (show ¬ (40 : Int32) ≤ nI i from nI_ge (b := 40) (by omega) (by omega)), if_pos ((ps_in (by omega)).mpr (by omega)), nI_clamp (by omega), nI_1]
      obtain ⟨σ', e1, e2, e3, e4⟩ := ih (i + 1) (vz_up σ (a + 1) i 0) (by omega) (by omega)
      refine ⟨σ', e1, fun b hb => by rw [e2 b hb, vz_up_ne _ _ _ hb], fun j hj => by rw [e3 j (by omega), ps_upN _ _ (by omega)], fun j q1 q2 => ?_⟩
      by_cases q : j = i
      · subst q; rw [e3 j (by omega), ps_upS]
      · exact e4 j (by omega) q2
theorem ps_shz_l {k : Nat} (hk : k < 4) : ∀ (n i : Nat) (σ : vz_I), i ≤ 40 → 40 - i < n → ∃ σ', f_X9_sheet_56 n (nI k) (nI i) σ = some (1, σ') ∧ (∀ b, b ≠ 122 → σ' b = σ b) ∧ (∀ j, (j < 40 * k + i ∨ 40 * k + 40 ≤ j) → σ' 122 j = σ 122 j) ∧ (∀ j, i ≤ j → j < 40 → σ' 122 (40 * k + j) = 0) := by
  intro n
  induction n with
  | zero => intro i σ _ h; omega
  | succ n ih =>
    intro i σ hi hn
    rw [f_X9_sheet_56_s]
    by_cases e : i = 40
    · subst e
      rw [if_pos (by decide)]
      exact ⟨σ, rfl, fun _ _ => rfl, fun _ _ => rfl, fun j _ _ => by omega⟩
    · rw [if_neg (show ¬ (40 : Int32) ≤ nI i from nI_ge (b := 40) (by omega) (by omega)), show (40 : Int32) * nI k = nI (40 * k) from pk_mul 40 k, nI_add, if_pos ((ps_in (by omega)).mpr (by omega)), nI_clamp (by omega), vz_let, nI_1]
      obtain ⟨σ', e1, e2, e3, e4⟩ := ih (i + 1) (vz_up σ 122 (40 * k + i) 0) (by omega) (by omega)
      refine ⟨σ', e1, fun b hb => by rw [e2 b hb, vz_up_ne _ _ _ hb], fun j hj => by rw [e3 j (by omega), ps_upN _ _ (by omega)], fun j q1 q2 => ?_⟩
      by_cases q : j = i
      · subst q; rw [e3 _ (by omega), ps_upS]
      · exact e4 j (by omega) q2
theorem ps_R_sheet {σ σ' : vz_I} (h : ps_R σ) (hb : ∀ b, (b < 100 ∨ (108 ≤ b ∧ b ≤ 119)) → σ' b = σ b) (hS : ∀ k, k < 4 → ps_sheet σ' k) : ps_R σ' := by
  obtain ⟨hT, hP, hF, _, hX⟩ := h
  refine ⟨ps_town_fr hT (fun b q => hb b (by omega)) (fun j _ => by rw [hb 108 (by omega)]), ps_tape_fr hP (fun b q => hb b (by omega)) (by rw [hb 108 (by omega)]), ?_, hS, ps_fix_fr hX (fun b q => hb b (by omega)) (by rw [hb 108 (by omega)])⟩
  exact ps_ft_fr hF (by rw [hb 1 (by omega)]) (by rw [hb 0 (by omega)]) (by rw [hb 108 (by omega)]) (by rw [hb 108 (by omega)])
theorem ps_k8 (x : Int32) : f_X8_isSheet x = if 0 ≤ x.toInt ∧ x.toInt ≤ (3 : Nat) then 1 else 0 := ps_w0 x (n := 3) (by decide)
theorem ps_k9 (x : Int32) : f_X9_in x.toInt64 0 3 = if 0 ≤ x.toInt ∧ x.toInt ≤ (3 : Nat) then 1 else 0 := ps_il x (n := 3) (by decide)
theorem ps_l8 (x : Int32) : f_X8_isLane x = if 0 ≤ x.toInt ∧ x.toInt ≤ (2 : Nat) then 1 else 0 := ps_w0 x (n := 2) (by decide)
theorem ps_l9 (x : Int32) : f_X9_in x.toInt64 0 2 = if 0 ≤ x.toInt ∧ x.toInt ≤ (2 : Nat) then 1 else 0 := ps_il x (n := 2) (by decide)
theorem sm_sheet : sim_sheet ps_R := by
  intro σ h x1 x2 x3
  have hS := h.2.2.2.1
  by_cases hc : 0 ≤ x1.toInt ∧ x1.toInt ≤ (3 : Nat)
  · have hc' := hc
    obtain ⟨k, hk, rfl⟩ := ps_ofL hc
    have hin : vz_in (nI k) 4 := (ps_in (by omega)).mpr (by omega)
    by_cases hd : 0 ≤ x2.toInt ∧ x2.toInt ≤ (2 : Nat)
    · have hd' := hd
      obtain ⟨l, hl, rfl⟩ := ps_ofL hd
      by_cases h40 : x3 ≤ (40 : Int32)
      · by_cases h0 : 0 ≤ x3
        · obtain ⟨c, hc4, rfl⟩ : ∃ c, c ≤ 40 ∧ x3 = nI c := by
            rw [Int32.le_iff_toInt_le] at h40 h0
            exact ps_ofL ⟨h0, h40⟩
          obtain ⟨τ, e1, e2, e3, e4⟩ := ps_renew_l (a := 100 + 2 * k) vz_fu 0 (vz_up (vz_up σ (100 + 2 * k) 0 (nI l)) (100 + 2 * k) 1 (nI c)) (by omega) (by have : vz_fu = 1000000 := rfl; omega)
          obtain ⟨υ, f1, f2, f3, f4⟩ := ps_shz_l (k := k) (by omega) vz_fu 0 (vz_up (vz_up τ 120 k (nI l)) 121 k (nI c)) (by omega) (by have : vz_fu = 1000000 := rfl; omega)
          rw [show nI 0 = (0 : Int32) from rfl] at e1 f1
          refine ⟨1, τ, υ, ?_, ?_, ps_R_sheet h (fun b hb => ?_) (fun j hj => ?_)⟩
          · unfold f_X8_sheet f_X4_renew
            rw [ps_k8, if_pos hc', if_neg ps_10, ps_l8, if_pos hd', if_neg ps_10, if_pos h40, if_pos h0, if_pos hin, nI_clamp (by omega), e1, vz_b1]
          · unfold f_X9_sheet
            rw [ps_k9, if_pos hc', if_neg ps_10, ps_l9, if_pos hd', if_neg ps_10, if_pos h40, if_pos h0, if_pos hin, if_pos hin, nI_clamp (by omega), vz_let, f1]
          · rw [f2 b (by omega), vz_up_ne _ _ _ (by omega), vz_up_ne _ _ _ (by omega), e2 b (by omega), vz_up_ne _ _ _ (by omega), vz_up_ne _ _ _ (by omega)]
          · by_cases q : j = k
            · subst q
              refine ⟨Or.inr ⟨l, by omega, ?_, ?_⟩, ⟨c, hc4, ?_, ?_⟩, fun i hi => ?_⟩
              · rw [f2 _ (by omega), vz_up_ne _ _ _ (by omega), vz_up_ne _ _ _ (by omega), e2 _ (by omega), ps_upN _ _ (by omega), ps_upS]
              · rw [f2 _ (by omega), vz_up_ne _ _ _ (by omega), ps_upS]
              · rw [f2 _ (by omega), vz_up_ne _ _ _ (by omega), vz_up_ne _ _ _ (by omega), e2 _ (by omega), ps_upS]
              · rw [f2 _ (by omega), ps_upS]
              · rw [f4 i (by omega) hi, f2 _ (by omega), vz_up_ne _ _ _ (by omega), vz_up_ne _ _ _ (by omega), show 101 + 2 * j = 100 + 2 * j + 1 by omega, e4 i (by omega) hi]
            · obtain ⟨s1, s2, s3⟩ := hS j hj
              have r1 : υ (100 + 2 * j) = σ (100 + 2 * j) := by
                rw [f2 _ (by omega), vz_up_ne _ _ _ (by omega), vz_up_ne _ _ _ (by omega), e2 _ (by omega), vz_up_ne _ _ _ (by omega), vz_up_ne _ _ _ (by omega)]
              have r2 : υ (101 + 2 * j) = σ (101 + 2 * j) := by
                rw [f2 _ (by omega), vz_up_ne _ _ _ (by omega), vz_up_ne _ _ _ (by omega), e2 _ (by omega), vz_up_ne _ _ _ (by omega), vz_up_ne _ _ _ (by omega)]
              have r3 : υ 120 j = σ 120 j := by
                rw [f2 _ (by omega), vz_up_ne _ _ _ (by omega), ps_upN _ _ q, e2 _ (by omega), vz_up_ne _ _ _ (by omega), vz_up_ne _ _ _ (by omega)]
              have r4 : υ 121 j = σ 121 j := by
                rw [f2 _ (by omega), ps_upN _ _ q, vz_up_ne _ _ _ (by omega), e2 _ (by omega), vz_up_ne _ _ _ (by omega), vz_up_ne _ _ _ (by omega)]
              have r5 : ∀ i, i < 40 → υ 122 (40 * j + i) = σ 122 (40 * j + i) := fun i hi => by
                rw [f3 _ (by omega), vz_up_ne _ _ _ (by omega), vz_up_ne _ _ _ (by omega), e2 _ (by omega), vz_up_ne _ _ _ (by omega), vz_up_ne _ _ _ (by omega)]
              refine ⟨by rw [r1, r3]; exact s1, by rw [r1, r4]; exact s2, fun i hi => by rw [r2, r5 i hi]; exact s3 i hi⟩
        · refine ⟨-14, σ, σ, ?_, ?_, h⟩
          · simp only [f_X8_sheet, ps_k8, if_pos hc', if_neg ps_10, ps_l8, if_pos hd', if_pos h40, if_neg h0]
          · simp only [f_X9_sheet, ps_k9, if_pos hc', if_neg ps_10, ps_l9, if_pos hd', if_pos h40, if_neg h0]
      · refine ⟨-1, σ, σ, ?_, ?_, h⟩
        · simp only [f_X8_sheet, ps_k8, if_pos hc', if_neg ps_10, ps_l8, if_pos hd', if_neg h40]
        · simp only [f_X9_sheet, ps_k9, if_pos hc', if_neg ps_10, ps_l9, if_pos hd', if_neg h40]
    · refine ⟨-1, σ, σ, ?_, ?_, h⟩
      · simp only [f_X8_sheet, ps_k8, if_pos hc', if_neg ps_10, ps_l8, if_neg hd, if_true]
      · simp only [f_X9_sheet, ps_k9, if_pos hc', if_neg ps_10, ps_l9, if_neg hd, if_true]
  · refine ⟨-1, σ, σ, ?_, ?_, h⟩
    · simp only [f_X8_sheet, ps_k8, if_neg hc, if_true]
    · simp only [f_X9_sheet, ps_k9, if_neg hc, if_true]
theorem ps_sx8 (x : Int32) : (x <<< ((24 : Int32) &&& 31)) >>> ((24 : Int32) &&& 31) = x.toInt8.toInt32 := by
  have e : (((24 : Int32) &&& 31).toBitVec.smod 32).toNat = 24 := by decide
  apply Int32.toBitVec_inj.mp
  apply BitVec.eq_of_getLsbD_eq
  intro i hi
  simp only [Int32.toBitVec_shiftRight, Int32.toBitVec_shiftLeft, BitVec.sshiftRight_eq', BitVec.shiftLeft_eq', e, BitVec.getLsbD_sshiftRight, BitVec.getLsbD_shiftLeft, Int8.toBitVec_toInt32, Int32.toBitVec_toInt8, BitVec.getLsbD_signExtend, BitVec.getLsbD_setWidth, BitVec.msb_shiftLeft, BitVec.getMsbD, BitVec.msb_setWidth]
  by_cases q : i < 8
  · simp [q, show 24 + i < 32 by omega, hi, show ¬ 32 ≤ i by omega]
  · simp [q, show ¬ 24 + i < 32 by omega, hi, show ¬ 32 ≤ i by omega]
    rw [BitVec.msb_eq_getLsbD_last, BitVec.getLsbD_signExtend]
    simp [BitVec.getLsbD_eq_getElem]
theorem ps_sx16 (x : Int32) : (x <<< ((16 : Int32) &&& 31)) >>> ((16 : Int32) &&& 31) = x.toInt16.toInt32 := by
  have e : (((16 : Int32) &&& 31).toBitVec.smod 32).toNat = 16 := by decide
  apply Int32.toBitVec_inj.mp
  apply BitVec.eq_of_getLsbD_eq
  intro i hi
  simp only [Int32.toBitVec_shiftRight, Int32.toBitVec_shiftLeft, BitVec.sshiftRight_eq', BitVec.shiftLeft_eq', e, BitVec.getLsbD_sshiftRight, BitVec.getLsbD_shiftLeft, Int16.toBitVec_toInt32, Int32.toBitVec_toInt16, BitVec.getLsbD_signExtend, BitVec.getLsbD_setWidth, BitVec.msb_shiftLeft, BitVec.getMsbD, BitVec.msb_setWidth]
  by_cases q : i < 16
  · simp [q, show 16 + i < 32 by omega, hi, show ¬ 32 ≤ i by omega]
  · simp [q, show ¬ 16 + i < 32 by omega, hi, show ¬ 32 ≤ i by omega]
    rw [BitVec.msb_eq_getLsbD_last, BitVec.getLsbD_signExtend]
    simp [BitVec.getLsbD_eq_getElem]
theorem ps_hc {σ : vz_I} {a c : Nat} {x : Int32} (hn : c < 2 ^ 30) (h : σ a 1 = nI c) : f_X4_hasCell a x σ = if 0 ≤ x.toInt ∧ x.toInt < c then 1 else 0 := by
  unfold f_X4_hasCell
  rw [h]
  by_cases h0 : x < 0
  · rw [if_pos h0, if_neg]
    rw [Int32.lt_iff_toInt_lt] at h0
    simp at h0
    omega
  · rw [if_neg h0]
    rw [Int32.lt_iff_toInt_lt] at h0
    simp at h0
    by_cases h1 : nI c ≤ x
    · rw [if_pos h1, if_neg]
      rw [Int32.le_iff_toInt_le, nI_toInt (by omega)] at h1
      omega
    · rw [if_neg h1, if_pos]
      rw [Int32.le_iff_toInt_le, nI_toInt (by omega)] at h1
      omega
theorem ps_n4 {l : Nat} (h : l < 2 ^ 31) : ¬ nI l = (-4 : Int32) := fun q => by
  have z : (nI l).toInt = l := nI_toInt h
  rw [q] at z
  have : (-4 : Int32).toInt = -4 := by decide
  omega
theorem sm_lay : sim_lay ps_R := by
  intro σ h x1 x2 x3
  have hS := h.2.2.2.1
  by_cases hc : 0 ≤ x1.toInt ∧ x1.toInt ≤ (3 : Nat)
  · have hc' := hc
    obtain ⟨k, hk, rfl⟩ := ps_ofL hc
    have hin : vz_in (nI k) 4 := (ps_in (by omega)).mpr (by omega)
    obtain ⟨s1, ⟨c, c1, c2, c3⟩, s3⟩ := hS k (by omega)
    rcases s1 with ⟨l1, l2⟩ | ⟨l, hl, l1, l2⟩
    · refine ⟨-11, σ, σ, ?_, ?_, h⟩
      · unfold f_X8_lay f_X4_faultAt
        rw [ps_k8, if_pos hc', if_neg ps_10, if_pos hin, nI_clamp (by omega), l1, if_pos rfl, if_neg ps_10]
        rfl
      · unfold f_X9_lay
        rw [ps_k9, if_pos hc', if_neg ps_10, if_pos hin, nI_clamp (by omega), l2, if_pos rfl]
    · have hl4 : ¬ nI l = (-4 : Int32) := ps_n4 (by omega)
      by_cases hd : 0 ≤ x2.toInt ∧ x2.toInt < c
      · have hd' := hd
        obtain ⟨i, hi, rfl⟩ := ps_ofM hd
        have hin2 : vz_in (nI i) 40 := (ps_in (by omega)).mpr (by omega)
        have hin3 : vz_in (nI (40 * k + i)) 160 := (ps_in (by omega)).mpr (by omega)
        have e40 : (40 : Int32) * nI k + nI i = nI (40 * k + i) := by rw [show (40 : Int32) * nI k = nI (40 * k) from pk_mul 40 k, nI_add]
        have key : ∀ v : Int32, ps_R (vz_up (vz_up σ (100 + 2 * k + 1) i v) 122 (40 * k + i) v) := by
          intro v
          refine ps_R_sheet h (fun b hb => by rw [vz_up_ne _ _ _ (by omega), vz_up_ne _ _ _ (by omega)]) (fun j hj => ?_)
          obtain ⟨r1, r2, r3⟩ := hS j hj
          refine ⟨?_, ?_, fun i' hi' => ?_⟩
          · simp (disch := omega) only [vz_up_ne]
            exact r1
          · simp (disch := omega) only [vz_up_ne]
            exact r2
          · by_cases q : j = k ∧ i' = i
            · obtain ⟨rfl, rfl⟩ := q
              rw [ps_upS, vz_up_ne _ _ _ (by omega), show 101 + 2 * j = 100 + 2 * j + 1 by omega, ps_upS]
            · rw [ps_upN _ _ (show 40 * j + i' ≠ 40 * k + i by omega), vz_up_ne _ _ _ (show 101 + 2 * j ≠ 122 by omega), vz_up_ne _ _ _ (show 122 ≠ 100 + 2 * k + 1 by omega)]
              by_cases q2 : j = k
              · subst q2
                rw [show 101 + 2 * j = 100 + 2 * j + 1 by omega, ps_upN _ _ (by omega), show 100 + 2 * j + 1 = 101 + 2 * j by omega]
                exact r3 i' hi'
              · rw [vz_up_ne _ _ _ (by omega)]
                exact r3 i' hi'
        have fa : f_X4_faultAt (100 + 2 * k) (nI l) (nI i) σ = 0 := by
          unfold f_X4_faultAt
          rw [l1, if_neg hl4, if_pos rfl, ps_hc (by omega) c2, if_pos hd', if_neg ps_10]
        have pt : f_X4_put (100 + 2 * k) (nI i) x3 σ = some (vz_up σ (100 + 2 * k + 1) i (if l = 0 then x3.toInt8.toInt32 else if l = 1 then x3.toInt16.toInt32 else x3)) := by
          unfold f_X4_put
          rw [ps_hc (by omega) c2, if_pos hd', if_neg ps_10, l1, if_pos hin2, if_pos hin2, if_pos hin2, nI_clamp (by omega)]
          rcases (show l = 0 ∨ l = 1 ∨ l = 2 by omega) with rfl | rfl | rfl
          · rw [if_pos (by decide)]; rfl
          · rw [if_neg (by decide), if_pos (by decide)]; rfl
          · rw [if_neg (by decide), if_neg (by decide)]; rfl
        refine ⟨1, vz_up σ (100 + 2 * k + 1) i (if l = 0 then x3.toInt8.toInt32 else if l = 1 then x3.toInt16.toInt32 else x3), vz_up (vz_up σ (100 + 2 * k + 1) i (if l = 0 then x3.toInt8.toInt32 else if l = 1 then x3.toInt16.toInt32 else x3)) 122 (40 * k + i) (if l = 0 then x3.toInt8.toInt32 else if l = 1 then x3.toInt16.toInt32 else x3), ?_, ?_, key _⟩
        · unfold f_X8_lay
          rw [ps_k8, if_pos hc', if_neg ps_10, if_pos hin, nI_clamp (by omega), l1, fa, if_pos rfl, pt, vz_b1]
        · generalize hs : vz_up σ (100 + 2 * k + 1) i (if l = 0 then x3.toInt8.toInt32 else if l = 1 then x3.toInt16.toInt32 else x3) = τ
          have t120 : τ 120 = σ 120 := by rw [← hs, vz_up_ne _ _ _ (by omega)]
          have t121 : τ 121 = σ 121 := by rw [← hs, vz_up_ne _ _ _ (by omega)]
          unfold f_X9_lay
          rw [ps_k9, if_pos hc', if_neg ps_10, if_pos hin, nI_clamp (show k < 2 ^ 31 by omega), t120, t121, l2, c3, if_neg hl4, if_pos hin, ps_im _ (by omega), if_pos hd', if_neg ps_10, if_pos hin, if_pos hin, e40, if_pos hin3, nI_clamp (show 40 * k + i < 2 ^ 31 by omega), ps_sx8, ps_sx16]
          rcases (show l = 0 ∨ l = 1 ∨ l = 2 by omega) with rfl | rfl | rfl
          · rw [if_pos (show nI 0 = (0 : Int32) by decide)]; rfl
          · rw [if_neg (show ¬ nI 1 = (0 : Int32) by decide), if_pos (show nI 1 = (1 : Int32) by decide), if_pos hin3]; rfl
          · rw [if_neg (show ¬ nI 2 = (0 : Int32) by decide), if_neg (show ¬ nI 2 = (1 : Int32) by decide), if_pos hin3]; rfl
      · refine ⟨-12, σ, σ, ?_, ?_, h⟩
        · unfold f_X8_lay f_X4_faultAt
          rw [ps_k8, if_pos hc', if_neg ps_10, if_pos hin, nI_clamp (by omega), l1, if_neg hl4, if_pos rfl, ps_hc (by omega) c2, if_neg hd, if_pos rfl, if_neg (by decide)]
          rfl
        · unfold f_X9_lay
          rw [ps_k9, if_pos hc', if_neg ps_10, if_pos hin, nI_clamp (by omega), l2, if_neg hl4, if_pos hin, c3, ps_im _ (by omega), if_neg hd, if_pos rfl]
  · refine ⟨-1, σ, σ, ?_, ?_, h⟩
    · simp only [f_X8_lay, ps_k8, if_neg hc, if_true]
    · simp only [f_X9_lay, ps_k9, if_neg hc, if_true]
