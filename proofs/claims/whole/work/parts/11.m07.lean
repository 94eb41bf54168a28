-- X9_back: depth 5, effects S=True W=True P=True
def f_X9_back (x1 : Int32) (σ : vz_I) : Option (Int32 × vz_I) := if (f_X9_in x1.toInt64 (0 : Int64) (1 : Int64)) = 0 then some ((-1 : Int32), σ) else if vz_in x1 2 then if (σ 119 x1.toNatClampNeg) = 0 then some ((-2 : Int32), σ) else vz_b1 (f_X9_copies ((61 : Int32) * (x1 + (1 : Int32))) (0 : Int32) σ) (fun σ6 => vz_b2 (f_X9_pairsOn (0 : Int32) σ6) (fun v8 σ9 => some (v8, σ9))) else none
set_option maxRecDepth 20000 in
set_option maxHeartbeats 1000000 in
theorem w_X9_back (z : vz_Z) (l : Launch) (x1 : Int32) (σ : vz_I)  {r : Int32} {σ' : vz_I} (h : f_X9_back x1 σ = some (r, σ')) : vz_Con z l 5 yX9_back cX9_back 2 (some .int) [.ref 108, .int x1] vz_G0 σ vz_N0 (some (.int r)) vz_G0 σ' vz_N0 0 0 := by
  refine vz_con (by decide) (Nat.le_of_ble_eq_true rfl) (fun μ hc hl hcap hret => ?_)
  subst hl
  unfold f_X9_back at h
  refine vr_iload_n (pc := 0) hc dX9_back_0 rfl ?_
  refine vr_i2l (pc := 1) hc dX9_back_1 ?_
  refine vr_lconst (pc := 2) hc dX9_back_2 (0 : Int64) (by decide) ?_
  refine vr_lconst (pc := 3) hc dX9_back_3 (1 : Int64) (by decide) ?_
  refine vr_cSi (pc := 4) hc dX9_back_4 mt_X9_in sx_X9_in ml_X9_55  (w_X9_in z μ.2.1 x1.toInt64 (0 : Int64) (1 : Int64) σ rfl) rfl (by decide) rfl (Nat.le_of_ble_eq_true rfl) ?_
  refine vr_if_ne (pc := 7) hc 12 dX9_back_7 (by decide) (fun hb1 => ?_) (fun hb1 => ?_)
  · rw [if_neg hb1] at h
    refine vr_aload_n (pc := 12) hc dX9_back_12 rfl ?_
    refine vr_getR (pc := 13) hc dX9_back_13 fl_X9_40 gc_108 (gr_9_26 gc_108).1 ?_
    refine vr_iload_n (pc := 16) hc dX9_back_16 rfl ?_
    have hb2 := vz_ifp h
    rw [if_pos hb2] at h
    refine vr_zald (pc := 17) hc 2 dX9_back_17 ((gr_9_26 gc_108).2.1) ((gr_9_26 gc_108).2.2) (vz_in_vp hb2) ?_
    refine vr_if_ne (pc := 18) hc 24 dX9_back_18 (by decide) (fun hb3 => ?_) (fun hb3 => ?_)
    · rw [if_neg hb3] at h
      refine vr_aload_n (pc := 24) hc dX9_back_24 rfl ?_
      refine vr_bipush (pc := 25) hc dX9_back_25 (61 : Int32) (by decide) ?_
      refine vr_iload_n (pc := 27) hc dX9_back_27 rfl ?_
      refine vr_iconst (pc := 28) hc dX9_back_28 (1 : Int32) (by decide) ?_
      refine vr_iadd (pc := 29) hc dX9_back_29 ?_
      refine vr_imul (pc := 30) hc dX9_back_30 ?_
      refine vr_iconst (pc := 31) hc dX9_back_31 (0 : Int32) (by decide) ?_
      obtain ⟨σ6, he4, h⟩ := vz_b1e h
      refine vr_cVv (pc := 32) hc dX9_back_32 mt_X9_copies ml_X9_235 gc_108 (w_X9_copies z μ.2.1 ((61 : Int32) * (x1 + (1 : Int32))) (0 : Int32) σ he4) rfl (by decide) rfl (Nat.le_of_ble_eq_true rfl) ?_
      refine vr_aload_n (pc := 35) hc dX9_back_35 rfl ?_
      refine vr_iconst (pc := 36) hc dX9_back_36 (0 : Int32) (by decide) ?_
      obtain ⟨v8, σ9, he7, h⟩ := vz_b2e h
      refine vr_cVi (pc := 37) hc dX9_back_37 mt_X9_pairsOn ml_X9_195 gc_108 (w_X9_pairsOn z μ.2.1 (0 : Int32) σ6 he7) rfl (by decide) rfl (Nat.le_of_ble_eq_true rfl) ?_
      obtain ⟨rfl, rfl⟩ := vz_in2 h
      exact hret _ _ (vz_ret_i dX9_back_40 rfl)
    · rw [if_pos hb3] at h
      refine vr_bipush (pc := 21) hc dX9_back_21 (-2 : Int32) (by decide) ?_
      obtain ⟨rfl, rfl⟩ := vz_in2 h
      exact hret _ _ (vz_ret_i dX9_back_23 rfl)
  · rw [if_pos hb1] at h
    refine vr_iconst (pc := 10) hc dX9_back_10 (-1 : Int32) (by decide) ?_
    obtain ⟨rfl, rfl⟩ := vz_in2 h
    exact hret _ _ (vz_ret_i dX9_back_11 rfl)
-- X6_readLine: depth 6, effects S=True W=True P=True
def f_X6_readLine  (σ : vz_I) : Option (Int32 × vz_I) := if (σ 1 3) = (1 : Int32) then vz_b1 (f_X6_lineNamed  σ) (fun v3 => if v3 = 0 then vz_b2 (f_X6_readMan v3 σ) (fun v7 σ8 => if v7 = 0 ∨ v7 = 1 then some (v7, σ8) else none) else if v3 = 1 then vz_b2 (f_X6_readMan v3 σ) (fun v12 σ13 => if v12 = 0 ∨ v12 = 1 then some (v12, σ13) else none) else if v3 = 2 then vz_b2 (f_X6_readMan v3 σ) (fun v17 σ18 => if v17 = 0 ∨ v17 = 1 then some (v17, σ18) else none) else if v3 = 3 then vz_b2 (f_X6_readMan v3 σ) (fun v22 σ23 => if v22 = 0 ∨ v22 = 1 then some (v22, σ23) else none) else if v3 = 4 then vz_b2 (f_X6_readStreet  σ) (fun v27 σ28 => if v27 = 0 ∨ v27 = 1 then some (v27, σ28) else none) else if v3 = 5 then vz_b2 (f_X6_readReader  σ) (fun v32 σ33 => if v32 = 0 ∨ v32 = 1 then some (v32, σ33) else none) else if v3 = 6 then vz_b2 (f_X6_readRain  σ) (fun v37 σ38 => if v37 = 0 ∨ v37 = 1 then some (v37, σ38) else none) else vz_c2 (f_X6_refuse (2 : Int32) (σ 1 4) σ) (fun v41 σ42 => if v41 = 0 ∨ v41 = 1 then some (v41, σ42) else none)) else vz_c2 (f_X6_refuse (2 : Int32) (σ 1 4) σ) (fun v45 σ46 => if v45 = 0 ∨ v45 = 1 then some (v45, σ46) else none)
set_option maxRecDepth 20000 in
set_option maxHeartbeats 1000000 in
theorem w_X6_readLine (z : vz_Z) (l : Launch)  (σ : vz_I)  {r : Int32} {σ' : vz_I} (h : f_X6_readLine  σ = some (r, σ')) : vz_Con z l 6 yX6_readLine cX6_readLine 2 (some .boolean) [.ref 1] vz_G0 σ vz_N0 (some (.int r)) vz_G0 σ' vz_N0 0 0 := by
  refine vz_con (by decide) (Nat.le_of_ble_eq_true rfl) (fun μ hc hl hcap hret => ?_)
  subst hl
  unfold f_X6_readLine at h
  refine vr_aload_n (pc := 0) hc dX6_readLine_0 rfl ?_
  refine vr_getI (pc := 1) hc dX6_readLine_1 fl_X6_43 gc_1 (gi_6_3 gc_1) ?_
  refine vr_iconst (pc := 4) hc dX6_readLine_4 (1 : Int32) (by decide) ?_
  refine vr_icmp_eq (pc := 5) hc 18 dX6_readLine_5 (by decide) (fun hb1 => ?_) (fun hb1 => ?_)
  · rw [if_pos hb1] at h
    refine vr_aload_n (pc := 18) hc dX6_readLine_18 rfl ?_
    obtain ⟨v3, he2, h⟩ := vz_b1e h
    refine vr_cVi (pc := 19) hc dX6_readLine_19 mt_X6_lineNamed ml_X6_65 gc_1 (w_X6_lineNamed z μ.2.1  σ he2) rfl (by decide) rfl (Nat.le_of_ble_eq_true rfl) ?_
    refine vr_istore_n (pc := 22) hc dX6_readLine_22 (by decide) rfl ?_
    refine vr_iload_n (pc := 23) hc dX6_readLine_23 rfl ?_
    by_cases hb5 : v3 = 0
    · rw [if_pos hb5] at h
      refine vr_tableIn (pc := 24) hc _ 68 dX6_readLine_24 (by rw [hb5]; decide) (by rw [hb5]; decide) (off := 44) (by rw [hb5]; decide) (by decide) ?_
      refine vr_aload_n (pc := 68) hc dX6_readLine_68 rfl ?_
      refine vr_iload_n (pc := 69) hc dX6_readLine_69 rfl ?_
      obtain ⟨v7, σ8, he6, h⟩ := vz_b2e h
      refine vr_cVi (pc := 70) hc dX6_readLine_70 mt_X6_readMan ml_X6_69 gc_1 (w_X6_readMan z μ.2.1 v3 σ he6) rfl (by decide) rfl (Nat.le_of_ble_eq_true rfl) ?_
      have hb9 := vz_ifp h
      rw [if_pos hb9] at h
      obtain ⟨rfl, rfl⟩ := vz_in2 h
      exact hret _ _ (vz_ret_i dX6_readLine_73 (vz_bn hb9))
    rw [if_neg hb5] at h
    by_cases hb10 : v3 = 1
    · rw [if_pos hb10] at h
      refine vr_tableIn (pc := 24) hc _ 68 dX6_readLine_24 (by rw [hb10]; decide) (by rw [hb10]; decide) (off := 44) (by rw [hb10]; decide) (by decide) ?_
      refine vr_aload_n (pc := 68) hc dX6_readLine_68 rfl ?_
      refine vr_iload_n (pc := 69) hc dX6_readLine_69 rfl ?_
      obtain ⟨v12, σ13, he11, h⟩ := vz_b2e h
      refine vr_cVi (pc := 70) hc dX6_readLine_70 mt_X6_readMan ml_X6_69 gc_1 (w_X6_readMan z μ.2.1 v3 σ he11) rfl (by decide) rfl (Nat.le_of_ble_eq_true rfl) ?_
      have hb14 := vz_ifp h
      rw [if_pos hb14] at h
      obtain ⟨rfl, rfl⟩ := vz_in2 h
      exact hret _ _ (vz_ret_i dX6_readLine_73 (vz_bn hb14))
    rw [if_neg hb10] at h
    by_cases hb15 : v3 = 2
    · rw [if_pos hb15] at h
      refine vr_tableIn (pc := 24) hc _ 68 dX6_readLine_24 (by rw [hb15]; decide) (by rw [hb15]; decide) (off := 44) (by rw [hb15]; decide) (by decide) ?_
      refine vr_aload_n (pc := 68) hc dX6_readLine_68 rfl ?_
      refine vr_iload_n (pc := 69) hc dX6_readLine_69 rfl ?_
      obtain ⟨v17, σ18, he16, h⟩ := vz_b2e h
      refine vr_cVi (pc := 70) hc dX6_readLine_70 mt_X6_readMan ml_X6_69 gc_1 (w_X6_readMan z μ.2.1 v3 σ he16) rfl (by decide) rfl (Nat.le_of_ble_eq_true rfl) ?_
      have hb19 := vz_ifp h
      rw [if_pos hb19] at h
      obtain ⟨rfl, rfl⟩ := vz_in2 h
      exact hret _ _ (vz_ret_i dX6_readLine_73 (vz_bn hb19))
    rw [if_neg hb15] at h
    by_cases hb20 : v3 = 3
    · rw [if_pos hb20] at h
      refine vr_tableIn (pc := 24) hc _ 68 dX6_readLine_24 (by rw [hb20]; decide) (by rw [hb20]; decide) (off := 44) (by rw [hb20]; decide) (by decide) ?_
      refine vr_aload_n (pc := 68) hc dX6_readLine_68 rfl ?_
      refine vr_iload_n (pc := 69) hc dX6_readLine_69 rfl ?_
      obtain ⟨v22, σ23, he21, h⟩ := vz_b2e h
      refine vr_cVi (pc := 70) hc dX6_readLine_70 mt_X6_readMan ml_X6_69 gc_1 (w_X6_readMan z μ.2.1 v3 σ he21) rfl (by decide) rfl (Nat.le_of_ble_eq_true rfl) ?_
      have hb24 := vz_ifp h
      rw [if_pos hb24] at h
      obtain ⟨rfl, rfl⟩ := vz_in2 h
      exact hret _ _ (vz_ret_i dX6_readLine_73 (vz_bn hb24))
    rw [if_neg hb20] at h
    by_cases hb25 : v3 = 4
    · rw [if_pos hb25] at h
      refine vr_tableIn (pc := 24) hc _ 74 dX6_readLine_24 (by rw [hb25]; decide) (by rw [hb25]; decide) (off := 50) (by rw [hb25]; decide) (by decide) ?_
      refine vr_aload_n (pc := 74) hc dX6_readLine_74 rfl ?_
      obtain ⟨v27, σ28, he26, h⟩ := vz_b2e h
      refine vr_cVi (pc := 75) hc dX6_readLine_75 mt_X6_readStreet ml_X6_73 gc_1 (w_X6_readStreet z μ.2.1  σ he26) rfl (by decide) rfl (Nat.le_of_ble_eq_true rfl) ?_
      have hb29 := vz_ifp h
      rw [if_pos hb29] at h
      obtain ⟨rfl, rfl⟩ := vz_in2 h
      exact hret _ _ (vz_ret_i dX6_readLine_78 (vz_bn hb29))
    rw [if_neg hb25] at h
    by_cases hb30 : v3 = 5
    · rw [if_pos hb30] at h
      refine vr_tableIn (pc := 24) hc _ 79 dX6_readLine_24 (by rw [hb30]; decide) (by rw [hb30]; decide) (off := 55) (by rw [hb30]; decide) (by decide) ?_
      refine vr_aload_n (pc := 79) hc dX6_readLine_79 rfl ?_
      obtain ⟨v32, σ33, he31, h⟩ := vz_b2e h
      refine vr_cVi (pc := 80) hc dX6_readLine_80 mt_X6_readReader ml_X6_76 gc_1 (w_X6_readReader z μ.2.1  σ he31) rfl (by decide) rfl (Nat.le_of_ble_eq_true rfl) ?_
      have hb34 := vz_ifp h
      rw [if_pos hb34] at h
      obtain ⟨rfl, rfl⟩ := vz_in2 h
      exact hret _ _ (vz_ret_i dX6_readLine_83 (vz_bn hb34))
    rw [if_neg hb30] at h
    by_cases hb35 : v3 = 6
    · rw [if_pos hb35] at h
      refine vr_tableIn (pc := 24) hc _ 84 dX6_readLine_24 (by rw [hb35]; decide) (by rw [hb35]; decide) (off := 60) (by rw [hb35]; decide) (by decide) ?_
      refine vr_aload_n (pc := 84) hc dX6_readLine_84 rfl ?_
      obtain ⟨v37, σ38, he36, h⟩ := vz_b2e h
      refine vr_cVi (pc := 85) hc dX6_readLine_85 mt_X6_readRain ml_X6_79 gc_1 (w_X6_readRain z μ.2.1  σ he36) rfl (by decide) rfl (Nat.le_of_ble_eq_true rfl) ?_
      have hb39 := vz_ifp h
      rw [if_pos hb39] at h
      obtain ⟨rfl, rfl⟩ := vz_in2 h
      exact hret _ _ (vz_ret_i dX6_readLine_88 (vz_bn hb39))
    rw [if_neg hb35] at h
    refine vr_tableOut (pc := 24) hc 89 dX6_readLine_24 (by have e0 := lv_neT hb5 (show (0 : Int32).toInt = 0 by decide); have e1 := lv_neT hb10 (show (1 : Int32).toInt = 1 by decide); have e2 := lv_neT hb15 (show (2 : Int32).toInt = 2 by decide); have e3 := lv_neT hb20 (show (3 : Int32).toInt = 3 by decide); have e4 := lv_neT hb25 (show (4 : Int32).toInt = 4 by decide); have e5 := lv_neT hb30 (show (5 : Int32).toInt = 5 by decide); have e6 := lv_neT hb35 (show (6 : Int32).toInt = 6 by decide); omega) (by decide) ?_
    refine vr_aload_n (pc := 89) hc dX6_readLine_89 rfl ?_
    refine vr_iconst (pc := 90) hc dX6_readLine_90 (2 : Int32) (by decide) ?_
    refine vr_aload_n (pc := 91) hc dX6_readLine_91 rfl ?_
    refine vr_getI (pc := 92) hc dX6_readLine_92 fl_X6_62 gc_1 (gi_6_4 gc_1) ?_
    obtain ⟨v41, σ42, he40⟩ : ∃ x s, f_X6_refuse (2 : Int32) (σ 1 4) σ = (x, s) := ⟨_, _, rfl⟩
    rw [he40] at h
    rw [vz_c2_e] at h
    refine vr_cVi (pc := 95) hc dX6_readLine_95 mt_X6_refuse ml_X6_55 gc_1 (w_X6_refuse z μ.2.1 (2 : Int32) (σ 1 4) σ he40) rfl (by decide) rfl (Nat.le_of_ble_eq_true rfl) ?_
    have hb43 := vz_ifp h
    rw [if_pos hb43] at h
    obtain ⟨rfl, rfl⟩ := vz_in2 h
    exact hret _ _ (vz_ret_i dX6_readLine_98 (vz_bn hb43))
  · rw [if_neg hb1] at h
    refine vr_aload_n (pc := 8) hc dX6_readLine_8 rfl ?_
    refine vr_iconst (pc := 9) hc dX6_readLine_9 (2 : Int32) (by decide) ?_
    refine vr_aload_n (pc := 10) hc dX6_readLine_10 rfl ?_
    refine vr_getI (pc := 11) hc dX6_readLine_11 fl_X6_62 gc_1 (gi_6_4 gc_1) ?_
    obtain ⟨v45, σ46, he44⟩ : ∃ x s, f_X6_refuse (2 : Int32) (σ 1 4) σ = (x, s) := ⟨_, _, rfl⟩
    rw [he44] at h
    rw [vz_c2_e] at h
    refine vr_cVi (pc := 14) hc dX6_readLine_14 mt_X6_refuse ml_X6_55 gc_1 (w_X6_refuse z μ.2.1 (2 : Int32) (σ 1 4) σ he44) rfl (by decide) rfl (Nat.le_of_ble_eq_true rfl) ?_
    have hb47 := vz_ifp h
    rw [if_pos hb47] at h
    obtain ⟨rfl, rfl⟩ := vz_in2 h
    exact hret _ _ (vz_ret_i dX6_readLine_17 (vz_bn hb47))
-- X8_kinds: depth 6, effects S=True W=True P=True
def f_X8_kinds (x1 : Int32) (σ : vz_I) : Option (Int32 × vz_I) := vz_b1 (f_X7_manAt 21 x1 σ) (fun v2 => vz_mo v2 (some ((-1 : Int32), σ)) (fun a4 => vz_b2 (f_X8_possibleKinds x1 σ) (fun v6 σ7 => some (v6, σ7))))
set_option maxRecDepth 20000 in
set_option maxHeartbeats 1000000 in
theorem w_X8_kinds (z : vz_Z) (l : Launch) (x1 : Int32) (σ : vz_I)  {r : Int32} {σ' : vz_I} (h : f_X8_kinds x1 σ = some (r, σ')) : vz_Con z l 6 yX8_kinds cX8_kinds 2 (some .int) [.ref 0, .int x1] vz_G0 σ vz_N0 (some (.int r)) vz_G0 σ' vz_N0 0 0 := by
  refine vz_con (by decide) (Nat.le_of_ble_eq_true rfl) (fun μ hc hl hcap hret => ?_)
  subst hl
  unfold f_X8_kinds at h
  refine vr_aload_n (pc := 0) hc dX8_kinds_0 rfl ?_
  refine vr_getR (pc := 1) hc dX8_kinds_1 fl_X8_19 gc_0 (gr_8_1 gc_0).1 ?_
  refine vr_iload_n (pc := 4) hc dX8_kinds_4 rfl ?_
  obtain ⟨v2, he1, h⟩ := vz_b1e h
  cases v2 with
  | none =>
    rw [vz_mo_n] at h
    refine vr_cVn (pc := 5) hc dX8_kinds_5 mt_X7_manAt ml_X8_126 ((gr_8_1 gc_0).2.1) (w_X7_manAt z μ.2.1 21 x1 σ ((gr_8_1 gc_0).2.1) he1) rfl (by decide) rfl (Nat.le_of_ble_eq_true rfl) ?_
    refine vr_ifnonnullN (pc := 8) hc dX8_kinds_8 ?_
    refine vr_iconst (pc := 11) hc dX8_kinds_11 (-1 : Int32) (by decide) ?_
    refine vr_goto (pc := 12) hc 20 dX8_kinds_12 (by decide) ?_
    obtain ⟨rfl, rfl⟩ := vz_in2 h
    exact hret _ _ (vz_ret_i dX8_kinds_20 rfl)
  | some a4 =>
    rw [vz_mo_s] at h
    refine vr_cVa (pc := 5) hc dX8_kinds_5 mt_X7_manAt ml_X8_126 ((gr_8_1 gc_0).2.1) (w_X7_manAt z μ.2.1 21 x1 σ ((gr_8_1 gc_0).2.1) he1) rfl (by decide) rfl (Nat.le_of_ble_eq_true rfl) ?_
    refine vr_ifnonnull (pc := 8) hc 15 dX8_kinds_8 (by decide) ?_
    refine vr_aload_n (pc := 15) hc dX8_kinds_15 rfl ?_
    refine vr_iload_n (pc := 16) hc dX8_kinds_16 rfl ?_
    obtain ⟨v6, σ7, he5, h⟩ := vz_b2e h
    refine vr_cVi (pc := 17) hc dX8_kinds_17 mt_X8_possibleKinds ml_X8_297 gc_0 (w_X8_possibleKinds z μ.2.1 x1 σ he5) rfl (by decide) rfl (Nat.le_of_ble_eq_true rfl) ?_
    obtain ⟨rfl, rfl⟩ := vz_in2 h
    exact hret _ _ (vz_ret_i dX8_kinds_20 rfl)
-- X8_ask: depth 6, effects S=True W=True P=True
def f_X8_ask_67 (k45 : Int32 → Int32 → Int32 → Int32 → Int32 → vz_I → Option (Int32 × vz_I)) : Nat → Int32 → Int32 → Int32 → Int32 → Int32 → Int32 → vz_I → Option (Int32 × vz_I)
  | 0, _, _, _, _, _, _, _ => none
  | n + 1, x1, x2, x3, x4, x5, x6, σ => if (60 : Int32) ≤ x6 then k45 x1 x2 x3 x4 (x5 + (1 : Int32)) σ else vz_b1 (f_X8_kindsKnownBy x3 x6 σ) (fun v15 => f_X8_ask_67 k45 n x1 x2 x3 x4 x5 (x6 + (1 : Int32)) (f_X2_offer (((100 : Int32) * x5) + x6) (-(vz_max v15 (x4 - v15))) σ))
theorem f_X8_ask_67_s (k45 : Int32 → Int32 → Int32 → Int32 → Int32 → vz_I → Option (Int32 × vz_I)) (n : Nat) (x1 : Int32) (x2 : Int32) (x3 : Int32) (x4 : Int32) (x5 : Int32) (x6 : Int32) (σ : vz_I) : f_X8_ask_67 k45 (n + 1) x1 x2 x3 x4 x5 x6 σ = if (60 : Int32) ≤ x6 then k45 x1 x2 x3 x4 (x5 + (1 : Int32)) σ else vz_b1 (f_X8_kindsKnownBy x3 x6 σ) (fun v15 => f_X8_ask_67 k45 n x1 x2 x3 x4 x5 (x6 + (1 : Int32)) (f_X2_offer (((100 : Int32) * x5) + x6) (-(vz_max v15 (x4 - v15))) σ)) := rfl
set_option maxRecDepth 20000 in
set_option maxHeartbeats 1000000 in
theorem wn_X8_ask_67 (z : vz_Z) (μ : vz_M) (hc : vz_C z μ cX8_ask RX8 6 8) {r : Int32} {σ' : vz_I} (hret : ∀ (pc : Nat) (L : vz_L), vz_ret cX8_ask (some .int) pc (some (.int r)) → vz_V z μ 0 0 pc L ((some (.int r)) : Option Value).toList vz_G0 σ' vz_N0) (k45 : Int32 → Int32 → Int32 → Int32 → Int32 → vz_I → Option (Int32 × vz_I)) (hk45 : ∀ (x1 : Int32) (x2 : Int32) (x3 : Int32) (x4 : Int32) (x5 : Int32) (σ : vz_I), k45 x1 x2 x3 x4 x5 σ = some (r, σ') → vz_V z μ 0 0 45 [(0, some (.ref 0)), (1, some (.int x1)), (2, some (.int x2)), (3, some (.int x3)), (4, some (.int x4)), (5, some (.int x5))] [] vz_G0 σ vz_N0) : ∀ (n : Nat) (x1 : Int32) (x2 : Int32) (x3 : Int32) (x4 : Int32) (x5 : Int32) (x6 : Int32) (σ : vz_I)  (h : f_X8_ask_67 k45 n x1 x2 x3 x4 x5 x6 σ = some (r, σ')), vz_V z μ 0 0 67 [(0, some (.ref 0)), (1, some (.int x1)), (2, some (.int x2)), (3, some (.int x3)), (4, some (.int x4)), (5, some (.int x5)), (6, some (.int x6))] [] vz_G0 σ vz_N0 := by
  intro n
  induction n with
  | zero =>
    intro x1 x2 x3 x4 x5 x6 σ h
    cases h
  | succ n ih =>
    intro x1 x2 x3 x4 x5 x6 σ h
    rw [f_X8_ask_67_s] at h
    refine vr_iload (pc := 67) hc dX8_ask_67 rfl ?_
    refine vr_bipush (pc := 69) hc dX8_ask_69 (60 : Int32) (by decide) ?_
    refine vr_icmp_ge (pc := 71) hc 115 dX8_ask_71 (by decide) (fun hb13 => ?_) (fun hb13 => ?_)
    · rw [if_pos hb13] at h
      refine vr_iinc (pc := 115) hc dX8_ask_115 (1 : Int32) (by decide) rfl (by decide) rfl ?_
      refine vr_goto (pc := 118) hc 45 dX8_ask_118 (by decide) ?_
      exact vz_sub (hk45 x1 x2 x3 x4 (x5 + (1 : Int32)) σ  h) (vz_sb1 rfl (vz_sb1 rfl (vz_sb1 rfl (vz_sb1 rfl (vz_sb1 rfl (vz_sb1 rfl vz_sb0))))))
    · rw [if_neg hb13] at h
      refine vr_aload_n (pc := 74) hc dX8_ask_74 rfl ?_
      refine vr_iload_n (pc := 75) hc dX8_ask_75 rfl ?_
      refine vr_iload (pc := 76) hc dX8_ask_76 rfl ?_
      obtain ⟨v15, he14, h⟩ := vz_b1e h
      refine vr_cVi (pc := 78) hc dX8_ask_78 mt_X8_kindsKnownBy ml_X8_307 gc_0 (w_X8_kindsKnownBy z μ.2.1 x3 x6 σ he14) rfl (by decide) rfl (Nat.le_of_ble_eq_true rfl) ?_
      refine vr_istore (pc := 81) hc dX8_ask_81 (by decide) rfl ?_
      refine vr_aload_n (pc := 83) hc dX8_ask_83 rfl ?_
      refine vr_getR (pc := 84) hc dX8_ask_84 fl_X8_57 gc_0 (gr_8_8 gc_0).1 ?_
      refine vr_bipush (pc := 87) hc dX8_ask_87 (100 : Int32) (by decide) ?_
      refine vr_iload (pc := 89) hc dX8_ask_89 rfl ?_
      refine vr_imul (pc := 91) hc dX8_ask_91 ?_
      refine vr_iload (pc := 92) hc dX8_ask_92 rfl ?_
      refine vr_iadd (pc := 94) hc dX8_ask_94 ?_
      refine vr_iload (pc := 95) hc dX8_ask_95 rfl ?_
      refine vr_iload (pc := 97) hc dX8_ask_97 rfl ?_
      refine vr_iload (pc := 99) hc dX8_ask_99 rfl ?_
      refine vr_isub (pc := 101) hc dX8_ask_101 ?_
      refine vr_mmax (pc := 102) hc dX8_ask_102 ml_X8_310 mw_max (by decide) (Nat.le_of_ble_eq_true rfl) ?_
      refine vr_ineg (pc := 105) hc dX8_ask_105 ?_
      refine vr_cVv (pc := 106) hc dX8_ask_106 mt_X2_offer ml_X8_255 ((gr_8_8 gc_0).2.1) (w_X2_offer z μ.2.1 (((100 : Int32) * x5) + x6) (-(vz_max v15 (x4 - v15))) σ rfl) rfl (by decide) rfl (Nat.le_of_ble_eq_true rfl) ?_
      refine vr_iinc (pc := 109) hc dX8_ask_109 (1 : Int32) (by decide) rfl (by decide) rfl ?_
      refine vr_goto (pc := 112) hc 67 dX8_ask_112 (by decide) ?_
      exact vz_sub (ih x1 x2 x3 x4 x5 (x6 + (1 : Int32)) (f_X2_offer (((100 : Int32) * x5) + x6) (-(vz_max v15 (x4 - v15))) σ)  h) (vz_sb1 rfl (vz_sb1 rfl (vz_sb1 rfl (vz_sb1 rfl (vz_sb1 rfl (vz_sb1 rfl (vz_sb1 rfl vz_sb0)))))))
def f_X8_ask_45 : Nat → Int32 → Int32 → Int32 → Int32 → Int32 → vz_I → Option (Int32 × vz_I)
  | 0, _, _, _, _, _, _ => none
  | n + 1, x1, x2, x3, x4, x5, σ => if (σ 21 2) ≤ x5 then some (f_X2_toldOfFewest x2 σ, σ) else vz_b1 (f_X8_noteWhenKnown x1 x5 σ) (fun σ12 => f_X8_ask_67 (f_X8_ask_45 n) vz_fu x1 x2 x3 x4 x5 (0 : Int32) σ12)
theorem f_X8_ask_45_s (n : Nat) (x1 : Int32) (x2 : Int32) (x3 : Int32) (x4 : Int32) (x5 : Int32) (σ : vz_I) : f_X8_ask_45  (n + 1) x1 x2 x3 x4 x5 σ = if (σ 21 2) ≤ x5 then some (f_X2_toldOfFewest x2 σ, σ) else vz_b1 (f_X8_noteWhenKnown x1 x5 σ) (fun σ12 => f_X8_ask_67 (f_X8_ask_45 n) vz_fu x1 x2 x3 x4 x5 (0 : Int32) σ12) := rfl
set_option maxRecDepth 20000 in
set_option maxHeartbeats 1000000 in
theorem wn_X8_ask_45 (z : vz_Z) (μ : vz_M) (hc : vz_C z μ cX8_ask RX8 6 8) {r : Int32} {σ' : vz_I} (hret : ∀ (pc : Nat) (L : vz_L), vz_ret cX8_ask (some .int) pc (some (.int r)) → vz_V z μ 0 0 pc L ((some (.int r)) : Option Value).toList vz_G0 σ' vz_N0) : ∀ (n : Nat) (x1 : Int32) (x2 : Int32) (x3 : Int32) (x4 : Int32) (x5 : Int32) (σ : vz_I)  (h : f_X8_ask_45  n x1 x2 x3 x4 x5 σ = some (r, σ')), vz_V z μ 0 0 45 [(0, some (.ref 0)), (1, some (.int x1)), (2, some (.int x2)), (3, some (.int x3)), (4, some (.int x4)), (5, some (.int x5))] [] vz_G0 σ vz_N0 := by
  intro n
  induction n with
  | zero =>
    intro x1 x2 x3 x4 x5 σ h
    cases h
  | succ n ih =>
    intro x1 x2 x3 x4 x5 σ h
    rw [f_X8_ask_45_s] at h
    refine vr_iload (pc := 45) hc dX8_ask_45 rfl ?_
    refine vr_aload_n (pc := 47) hc dX8_ask_47 rfl ?_
    refine vr_getR (pc := 48) hc dX8_ask_48 fl_X8_19 gc_0 (gr_8_1 gc_0).1 ?_
    refine vr_getI (pc := 51) hc dX8_ask_51 fl_X8_113 ((gr_8_1 gc_0).2.1) (gi_7_2 ((gr_8_1 gc_0).2.1)) ?_
    refine vr_icmp_ge (pc := 54) hc 121 dX8_ask_54 (by decide) (fun hb9 => ?_) (fun hb9 => ?_)
    · rw [if_pos hb9] at h
      refine vr_aload_n (pc := 121) hc dX8_ask_121 rfl ?_
      refine vr_getR (pc := 122) hc dX8_ask_122 fl_X8_57 gc_0 (gr_8_8 gc_0).1 ?_
      refine vr_iload_n (pc := 125) hc dX8_ask_125 rfl ?_
      refine vr_cVi (pc := 126) hc dX8_ask_126 mt_X2_toldOfFewest ml_X8_277 ((gr_8_8 gc_0).2.1) (w_X2_toldOfFewest z μ.2.1 x2 σ rfl) rfl (by decide) rfl (Nat.le_of_ble_eq_true rfl) ?_
      obtain ⟨rfl, rfl⟩ := vz_in2 h
      exact hret _ _ (vz_ret_i dX8_ask_129 rfl)
    · rw [if_neg hb9] at h
      refine vr_aload_n (pc := 57) hc dX8_ask_57 rfl ?_
      refine vr_iload_n (pc := 58) hc dX8_ask_58 rfl ?_
      refine vr_iload (pc := 59) hc dX8_ask_59 rfl ?_
      obtain ⟨σ12, he10, h⟩ := vz_b1e h
      refine vr_cVv (pc := 61) hc dX8_ask_61 mt_X8_noteWhenKnown ml_X8_304 gc_0 (w_X8_noteWhenKnown z μ.2.1 x1 x5 σ he10) rfl (by decide) rfl (Nat.le_of_ble_eq_true rfl) ?_
      refine vr_iconst (pc := 64) hc dX8_ask_64 (0 : Int32) (by decide) ?_
      refine vr_istore (pc := 65) hc dX8_ask_65 (by decide) rfl ?_
      exact vz_sub (wn_X8_ask_67 z μ hc hret (f_X8_ask_45 n) ih vz_fu x1 x2 x3 x4 x5 (0 : Int32) σ12 h) (vz_sb1 rfl (vz_sb1 rfl (vz_sb1 rfl (vz_sb1 rfl (vz_sb1 rfl (vz_sb1 rfl (vz_sb1 rfl vz_sb0)))))))
def f_X8_ask (x1 : Int32) (x2 : Int32) (σ : vz_I) : Option (Int32 × vz_I) := vz_b1 (f_X7_manAt 21 x1 σ) (fun v2 => vz_mo v2 (some ((-1 : Int32), σ)) (fun a4 => if (f_X8_isEither x2) = 0 then some ((-1 : Int32), σ) else vz_b2 (f_X8_possibleKinds x1 σ) (fun v7 σ8 => f_X8_ask_45 vz_fu x1 x2 v7 (f_J6_bitCount_0f7a4 v7) (0 : Int32) (f_X2_restart (-(f_J6_bitCount_0f7a4 v7)) σ8))))
set_option maxRecDepth 20000 in
set_option maxHeartbeats 1000000 in
theorem w_X8_ask (z : vz_Z) (l : Launch) (x1 : Int32) (x2 : Int32) (σ : vz_I)  {r : Int32} {σ' : vz_I} (h : f_X8_ask x1 x2 σ = some (r, σ')) : vz_Con z l 6 yX8_ask cX8_ask 8 (some .int) [.ref 0, .int x1, .int x2] vz_G0 σ vz_N0 (some (.int r)) vz_G0 σ' vz_N0 0 0 := by
  refine vz_con (by decide) (Nat.le_of_ble_eq_true rfl) (fun μ hc hl hcap hret => ?_)
  subst hl
  unfold f_X8_ask at h
  refine vr_aload_n (pc := 0) hc dX8_ask_0 rfl ?_
  refine vr_getR (pc := 1) hc dX8_ask_1 fl_X8_19 gc_0 (gr_8_1 gc_0).1 ?_
  refine vr_iload_n (pc := 4) hc dX8_ask_4 rfl ?_
  obtain ⟨v2, he1, h⟩ := vz_b1e h
  cases v2 with
  | none =>
    rw [vz_mo_n] at h
    refine vr_cVn (pc := 5) hc dX8_ask_5 mt_X7_manAt ml_X8_126 ((gr_8_1 gc_0).2.1) (w_X7_manAt z μ.2.1 21 x1 σ ((gr_8_1 gc_0).2.1) he1) rfl (by decide) rfl (Nat.le_of_ble_eq_true rfl) ?_
    refine vr_ifnullN (pc := 8) hc 18 dX8_ask_8 (by decide) ?_
    refine vr_iconst (pc := 18) hc dX8_ask_18 (-1 : Int32) (by decide) ?_
    obtain ⟨rfl, rfl⟩ := vz_in2 h
    exact hret _ _ (vz_ret_i dX8_ask_19 rfl)
  | some a4 =>
    rw [vz_mo_s] at h
    refine vr_cVa (pc := 5) hc dX8_ask_5 mt_X7_manAt ml_X8_126 ((gr_8_1 gc_0).2.1) (w_X7_manAt z μ.2.1 21 x1 σ ((gr_8_1 gc_0).2.1) he1) rfl (by decide) rfl (Nat.le_of_ble_eq_true rfl) ?_
    refine vr_ifnull (pc := 8) hc dX8_ask_8 ?_
    refine vr_iload_n (pc := 11) hc dX8_ask_11 rfl ?_
    refine vr_cSi (pc := 12) hc dX8_ask_12 mt_X8_isEither sx_X8_isEither ml_X8_160  (w_X8_isEither z μ.2.1 x2 σ rfl) rfl (by decide) rfl (Nat.le_of_ble_eq_true rfl) ?_
    refine vr_if_ne (pc := 15) hc 20 dX8_ask_15 (by decide) (fun hb5 => ?_) (fun hb5 => ?_)
    · rw [if_neg hb5] at h
      refine vr_aload_n (pc := 20) hc dX8_ask_20 rfl ?_
      refine vr_iload_n (pc := 21) hc dX8_ask_21 rfl ?_
      obtain ⟨v7, σ8, he6, h⟩ := vz_b2e h
      refine vr_cVi (pc := 22) hc dX8_ask_22 mt_X8_possibleKinds ml_X8_297 gc_0 (w_X8_possibleKinds z μ.2.1 x1 σ he6) rfl (by decide) rfl (Nat.le_of_ble_eq_true rfl) ?_
      refine vr_istore_n (pc := 25) hc dX8_ask_25 (by decide) rfl ?_
      refine vr_iload_n (pc := 26) hc dX8_ask_26 rfl ?_
      refine vr_cSi (pc := 27) hc dX8_ask_27 mt_J6_bitCount_0f7a4 sx_J6_bitCount_0f7a4 ml_X8_251  (w_J6_bitCount_0f7a4 z μ.2.1 v7 σ8 rfl) rfl (by decide) rfl (Nat.le_of_ble_eq_true rfl) ?_
      refine vr_istore (pc := 30) hc dX8_ask_30 (by decide) rfl ?_
      refine vr_aload_n (pc := 32) hc dX8_ask_32 rfl ?_
      refine vr_getR (pc := 33) hc dX8_ask_33 fl_X8_57 gc_0 (gr_8_8 gc_0).1 ?_
      refine vr_iload (pc := 36) hc dX8_ask_36 rfl ?_
      refine vr_ineg (pc := 38) hc dX8_ask_38 ?_
      refine vr_cVv (pc := 39) hc dX8_ask_39 mt_X2_restart ml_X8_246 ((gr_8_8 gc_0).2.1) (w_X2_restart z μ.2.1 (-(f_J6_bitCount_0f7a4 v7)) σ8 rfl) rfl (by decide) rfl (Nat.le_of_ble_eq_true rfl) ?_
      refine vr_iconst (pc := 42) hc dX8_ask_42 (0 : Int32) (by decide) ?_
      refine vr_istore (pc := 43) hc dX8_ask_43 (by decide) rfl ?_
      exact vz_sub (wn_X8_ask_45 z μ hc hret vz_fu x1 x2 v7 (f_J6_bitCount_0f7a4 v7) (0 : Int32) (f_X2_restart (-(f_J6_bitCount_0f7a4 v7)) σ8) h) (vz_sb1 rfl (vz_sb1 rfl (vz_sb1 rfl (vz_sb1 rfl (vz_sb1 rfl (vz_sb1 rfl vz_sb0))))))
    · rw [if_pos hb5] at h
      refine vr_iconst (pc := 18) hc dX8_ask_18 (-1 : Int32) (by decide) ?_
      obtain ⟨rfl, rfl⟩ := vz_in2 h
      exact hret _ _ (vz_ret_i dX8_ask_19 rfl)
-- X9_text: depth 6, effects S=True W=True P=True
def f_X9_text_126 : Nat → Int32 → Int32 → vz_I → Option (Int32 × vz_I)
  | 0, _, _, _ => none
  | n + 1, x1, x2, σ => if (61 : Int32) ≤ x2 then vz_let (vz_up (vz_up σ 108 1 (σ 108 4)) 108 2 ((vz_up σ 108 1 (σ 108 4)) 108 5)) (fun σ13 => if vz_in (0 : Int32) 2 then vz_let (vz_up (vz_up σ13 108 24 (0 : Int32)) 119 (0 : Int32).toNatClampNeg ((0 : Int32) &&& 1)) (fun σ16 => if vz_in (1 : Int32) 2 then some (x1, vz_up σ16 119 (1 : Int32).toNatClampNeg ((0 : Int32) &&& 1)) else none) else none) else if vz_in x2 61 then if vz_in x2 305 then f_X9_text_126 n x1 (x2 + (1 : Int32)) (vz_up σ 109 x2.toNatClampNeg (σ 110 x2.toNatClampNeg)) else none else none
theorem f_X9_text_126_s (n : Nat) (x1 : Int32) (x2 : Int32) (σ : vz_I) : f_X9_text_126  (n + 1) x1 x2 σ = if (61 : Int32) ≤ x2 then vz_let (vz_up (vz_up σ 108 1 (σ 108 4)) 108 2 ((vz_up σ 108 1 (σ 108 4)) 108 5)) (fun σ13 => if vz_in (0 : Int32) 2 then vz_let (vz_up (vz_up σ13 108 24 (0 : Int32)) 119 (0 : Int32).toNatClampNeg ((0 : Int32) &&& 1)) (fun σ16 => if vz_in (1 : Int32) 2 then some (x1, vz_up σ16 119 (1 : Int32).toNatClampNeg ((0 : Int32) &&& 1)) else none) else none) else if vz_in x2 61 then if vz_in x2 305 then f_X9_text_126 n x1 (x2 + (1 : Int32)) (vz_up σ 109 x2.toNatClampNeg (σ 110 x2.toNatClampNeg)) else none else none := rfl
set_option maxRecDepth 20000 in
set_option maxHeartbeats 1000000 in
theorem wn_X9_text_126 (z : vz_Z) (μ : vz_M) (hc : vz_C z μ cX9_text RX9 6 3) {r : Int32} {σ' : vz_I} (hret : ∀ (pc : Nat) (L : vz_L), vz_ret cX9_text (some .int) pc (some (.int r)) → vz_V z μ 0 0 pc L ((some (.int r)) : Option Value).toList vz_G0 σ' vz_N0) : ∀ (n : Nat) (x1 : Int32) (x2 : Int32) (σ : vz_I)  (h : f_X9_text_126  n x1 x2 σ = some (r, σ')), vz_V z μ 0 0 126 [(0, some (.ref 108)), (1, some (.int x1)), (2, some (.int x2))] [] vz_G0 σ vz_N0 := by
  intro n
  induction n with
  | zero =>
    intro x1 x2 σ h
    cases h
  | succ n ih =>
    intro x1 x2 σ h
    rw [f_X9_text_126_s] at h
    refine vr_iload_n (pc := 126) hc dX9_text_126 rfl ?_
    refine vr_bipush (pc := 127) hc dX9_text_127 (61 : Int32) (by decide) ?_
    refine vr_icmp_ge (pc := 129) hc 150 dX9_text_129 (by decide) (fun hb12 => ?_) (fun hb12 => ?_)
    · rw [if_pos hb12] at h
      refine vr_aload_n (pc := 150) hc dX9_text_150 rfl ?_
      refine vr_aload_n (pc := 151) hc dX9_text_151 rfl ?_
      refine vr_getI (pc := 152) hc dX9_text_152 fl_X9_100 gc_108 (gi_9_4 gc_108) ?_
      refine vr_putI (pc := 155) hc dX9_text_155 fl_X9_150 gc_108 (gi_9_1 gc_108) rfl rfl ?_
      refine vr_aload_n (pc := 158) hc dX9_text_158 rfl ?_
      refine vr_aload_n (pc := 159) hc dX9_text_159 rfl ?_
      refine vr_getI (pc := 160) hc dX9_text_160 fl_X9_107 gc_108 (gi_9_5 gc_108) ?_
      refine vr_putI (pc := 163) hc dX9_text_163 fl_X9_153 gc_108 (gi_9_2 gc_108) rfl rfl ?_
      obtain ⟨σ13, hσ14⟩ : ∃ x, x = vz_up (vz_up σ 108 1 (σ 108 4)) 108 2 ((vz_up σ 108 1 (σ 108 4)) 108 5) := ⟨_, rfl⟩
      rw [← hσ14] at h ⊢
      rw [vz_let_e] at h
      refine vr_aload_n (pc := 166) hc dX9_text_166 rfl ?_
      refine vr_iconst (pc := 167) hc dX9_text_167 (0 : Int32) (by decide) ?_
      refine vr_putI (pc := 168) hc dX9_text_168 fl_X9_156 gc_108 (gi_9_24 gc_108) rfl rfl ?_
      refine vr_aload_n (pc := 171) hc dX9_text_171 rfl ?_
      refine vr_getR (pc := 172) hc dX9_text_172 fl_X9_40 gc_108 (gr_9_26 gc_108).1 ?_
      refine vr_iconst (pc := 175) hc dX9_text_175 (0 : Int32) (by decide) ?_
      refine vr_iconst (pc := 176) hc dX9_text_176 (0 : Int32) (by decide) ?_
      have hb15 := vz_ifp h
      rw [if_pos hb15] at h
      refine vr_zast (pc := 177) hc 2 dX9_text_177 ((gr_9_26 gc_108).2.1) ((gr_9_26 gc_108).2.2) (vz_in_vp hb15) ?_
      obtain ⟨σ16, hσ17⟩ : ∃ x, x = vz_up (vz_up σ13 108 24 (0 : Int32)) 119 (0 : Int32).toNatClampNeg ((0 : Int32) &&& 1) := ⟨_, rfl⟩
      rw [← hσ17] at h ⊢
      rw [vz_let_e] at h
      refine vr_aload_n (pc := 178) hc dX9_text_178 rfl ?_
      refine vr_getR (pc := 179) hc dX9_text_179 fl_X9_40 gc_108 (gr_9_26 gc_108).1 ?_
      refine vr_iconst (pc := 182) hc dX9_text_182 (1 : Int32) (by decide) ?_
      refine vr_iconst (pc := 183) hc dX9_text_183 (0 : Int32) (by decide) ?_
      have hb18 := vz_ifp h
      rw [if_pos hb18] at h
      refine vr_zast (pc := 184) hc 2 dX9_text_184 ((gr_9_26 gc_108).2.1) ((gr_9_26 gc_108).2.2) (vz_in_vp hb18) ?_
      refine vr_iload_n (pc := 185) hc dX9_text_185 rfl ?_
      obtain ⟨rfl, rfl⟩ := vz_in2 h
      exact hret _ _ (vz_ret_i dX9_text_186 rfl)
    · rw [if_neg hb12] at h
      refine vr_aload_n (pc := 132) hc dX9_text_132 rfl ?_
      refine vr_getR (pc := 133) hc dX9_text_133 fl_X9_7 gc_108 (gr_9_0 gc_108).1 ?_
      refine vr_iload_n (pc := 136) hc dX9_text_136 rfl ?_
      refine vr_aload_n (pc := 137) hc dX9_text_137 rfl ?_
      refine vr_getR (pc := 138) hc dX9_text_138 fl_X9_13 gc_108 (gr_9_3 gc_108).1 ?_
      refine vr_iload_n (pc := 141) hc dX9_text_141 rfl ?_
      have hb19 := vz_ifp h
      rw [if_pos hb19] at h
      refine vr_iald (pc := 142) hc 61 dX9_text_142 ((gr_9_3 gc_108).2.1) ((gr_9_3 gc_108).2.2) (vz_in_vp hb19) ?_
      have hb20 := vz_ifp h
      rw [if_pos hb20] at h
      refine vr_iast (pc := 143) hc 305 dX9_text_143 ((gr_9_0 gc_108).2.1) ((gr_9_0 gc_108).2.2) (vz_in_vp hb20) ?_
      refine vr_iinc (pc := 144) hc dX9_text_144 (1 : Int32) (by decide) rfl (by decide) rfl ?_
      refine vr_goto (pc := 147) hc 126 dX9_text_147 (by decide) ?_
      exact vz_sub (ih x1 (x2 + (1 : Int32)) (vz_up σ 109 x2.toNatClampNeg (σ 110 x2.toNatClampNeg))  h) (vz_sb1 rfl (vz_sb1 rfl (vz_sb1 rfl vz_sb0)))
def f_X9_text_96 (x1 : Int32) (σ : vz_I) : Option (Int32 × vz_I) := vz_let (vz_up (vz_up σ 108 8 (0 : Int32)) 108 9 ((vz_up σ 108 8 (0 : Int32)) 108 10)) (fun σ9 => if (σ9 108 10) ≤ 0 then f_X9_text_126 vz_fu x1 (0 : Int32) σ9 else some ((-10 : Int32) - (σ9 108 11), σ9))
set_option maxRecDepth 20000 in
set_option maxHeartbeats 1000000 in
theorem wn_X9_text_96 (z : vz_Z) (μ : vz_M) (hc : vz_C z μ cX9_text RX9 6 3) {r : Int32} {σ' : vz_I} (hret : ∀ (pc : Nat) (L : vz_L), vz_ret cX9_text (some .int) pc (some (.int r)) → vz_V z μ 0 0 pc L ((some (.int r)) : Option Value).toList vz_G0 σ' vz_N0) (x1 : Int32) (σ : vz_I)  (h : f_X9_text_96  x1 σ = some (r, σ')) : vz_V z μ 0 0 96 [(0, some (.ref 108)), (1, some (.int x1))] [] vz_G0 σ vz_N0 := by
  unfold f_X9_text_96 at h
  refine vr_aload_n (pc := 96) hc dX9_text_96 rfl ?_
  refine vr_iconst (pc := 97) hc dX9_text_97 (0 : Int32) (by decide) ?_
  refine vr_putI (pc := 98) hc dX9_text_98 fl_X9_59 gc_108 (gi_9_8 gc_108) rfl rfl ?_
  refine vr_aload_n (pc := 101) hc dX9_text_101 rfl ?_
  refine vr_aload_n (pc := 102) hc dX9_text_102 rfl ?_
  refine vr_getI (pc := 103) hc dX9_text_103 fl_X9_63 gc_108 (gi_9_10 gc_108) ?_
  refine vr_putI (pc := 106) hc dX9_text_106 fl_X9_147 gc_108 (gi_9_9 gc_108) rfl rfl ?_
  obtain ⟨σ9, hσ10⟩ : ∃ x, x = vz_up (vz_up σ 108 8 (0 : Int32)) 108 9 ((vz_up σ 108 8 (0 : Int32)) 108 10) := ⟨_, rfl⟩
  rw [← hσ10] at h ⊢
  rw [vz_let_e] at h
  refine vr_aload_n (pc := 109) hc dX9_text_109 rfl ?_
  refine vr_getI (pc := 110) hc dX9_text_110 fl_X9_63 gc_108 (gi_9_10 gc_108) ?_
  refine vr_if_le (pc := 113) hc 124 dX9_text_113 (by decide) (fun hb11 => ?_) (fun hb11 => ?_)
  · rw [if_pos hb11] at h
    refine vr_iconst (pc := 124) hc dX9_text_124 (0 : Int32) (by decide) ?_
    refine vr_istore_n (pc := 125) hc dX9_text_125 (by decide) rfl ?_
    exact vz_sub (wn_X9_text_126 z μ hc hret vz_fu x1 (0 : Int32) σ9 h) (vz_sb1 rfl (vz_sb1 rfl (vz_sb1 rfl vz_sb0)))
  · rw [if_neg hb11] at h
    refine vr_bipush (pc := 116) hc dX9_text_116 (-10 : Int32) (by decide) ?_
    refine vr_aload_n (pc := 118) hc dX9_text_118 rfl ?_
    refine vr_getI (pc := 119) hc dX9_text_119 fl_X9_69 gc_108 (gi_9_11 gc_108) ?_
    refine vr_isub (pc := 122) hc dX9_text_122 ?_
    obtain ⟨rfl, rfl⟩ := vz_in2 h
    exact hret _ _ (vz_ret_i dX9_text_123 rfl)
def f_X9_text_76 (x1 : Int32) (σ : vz_I) : Option (Int32 × vz_I) := if (σ 108 10) = 0 then vz_b2 (f_X9_areWalks  σ) (fun v22 σ23 => if v22 = 0 then f_X9_text_96 x1 (f_X9_fails (6 : Int32) σ23) else f_X9_text_96 x1 σ23) else f_X9_text_96 x1 σ
set_option maxRecDepth 20000 in
set_option maxHeartbeats 1000000 in
theorem wn_X9_text_76 (z : vz_Z) (μ : vz_M) (hc : vz_C z μ cX9_text RX9 6 3) {r : Int32} {σ' : vz_I} (hret : ∀ (pc : Nat) (L : vz_L), vz_ret cX9_text (some .int) pc (some (.int r)) → vz_V z μ 0 0 pc L ((some (.int r)) : Option Value).toList vz_G0 σ' vz_N0) (x1 : Int32) (σ : vz_I)  (h : f_X9_text_76  x1 σ = some (r, σ')) : vz_V z μ 0 0 76 [(0, some (.ref 108)), (1, some (.int x1))] [] vz_G0 σ vz_N0 := by
  unfold f_X9_text_76 at h
  refine vr_aload_n (pc := 76) hc dX9_text_76 rfl ?_
  refine vr_getI (pc := 77) hc dX9_text_77 fl_X9_63 gc_108 (gi_9_10 gc_108) ?_
  refine vr_if_ne (pc := 80) hc 96 dX9_text_80 (by decide) (fun hb8 => ?_) (fun hb8 => ?_)
  · rw [if_neg hb8] at h
    exact vz_sub (wn_X9_text_96 z μ hc hret x1 σ h) (vz_sb1 rfl (vz_sb1 rfl vz_sb0))
  · rw [if_pos hb8] at h
    refine vr_aload_n (pc := 83) hc dX9_text_83 rfl ?_
    obtain ⟨v22, σ23, he21, h⟩ := vz_b2e h
    refine vr_cVi (pc := 84) hc dX9_text_84 mt_X9_areWalks ml_X9_143 gc_108 (w_X9_areWalks z μ.2.1  σ he21) rfl (by decide) rfl (Nat.le_of_ble_eq_true rfl) ?_
    refine vr_if_ne (pc := 87) hc 96 dX9_text_87 (by decide) (fun hb24 => ?_) (fun hb24 => ?_)
    · rw [if_neg hb24] at h
      exact vz_sub (wn_X9_text_96 z μ hc hret x1 σ23 h) (vz_sb1 rfl (vz_sb1 rfl vz_sb0))
    · rw [if_pos hb24] at h
      refine vr_aload_n (pc := 90) hc dX9_text_90 rfl ?_
      refine vr_bipush (pc := 91) hc dX9_text_91 (6 : Int32) (by decide) ?_
      refine vr_cVv (pc := 93) hc dX9_text_93 mt_X9_fails ml_X9_93 gc_108 (w_X9_fails z μ.2.1 (6 : Int32) σ23 rfl) rfl (by decide) rfl (Nat.le_of_ble_eq_true rfl) ?_
      exact vz_sub (wn_X9_text_96 z μ hc hret x1 (f_X9_fails (6 : Int32) σ23) h) (vz_sb1 rfl (vz_sb1 rfl vz_sb0))
def f_X9_text_52 : Nat → Int32 → vz_I → Option (Int32 × vz_I)
  | 0, _, _ => none
  | n + 1, x1, σ => if (σ 108 10) = 0 then if (σ 108 14) = 0 then f_X9_text_76 x1 σ else vz_b1 (f_X9_readLine  σ) (fun σ28 => f_X9_text_52 n (x1 + (1 : Int32)) σ28) else f_X9_text_76 x1 σ
theorem f_X9_text_52_s (n : Nat) (x1 : Int32) (σ : vz_I) : f_X9_text_52  (n + 1) x1 σ = if (σ 108 10) = 0 then if (σ 108 14) = 0 then f_X9_text_76 x1 σ else vz_b1 (f_X9_readLine  σ) (fun σ28 => f_X9_text_52 n (x1 + (1 : Int32)) σ28) else f_X9_text_76 x1 σ := rfl
set_option maxRecDepth 20000 in
set_option maxHeartbeats 1000000 in
theorem wn_X9_text_52 (z : vz_Z) (μ : vz_M) (hc : vz_C z μ cX9_text RX9 6 3) {r : Int32} {σ' : vz_I} (hret : ∀ (pc : Nat) (L : vz_L), vz_ret cX9_text (some .int) pc (some (.int r)) → vz_V z μ 0 0 pc L ((some (.int r)) : Option Value).toList vz_G0 σ' vz_N0) : ∀ (n : Nat) (x1 : Int32) (σ : vz_I)  (h : f_X9_text_52  n x1 σ = some (r, σ')), vz_V z μ 0 0 52 [(0, some (.ref 108)), (1, some (.int x1))] [] vz_G0 σ vz_N0 := by
  intro n
  induction n with
  | zero =>
    intro x1 σ h
    cases h
  | succ n ih =>
    intro x1 σ h
    rw [f_X9_text_52_s] at h
    refine vr_aload_n (pc := 52) hc dX9_text_52 rfl ?_
    refine vr_getI (pc := 53) hc dX9_text_53 fl_X9_63 gc_108 (gi_9_10 gc_108) ?_
    refine vr_if_ne (pc := 56) hc 76 dX9_text_56 (by decide) (fun hb7 => ?_) (fun hb7 => ?_)
    · rw [if_neg hb7] at h
      exact vz_sub (wn_X9_text_76 z μ hc hret x1 σ h) (vz_sb1 rfl (vz_sb1 rfl vz_sb0))
    · rw [if_pos hb7] at h
      refine vr_aload_n (pc := 59) hc dX9_text_59 rfl ?_
      refine vr_getI (pc := 60) hc dX9_text_60 fl_X9_72 gc_108 (gi_9_14 gc_108) ?_
      refine vr_if_eq (pc := 63) hc 76 dX9_text_63 (by decide) (fun hb25 => ?_) (fun hb25 => ?_)
      · rw [if_pos hb25] at h
        exact vz_sub (wn_X9_text_76 z μ hc hret x1 σ h) (vz_sb1 rfl (vz_sb1 rfl vz_sb0))
      · rw [if_neg hb25] at h
        refine vr_aload_n (pc := 66) hc dX9_text_66 rfl ?_
        obtain ⟨σ28, he26, h⟩ := vz_b1e h
        refine vr_cVv (pc := 67) hc dX9_text_67 mt_X9_readLine ml_X9_140 gc_108 (w_X9_readLine z μ.2.1  σ he26) rfl (by decide) rfl (Nat.le_of_ble_eq_true rfl) ?_
        refine vr_iinc (pc := 70) hc dX9_text_70 (1 : Int32) (by decide) rfl (by decide) rfl ?_
        refine vr_goto (pc := 73) hc 52 dX9_text_73 (by decide) ?_
        exact vz_sub (ih (x1 + (1 : Int32)) σ28  h) (vz_sb1 rfl (vz_sb1 rfl vz_sb0))
def f_X9_text_29 : Nat → Int32 → Int32 → vz_I → Option (Int32 × vz_I)
  | 0, _, _, _ => none
  | n + 1, x1, x2, σ => if (61 : Int32) ≤ x2 then vz_b1 (f_X9_step  σ) (fun σ6 => f_X9_text_52 vz_fu x1 σ6) else if vz_in x2 61 then f_X9_text_29 n x1 (x2 + (1 : Int32)) (vz_up σ 110 x2.toNatClampNeg (0 : Int32)) else none
theorem f_X9_text_29_s (n : Nat) (x1 : Int32) (x2 : Int32) (σ : vz_I) : f_X9_text_29  (n + 1) x1 x2 σ = if (61 : Int32) ≤ x2 then vz_b1 (f_X9_step  σ) (fun σ6 => f_X9_text_52 vz_fu x1 σ6) else if vz_in x2 61 then f_X9_text_29 n x1 (x2 + (1 : Int32)) (vz_up σ 110 x2.toNatClampNeg (0 : Int32)) else none := rfl
set_option maxRecDepth 20000 in
set_option maxHeartbeats 1000000 in
theorem wn_X9_text_29 (z : vz_Z) (μ : vz_M) (hc : vz_C z μ cX9_text RX9 6 3) {r : Int32} {σ' : vz_I} (hret : ∀ (pc : Nat) (L : vz_L), vz_ret cX9_text (some .int) pc (some (.int r)) → vz_V z μ 0 0 pc L ((some (.int r)) : Option Value).toList vz_G0 σ' vz_N0) : ∀ (n : Nat) (x1 : Int32) (x2 : Int32) (σ : vz_I)  (h : f_X9_text_29  n x1 x2 σ = some (r, σ')), vz_V z μ 0 0 29 [(0, some (.ref 108)), (1, some (.int x1)), (2, some (.int x2))] [] vz_G0 σ vz_N0 := by
  intro n
  induction n with
  | zero =>
    intro x1 x2 σ h
    cases h
  | succ n ih =>
    intro x1 x2 σ h
    rw [f_X9_text_29_s] at h
    refine vr_iload_n (pc := 29) hc dX9_text_29 rfl ?_
    refine vr_bipush (pc := 30) hc dX9_text_30 (61 : Int32) (by decide) ?_
    refine vr_icmp_ge (pc := 32) hc 48 dX9_text_32 (by decide) (fun hb3 => ?_) (fun hb3 => ?_)
    · rw [if_pos hb3] at h
      refine vr_aload_n (pc := 48) hc dX9_text_48 rfl ?_
      obtain ⟨σ6, he4, h⟩ := vz_b1e h
      refine vr_cVv (pc := 49) hc dX9_text_49 mt_X9_step ml_X9_97 gc_108 (w_X9_step z μ.2.1  σ he4) rfl (by decide) rfl (Nat.le_of_ble_eq_true rfl) ?_
      exact vz_sub (wn_X9_text_52 z μ hc hret vz_fu x1 σ6 h) (vz_sb1 rfl (vz_sb1 rfl vz_sb0))
    · rw [if_neg hb3] at h
      refine vr_aload_n (pc := 35) hc dX9_text_35 rfl ?_
      refine vr_getR (pc := 36) hc dX9_text_36 fl_X9_13 gc_108 (gr_9_3 gc_108).1 ?_
      refine vr_iload_n (pc := 39) hc dX9_text_39 rfl ?_
      refine vr_iconst (pc := 40) hc dX9_text_40 (0 : Int32) (by decide) ?_
      have hb29 := vz_ifp h
      rw [if_pos hb29] at h
      refine vr_iast (pc := 41) hc 61 dX9_text_41 ((gr_9_3 gc_108).2.1) ((gr_9_3 gc_108).2.2) (vz_in_vp hb29) ?_
      refine vr_iinc (pc := 42) hc dX9_text_42 (1 : Int32) (by decide) rfl (by decide) rfl ?_
      refine vr_goto (pc := 45) hc 29 dX9_text_45 (by decide) ?_
      exact vz_sub (ih x1 (x2 + (1 : Int32)) (vz_up σ 110 x2.toNatClampNeg (0 : Int32))  h) (vz_sb1 rfl (vz_sb1 rfl (vz_sb1 rfl vz_sb0)))
def f_X9_text  (σ : vz_I) : Option (Int32 × vz_I) := vz_let (vz_up (vz_up (vz_up σ 108 10 (0 : Int32)) 108 12 (0 : Int32)) 108 4 (0 : Int32)) (fun σ1 => f_X9_text_29 vz_fu (0 : Int32) (0 : Int32) (vz_up (vz_up σ1 108 5 (0 : Int32)) 108 6 (0 : Int32)))
set_option maxRecDepth 20000 in
set_option maxHeartbeats 1000000 in
theorem w_X9_text (z : vz_Z) (l : Launch)  (σ : vz_I)  {r : Int32} {σ' : vz_I} (h : f_X9_text  σ = some (r, σ')) : vz_Con z l 6 yX9_text cX9_text 3 (some .int) [.ref 108] vz_G0 σ vz_N0 (some (.int r)) vz_G0 σ' vz_N0 0 0 := by
  refine vz_con (by decide) (Nat.le_of_ble_eq_true rfl) (fun μ hc hl hcap hret => ?_)
  subst hl
  unfold f_X9_text at h
  refine vr_aload_n (pc := 0) hc dX9_text_0 rfl ?_
  refine vr_iconst (pc := 1) hc dX9_text_1 (0 : Int32) (by decide) ?_
  refine vr_putI (pc := 2) hc dX9_text_2 fl_X9_63 gc_108 (gi_9_10 gc_108) rfl rfl ?_
  refine vr_aload_n (pc := 5) hc dX9_text_5 rfl ?_
  refine vr_iconst (pc := 6) hc dX9_text_6 (0 : Int32) (by decide) ?_
  refine vr_putI (pc := 7) hc dX9_text_7 fl_X9_75 gc_108 (gi_9_12 gc_108) rfl rfl ?_
  refine vr_aload_n (pc := 10) hc dX9_text_10 rfl ?_
  refine vr_iconst (pc := 11) hc dX9_text_11 (0 : Int32) (by decide) ?_
  refine vr_putI (pc := 12) hc dX9_text_12 fl_X9_100 gc_108 (gi_9_4 gc_108) rfl rfl ?_
  obtain ⟨σ1, hσ2⟩ : ∃ x, x = vz_up (vz_up (vz_up σ 108 10 (0 : Int32)) 108 12 (0 : Int32)) 108 4 (0 : Int32) := ⟨_, rfl⟩
  rw [← hσ2] at h ⊢
  rw [vz_let_e] at h
  refine vr_aload_n (pc := 15) hc dX9_text_15 rfl ?_
  refine vr_iconst (pc := 16) hc dX9_text_16 (0 : Int32) (by decide) ?_
  refine vr_putI (pc := 17) hc dX9_text_17 fl_X9_107 gc_108 (gi_9_5 gc_108) rfl rfl ?_
  refine vr_aload_n (pc := 20) hc dX9_text_20 rfl ?_
  refine vr_iconst (pc := 21) hc dX9_text_21 (0 : Int32) (by decide) ?_
  refine vr_putI (pc := 22) hc dX9_text_22 fl_X9_129 gc_108 (gi_9_6 gc_108) (by decide) (by decide) ?_
  refine vr_iconst (pc := 25) hc dX9_text_25 (0 : Int32) (by decide) ?_
  refine vr_istore_n (pc := 26) hc dX9_text_26 (by decide) rfl ?_
  refine vr_iconst (pc := 27) hc dX9_text_27 (0 : Int32) (by decide) ?_
  refine vr_istore_n (pc := 28) hc dX9_text_28 (by decide) rfl ?_
  exact vz_sub (wn_X9_text_29 z μ hc hret vz_fu (0 : Int32) (0 : Int32) (vz_up (vz_up σ1 108 5 (0 : Int32)) 108 6 (0 : Int32)) h) (vz_sb1 rfl (vz_sb1 rfl (vz_sb1 rfl vz_sb0)))
-- X9_luck: depth 6, effects S=True W=True P=True
def f_X9_luck (x1 : Int32) (x2 : Int32) (x3 : Int32) (x4 : Int32) (σ : vz_I) : Option (Int64 × vz_I) := if (f_X9_in x1.toInt64 (0 : Int64) (10 : Int64)) = 0 then some ((-1 : Int64), σ) else if (f_X9_isReader x2 σ) = 0 then some ((-1 : Int64), σ) else if (f_X9_isNews x3) = 0 then some ((-1 : Int64), σ) else if (f_X9_in x4.toInt64 (0 : Int64) (1 : Int64)) = 0 then some ((-1 : Int64), σ) else vz_b2 (f_X9_byHomes x1 x2 x3 x4 σ) (fun v6 σ7 => some (v6, σ7))
set_option maxRecDepth 20000 in
set_option maxHeartbeats 1000000 in
theorem w_X9_luck (z : vz_Z) (l : Launch) (x1 : Int32) (x2 : Int32) (x3 : Int32) (x4 : Int32) (σ : vz_I)  {r : Int64} {σ' : vz_I} (h : f_X9_luck x1 x2 x3 x4 σ = some (r, σ')) : vz_Con z l 6 yX9_luck cX9_luck 5 (some .long) [.ref 108, .int x1, .int x2, .int x3, .int x4] vz_G0 σ vz_N0 (some (.long r)) vz_G0 σ' vz_N0 0 0 := by
  refine vz_con (by decide) (Nat.le_of_ble_eq_true rfl) (fun μ hc hl hcap hret => ?_)
  subst hl
  unfold f_X9_luck at h
  refine vr_iload_n (pc := 0) hc dX9_luck_0 rfl ?_
  refine vr_i2l (pc := 1) hc dX9_luck_1 ?_
  refine vr_lconst (pc := 2) hc dX9_luck_2 (0 : Int64) (by decide) ?_
  refine vr_ldc2 (pc := 3) hc dX9_luck_3 (10 : Int64) cl_X9_242 ?_
  refine vr_cSi (pc := 6) hc dX9_luck_6 mt_X9_in sx_X9_in ml_X9_55  (w_X9_in z μ.2.1 x1.toInt64 (0 : Int64) (10 : Int64) σ rfl) rfl (by decide) rfl (Nat.le_of_ble_eq_true rfl) ?_
  refine vr_if_eq (pc := 9) hc 50 dX9_luck_9 (by decide) (fun hb1 => ?_) (fun hb1 => ?_)
  · rw [if_pos hb1] at h
    refine vr_ldc2 (pc := 50) hc dX9_luck_50 (-1 : Int64) cl_X9_252 ?_
    obtain ⟨rfl, rfl⟩ := vz_in2 h
    exact hret _ _ (vz_ret_l dX9_luck_53)
  · rw [if_neg hb1] at h
    refine vr_aload_n (pc := 12) hc dX9_luck_12 rfl ?_
    refine vr_iload_n (pc := 13) hc dX9_luck_13 rfl ?_
    refine vr_cVi (pc := 14) hc dX9_luck_14 mt_X9_isReader ml_X9_204 gc_108 (w_X9_isReader z μ.2.1 x2 σ rfl) rfl (by decide) rfl (Nat.le_of_ble_eq_true rfl) ?_
    refine vr_if_eq (pc := 17) hc 50 dX9_luck_17 (by decide) (fun hb2 => ?_) (fun hb2 => ?_)
    · rw [if_pos hb2] at h
      refine vr_ldc2 (pc := 50) hc dX9_luck_50 (-1 : Int64) cl_X9_252 ?_
      obtain ⟨rfl, rfl⟩ := vz_in2 h
      exact hret _ _ (vz_ret_l dX9_luck_53)
    · rw [if_neg hb2] at h
      refine vr_iload_n (pc := 20) hc dX9_luck_20 rfl ?_
      refine vr_cSi (pc := 21) hc dX9_luck_21 mt_X9_isNews sx_X9_isNews ml_X9_229  (w_X9_isNews z μ.2.1 x3 σ rfl) rfl (by decide) rfl (Nat.le_of_ble_eq_true rfl) ?_
      refine vr_if_eq (pc := 24) hc 50 dX9_luck_24 (by decide) (fun hb3 => ?_) (fun hb3 => ?_)
      · rw [if_pos hb3] at h
        refine vr_ldc2 (pc := 50) hc dX9_luck_50 (-1 : Int64) cl_X9_252 ?_
        obtain ⟨rfl, rfl⟩ := vz_in2 h
        exact hret _ _ (vz_ret_l dX9_luck_53)
      · rw [if_neg hb3] at h
        refine vr_iload (pc := 27) hc dX9_luck_27 rfl ?_
        refine vr_i2l (pc := 29) hc dX9_luck_29 ?_
        refine vr_lconst (pc := 30) hc dX9_luck_30 (0 : Int64) (by decide) ?_
        refine vr_lconst (pc := 31) hc dX9_luck_31 (1 : Int64) (by decide) ?_
        refine vr_cSi (pc := 32) hc dX9_luck_32 mt_X9_in sx_X9_in ml_X9_55  (w_X9_in z μ.2.1 x4.toInt64 (0 : Int64) (1 : Int64) σ rfl) rfl (by decide) rfl (Nat.le_of_ble_eq_true rfl) ?_
        refine vr_if_eq (pc := 35) hc 50 dX9_luck_35 (by decide) (fun hb4 => ?_) (fun hb4 => ?_)
        · rw [if_pos hb4] at h
          refine vr_ldc2 (pc := 50) hc dX9_luck_50 (-1 : Int64) cl_X9_252 ?_
          obtain ⟨rfl, rfl⟩ := vz_in2 h
          exact hret _ _ (vz_ret_l dX9_luck_53)
        · rw [if_neg hb4] at h
          refine vr_aload_n (pc := 38) hc dX9_luck_38 rfl ?_
          refine vr_iload_n (pc := 39) hc dX9_luck_39 rfl ?_
          refine vr_iload_n (pc := 40) hc dX9_luck_40 rfl ?_
          refine vr_iload_n (pc := 41) hc dX9_luck_41 rfl ?_
          refine vr_iload (pc := 42) hc dX9_luck_42 rfl ?_
          obtain ⟨v6, σ7, he5, h⟩ := vz_b2e h
          refine vr_cVj (pc := 44) hc dX9_luck_44 mt_X9_byHomes ml_X9_248 gc_108 (w_X9_byHomes z μ.2.1 x1 x2 x3 x4 σ he5) rfl (by decide) rfl (Nat.le_of_ble_eq_true rfl) ?_
          refine vr_goto (pc := 47) hc 53 dX9_luck_47 (by decide) ?_
          obtain ⟨rfl, rfl⟩ := vz_in2 h
          exact hret _ _ (vz_ret_l dX9_luck_53)
-- X9_mean: depth 6, effects S=True W=True P=True
def f_X9_mean (x1 : Int32) (x2 : Int32) (σ : vz_I) : Option (Int64 × vz_I) := if (f_X9_in x1.toInt64 (0 : Int64) (10 : Int64)) = 0 then some ((-1 : Int64), σ) else if (f_X9_in x2.toInt64 (0 : Int64) (1 : Int64)) = 0 then some ((-1 : Int64), σ) else vz_b2 (f_X9_byHomes x1 (-4 : Int32) (-4 : Int32) x2 σ) (fun v4 σ5 => some (v4, σ5))
set_option maxRecDepth 20000 in
set_option maxHeartbeats 1000000 in
theorem w_X9_mean (z : vz_Z) (l : Launch) (x1 : Int32) (x2 : Int32) (σ : vz_I)  {r : Int64} {σ' : vz_I} (h : f_X9_mean x1 x2 σ = some (r, σ')) : vz_Con z l 6 yX9_mean cX9_mean 3 (some .long) [.ref 108, .int x1, .int x2] vz_G0 σ vz_N0 (some (.long r)) vz_G0 σ' vz_N0 0 0 := by
  refine vz_con (by decide) (Nat.le_of_ble_eq_true rfl) (fun μ hc hl hcap hret => ?_)
  subst hl
  unfold f_X9_mean at h
  refine vr_iload_n (pc := 0) hc dX9_mean_0 rfl ?_
  refine vr_i2l (pc := 1) hc dX9_mean_1 ?_
  refine vr_lconst (pc := 2) hc dX9_mean_2 (0 : Int64) (by decide) ?_
  refine vr_ldc2 (pc := 3) hc dX9_mean_3 (10 : Int64) cl_X9_242 ?_
  refine vr_cSi (pc := 6) hc dX9_mean_6 mt_X9_in sx_X9_in ml_X9_55  (w_X9_in z μ.2.1 x1.toInt64 (0 : Int64) (10 : Int64) σ rfl) rfl (by decide) rfl (Nat.le_of_ble_eq_true rfl) ?_
  refine vr_if_eq (pc := 9) hc 35 dX9_mean_9 (by decide) (fun hb1 => ?_) (fun hb1 => ?_)
  · rw [if_pos hb1] at h
    refine vr_ldc2 (pc := 35) hc dX9_mean_35 (-1 : Int64) cl_X9_252 ?_
    obtain ⟨rfl, rfl⟩ := vz_in2 h
    exact hret _ _ (vz_ret_l dX9_mean_38)
  · rw [if_neg hb1] at h
    refine vr_iload_n (pc := 12) hc dX9_mean_12 rfl ?_
    refine vr_i2l (pc := 13) hc dX9_mean_13 ?_
    refine vr_lconst (pc := 14) hc dX9_mean_14 (0 : Int64) (by decide) ?_
    refine vr_lconst (pc := 15) hc dX9_mean_15 (1 : Int64) (by decide) ?_
    refine vr_cSi (pc := 16) hc dX9_mean_16 mt_X9_in sx_X9_in ml_X9_55  (w_X9_in z μ.2.1 x2.toInt64 (0 : Int64) (1 : Int64) σ rfl) rfl (by decide) rfl (Nat.le_of_ble_eq_true rfl) ?_
    refine vr_if_eq (pc := 19) hc 35 dX9_mean_19 (by decide) (fun hb2 => ?_) (fun hb2 => ?_)
    · rw [if_pos hb2] at h
      refine vr_ldc2 (pc := 35) hc dX9_mean_35 (-1 : Int64) cl_X9_252 ?_
      obtain ⟨rfl, rfl⟩ := vz_in2 h
      exact hret _ _ (vz_ret_l dX9_mean_38)
    · rw [if_neg hb2] at h
      refine vr_aload_n (pc := 22) hc dX9_mean_22 rfl ?_
      refine vr_iload_n (pc := 23) hc dX9_mean_23 rfl ?_
      refine vr_bipush (pc := 24) hc dX9_mean_24 (-4 : Int32) (by decide) ?_
      refine vr_bipush (pc := 26) hc dX9_mean_26 (-4 : Int32) (by decide) ?_
      refine vr_iload_n (pc := 28) hc dX9_mean_28 rfl ?_
      obtain ⟨v4, σ5, he3, h⟩ := vz_b2e h
      refine vr_cVj (pc := 29) hc dX9_mean_29 mt_X9_byHomes ml_X9_248 gc_108 (w_X9_byHomes z μ.2.1 x1 (-4 : Int32) (-4 : Int32) x2 σ he3) rfl (by decide) rfl (Nat.le_of_ble_eq_true rfl) ?_
      refine vr_goto (pc := 32) hc 38 dX9_mean_32 (by decide) ?_
      obtain ⟨rfl, rfl⟩ := vz_in2 h
      exact hret _ _ (vz_ret_l dX9_mean_38)
-- X9_kinds: depth 6, effects S=True W=True P=True
def f_X9_kinds (x1 : Int32) (σ : vz_I) : Option (Int32 × vz_I) := if (f_X9_isMan x1 σ) = 0 then some ((-1 : Int32), σ) else vz_b2 (f_X9_kindsOf x1 σ) (fun v3 σ4 => some (v3, σ4))
set_option maxRecDepth 20000 in
set_option maxHeartbeats 1000000 in
theorem w_X9_kinds (z : vz_Z) (l : Launch) (x1 : Int32) (σ : vz_I)  {r : Int32} {σ' : vz_I} (h : f_X9_kinds x1 σ = some (r, σ')) : vz_Con z l 6 yX9_kinds cX9_kinds 2 (some .int) [.ref 108, .int x1] vz_G0 σ vz_N0 (some (.int r)) vz_G0 σ' vz_N0 0 0 := by
  refine vz_con (by decide) (Nat.le_of_ble_eq_true rfl) (fun μ hc hl hcap hret => ?_)
  subst hl
  unfold f_X9_kinds at h
  refine vr_aload_n (pc := 0) hc dX9_kinds_0 rfl ?_
  refine vr_iload_n (pc := 1) hc dX9_kinds_1 rfl ?_
  refine vr_cVi (pc := 2) hc dX9_kinds_2 mt_X9_isMan ml_X9_198 gc_108 (w_X9_isMan z μ.2.1 x1 σ rfl) rfl (by decide) rfl (Nat.le_of_ble_eq_true rfl) ?_
  refine vr_if_eq (pc := 5) hc 16 dX9_kinds_5 (by decide) (fun hb1 => ?_) (fun hb1 => ?_)
  · rw [if_pos hb1] at h
    refine vr_iconst (pc := 16) hc dX9_kinds_16 (-1 : Int32) (by decide) ?_
    obtain ⟨rfl, rfl⟩ := vz_in2 h
    exact hret _ _ (vz_ret_i dX9_kinds_17 rfl)
  · rw [if_neg hb1] at h
    refine vr_aload_n (pc := 8) hc dX9_kinds_8 rfl ?_
    refine vr_iload_n (pc := 9) hc dX9_kinds_9 rfl ?_
    obtain ⟨v3, σ4, he2, h⟩ := vz_b2e h
    refine vr_cVi (pc := 10) hc dX9_kinds_10 mt_X9_kindsOf ml_X9_257 gc_108 (w_X9_kindsOf z μ.2.1 x1 σ he2) rfl (by decide) rfl (Nat.le_of_ble_eq_true rfl) ?_
    refine vr_goto (pc := 13) hc 17 dX9_kinds_13 (by decide) ?_
    obtain ⟨rfl, rfl⟩ := vz_in2 h
    exact hret _ _ (vz_ret_i dX9_kinds_17 rfl)
-- X9_ask: depth 6, effects S=True W=True P=True
def f_X9_ask_182 (k66 : Int32 → Int32 → Int32 → Int32 → Int32 → Int32 → vz_I → Option (Int32 × vz_I)) (k78 : Int32 → Int32 → Int32 → Int32 → Int32 → Int32 → Int32 → vz_I → Option (Int32 × vz_I)) (x2 : Int32) (x3 : Int32) (x4 : Int32) (x5 : Int32) (x7 : Int32) (x8 : Int32) (x10 : Int32) (xs0 : Int32) (σ : vz_I) : Option (Int32 × vz_I) := if x5 ≤ x10 then k78 x2 x3 x4 x5 xs0 x7 (x8 + (1 : Int32)) σ else k78 x2 x3 x4 x10 xs0 x7 (x8 + (1 : Int32)) σ
set_option maxRecDepth 20000 in
set_option maxHeartbeats 1000000 in
theorem wn_X9_ask_182 (z : vz_Z) (μ : vz_M) (hc : vz_C z μ cX9_ask RX9 6 11) {r : Int32} {σ' : vz_I} (hret : ∀ (pc : Nat) (L : vz_L), vz_ret cX9_ask (some .int) pc (some (.int r)) → vz_V z μ 0 0 pc L ((some (.int r)) : Option Value).toList vz_G0 σ' vz_N0) (k66 : Int32 → Int32 → Int32 → Int32 → Int32 → Int32 → vz_I → Option (Int32 × vz_I)) (k78 : Int32 → Int32 → Int32 → Int32 → Int32 → Int32 → Int32 → vz_I → Option (Int32 × vz_I)) (hk66 : ∀ (x2 : Int32) (x3 : Int32) (x4 : Int32) (x5 : Int32) (x6 : Int32) (x7 : Int32) (σ : vz_I), k66 x2 x3 x4 x5 x6 x7 σ = some (r, σ') → vz_V z μ 0 0 66 [(0, some (.ref 108)), (2, some (.int x2)), (3, some (.int x3)), (4, some (.int x4)), (5, some (.int x5)), (6, some (.int x6)), (7, some (.int x7))] [] vz_G0 σ vz_N0) (hk78 : ∀ (x2 : Int32) (x3 : Int32) (x4 : Int32) (x5 : Int32) (x6 : Int32) (x7 : Int32) (x8 : Int32) (σ : vz_I), k78 x2 x3 x4 x5 x6 x7 x8 σ = some (r, σ') → vz_V z μ 0 0 78 [(0, some (.ref 108)), (2, some (.int x2)), (3, some (.int x3)), (4, some (.int x4)), (5, some (.int x5)), (6, some (.int x6)), (7, some (.int x7)), (8, some (.int x8))] [] vz_G0 σ vz_N0) (x2 : Int32) (x3 : Int32) (x4 : Int32) (x5 : Int32) (x7 : Int32) (x8 : Int32) (x10 : Int32) (xs0 : Int32) (σ : vz_I)  (h : f_X9_ask_182 k66 k78 x2 x3 x4 x5 x7 x8 x10 xs0 σ = some (r, σ')) : vz_V z μ 0 0 182 [(0, some (.ref 108)), (2, some (.int x2)), (3, some (.int x3)), (4, some (.int x4)), (5, some (.int x5)), (7, some (.int x7)), (8, some (.int x8)), (10, some (.int x10))] [.int xs0] vz_G0 σ vz_N0 := by
  unfold f_X9_ask_182 at h
  refine vr_istore (pc := 182) hc dX9_ask_182 (by decide) rfl ?_
  refine vr_iload (pc := 184) hc dX9_ask_184 rfl ?_
  refine vr_iload (pc := 186) hc dX9_ask_186 rfl ?_
  refine vr_icmp_ge (pc := 188) hc 196 dX9_ask_188 (by decide) (fun hb14 => ?_) (fun hb14 => ?_)
  · rw [if_pos hb14] at h
    refine vr_iload (pc := 196) hc dX9_ask_196 rfl ?_
    refine vr_istore (pc := 198) hc dX9_ask_198 (by decide) rfl ?_
    refine vr_iinc (pc := 200) hc dX9_ask_200 (1 : Int32) (by decide) rfl (by decide) rfl ?_
    refine vr_goto (pc := 203) hc 78 dX9_ask_203 (by decide) ?_
    exact vz_sub (hk78 x2 x3 x4 x5 xs0 x7 (x8 + (1 : Int32)) σ  h) (vz_sb1 rfl (vz_sb1 rfl (vz_sb1 rfl (vz_sb1 rfl (vz_sb1 rfl (vz_sb1 rfl (vz_sb1 rfl (vz_sb1 rfl vz_sb0))))))))
  · rw [if_neg hb14] at h
    refine vr_iload (pc := 191) hc dX9_ask_191 rfl ?_
    refine vr_goto (pc := 193) hc 198 dX9_ask_193 (by decide) ?_
    refine vr_istore (pc := 198) hc dX9_ask_198 (by decide) rfl ?_
    refine vr_iinc (pc := 200) hc dX9_ask_200 (1 : Int32) (by decide) rfl (by decide) rfl ?_
    refine vr_goto (pc := 203) hc 78 dX9_ask_203 (by decide) ?_
    exact vz_sub (hk78 x2 x3 x4 x10 xs0 x7 (x8 + (1 : Int32)) σ  h) (vz_sb1 rfl (vz_sb1 rfl (vz_sb1 rfl (vz_sb1 rfl (vz_sb1 rfl (vz_sb1 rfl (vz_sb1 rfl (vz_sb1 rfl vz_sb0))))))))
def f_X9_ask_160 (k66 : Int32 → Int32 → Int32 → Int32 → Int32 → Int32 → vz_I → Option (Int32 × vz_I)) (k78 : Int32 → Int32 → Int32 → Int32 → Int32 → Int32 → Int32 → vz_I → Option (Int32 × vz_I)) (x2 : Int32) (x3 : Int32) (x4 : Int32) (x5 : Int32) (x6 : Int32) (x7 : Int32) (x8 : Int32) (xs0 : Int32) (σ : vz_I) : Option (Int32 × vz_I) := if x5 ≤ xs0 then f_X9_ask_182 k66 k78 x2 x3 x4 x5 x7 x8 xs0 x6 σ else f_X9_ask_182 k66 k78 x2 x3 x4 x5 x7 x8 xs0 (((100 : Int32) * x7) + x8) σ
set_option maxRecDepth 20000 in
set_option maxHeartbeats 1000000 in
theorem wn_X9_ask_160 (z : vz_Z) (μ : vz_M) (hc : vz_C z μ cX9_ask RX9 6 11) {r : Int32} {σ' : vz_I} (hret : ∀ (pc : Nat) (L : vz_L), vz_ret cX9_ask (some .int) pc (some (.int r)) → vz_V z μ 0 0 pc L ((some (.int r)) : Option Value).toList vz_G0 σ' vz_N0) (k66 : Int32 → Int32 → Int32 → Int32 → Int32 → Int32 → vz_I → Option (Int32 × vz_I)) (k78 : Int32 → Int32 → Int32 → Int32 → Int32 → Int32 → Int32 → vz_I → Option (Int32 × vz_I)) (hk66 : ∀ (x2 : Int32) (x3 : Int32) (x4 : Int32) (x5 : Int32) (x6 : Int32) (x7 : Int32) (σ : vz_I), k66 x2 x3 x4 x5 x6 x7 σ = some (r, σ') → vz_V z μ 0 0 66 [(0, some (.ref 108)), (2, some (.int x2)), (3, some (.int x3)), (4, some (.int x4)), (5, some (.int x5)), (6, some (.int x6)), (7, some (.int x7))] [] vz_G0 σ vz_N0) (hk78 : ∀ (x2 : Int32) (x3 : Int32) (x4 : Int32) (x5 : Int32) (x6 : Int32) (x7 : Int32) (x8 : Int32) (σ : vz_I), k78 x2 x3 x4 x5 x6 x7 x8 σ = some (r, σ') → vz_V z μ 0 0 78 [(0, some (.ref 108)), (2, some (.int x2)), (3, some (.int x3)), (4, some (.int x4)), (5, some (.int x5)), (6, some (.int x6)), (7, some (.int x7)), (8, some (.int x8))] [] vz_G0 σ vz_N0) (x2 : Int32) (x3 : Int32) (x4 : Int32) (x5 : Int32) (x6 : Int32) (x7 : Int32) (x8 : Int32) (xs0 : Int32) (σ : vz_I)  (h : f_X9_ask_160 k66 k78 x2 x3 x4 x5 x6 x7 x8 xs0 σ = some (r, σ')) : vz_V z μ 0 0 160 [(0, some (.ref 108)), (2, some (.int x2)), (3, some (.int x3)), (4, some (.int x4)), (5, some (.int x5)), (6, some (.int x6)), (7, some (.int x7)), (8, some (.int x8))] [.int xs0] vz_G0 σ vz_N0 := by
  unfold f_X9_ask_160 at h
  refine vr_istore (pc := 160) hc dX9_ask_160 (by decide) rfl ?_
  refine vr_iload (pc := 162) hc dX9_ask_162 rfl ?_
  refine vr_iload (pc := 164) hc dX9_ask_164 rfl ?_
  refine vr_icmp_ge (pc := 166) hc 180 dX9_ask_166 (by decide) (fun hb13 => ?_) (fun hb13 => ?_)
  · rw [if_pos hb13] at h
    refine vr_iload (pc := 180) hc dX9_ask_180 rfl ?_
    exact vz_sub (wn_X9_ask_182 z μ hc hret k66 k78 hk66 hk78 x2 x3 x4 x5 x7 x8 xs0 x6 σ h) (vz_sb1 rfl (vz_sb1 rfl (vz_sb1 rfl (vz_sb1 rfl (vz_sb1 rfl (vz_sb1 rfl (vz_sb1 rfl (vz_sb1 rfl vz_sb0))))))))
  · rw [if_neg hb13] at h
    refine vr_bipush (pc := 169) hc dX9_ask_169 (100 : Int32) (by decide) ?_
    refine vr_iload (pc := 171) hc dX9_ask_171 rfl ?_
    refine vr_imul (pc := 173) hc dX9_ask_173 ?_
    refine vr_iload (pc := 174) hc dX9_ask_174 rfl ?_
    refine vr_iadd (pc := 176) hc dX9_ask_176 ?_
    refine vr_goto (pc := 177) hc 182 dX9_ask_177 (by decide) ?_
    exact vz_sub (wn_X9_ask_182 z μ hc hret k66 k78 hk66 hk78 x2 x3 x4 x5 x7 x8 xs0 (((100 : Int32) * x7) + x8) σ h) (vz_sb1 rfl (vz_sb1 rfl (vz_sb1 rfl (vz_sb1 rfl (vz_sb1 rfl (vz_sb1 rfl (vz_sb1 rfl (vz_sb1 rfl vz_sb0))))))))
def f_X9_ask_91 (k66 : Int32 → Int32 → Int32 → Int32 → Int32 → Int32 → vz_I → Option (Int32 × vz_I)) (k78 : Int32 → Int32 → Int32 → Int32 → Int32 → Int32 → Int32 → vz_I → Option (Int32 × vz_I)) : Nat → Int32 → Int32 → Int32 → Int32 → Int32 → Int32 → Int32 → Int32 → Int32 → vz_I → Option (Int32 × vz_I)
  | 0, _, _, _, _, _, _, _, _, _, _ => none
  | n + 1, x2, x3, x4, x5, x6, x7, x8, x9, x10, σ => if (4 : Int32) ≤ x10 then if x9 ≤ (x4 - x9) then f_X9_ask_160 k66 k78 x2 x3 x4 x5 x6 x7 x8 (x4 - x9) σ else f_X9_ask_160 k66 k78 x2 x3 x4 x5 x6 x7 x8 x9 σ else if ((x3 >>> (x10 &&& 31)) &&& (1 : Int32)) = (1 : Int32) then if vz_in (((4 : Int32) * x10) + x7) 16 then if x8 < (σ 118 (((4 : Int32) * x10) + x7).toNatClampNeg) then f_X9_ask_91 k66 k78 n x2 x3 x4 x5 x6 x7 x8 (x9 + (0 : Int32)) (x10 + (1 : Int32)) σ else f_X9_ask_91 k66 k78 n x2 x3 x4 x5 x6 x7 x8 (x9 + (1 : Int32)) (x10 + (1 : Int32)) σ else none else f_X9_ask_91 k66 k78 n x2 x3 x4 x5 x6 x7 x8 (x9 + (0 : Int32)) (x10 + (1 : Int32)) σ
theorem f_X9_ask_91_s (k66 : Int32 → Int32 → Int32 → Int32 → Int32 → Int32 → vz_I → Option (Int32 × vz_I)) (k78 : Int32 → Int32 → Int32 → Int32 → Int32 → Int32 → Int32 → vz_I → Option (Int32 × vz_I)) (n : Nat) (x2 : Int32) (x3 : Int32) (x4 : Int32) (x5 : Int32) (x6 : Int32) (x7 : Int32) (x8 : Int32) (x9 : Int32) (x10 : Int32) (σ : vz_I) : f_X9_ask_91 k66 k78 (n + 1) x2 x3 x4 x5 x6 x7 x8 x9 x10 σ = if (4 : Int32) ≤ x10 then if x9 ≤ (x4 - x9) then f_X9_ask_160 k66 k78 x2 x3 x4 x5 x6 x7 x8 (x4 - x9) σ else f_X9_ask_160 k66 k78 x2 x3 x4 x5 x6 x7 x8 x9 σ else if ((x3 >>> (x10 &&& 31)) &&& (1 : Int32)) = (1 : Int32) then if vz_in (((4 : Int32) * x10) + x7) 16 then if x8 < (σ 118 (((4 : Int32) * x10) + x7).toNatClampNeg) then f_X9_ask_91 k66 k78 n x2 x3 x4 x5 x6 x7 x8 (x9 + (0 : Int32)) (x10 + (1 : Int32)) σ else f_X9_ask_91 k66 k78 n x2 x3 x4 x5 x6 x7 x8 (x9 + (1 : Int32)) (x10 + (1 : Int32)) σ else none else f_X9_ask_91 k66 k78 n x2 x3 x4 x5 x6 x7 x8 (x9 + (0 : Int32)) (x10 + (1 : Int32)) σ := rfl
set_option maxRecDepth 20000 in
set_option maxHeartbeats 1000000 in
theorem wn_X9_ask_91 (z : vz_Z) (μ : vz_M) (hc : vz_C z μ cX9_ask RX9 6 11) {r : Int32} {σ' : vz_I} (hret : ∀ (pc : Nat) (L : vz_L), vz_ret cX9_ask (some .int) pc (some (.int r)) → vz_V z μ 0 0 pc L ((some (.int r)) : Option Value).toList vz_G0 σ' vz_N0) (k66 : Int32 → Int32 → Int32 → Int32 → Int32 → Int32 → vz_I → Option (Int32 × vz_I)) (k78 : Int32 → Int32 → Int32 → Int32 → Int32 → Int32 → Int32 → vz_I → Option (Int32 × vz_I)) (hk66 : ∀ (x2 : Int32) (x3 : Int32) (x4 : Int32) (x5 : Int32) (x6 : Int32) (x7 : Int32) (σ : vz_I), k66 x2 x3 x4 x5 x6 x7 σ = some (r, σ') → vz_V z μ 0 0 66 [(0, some (.ref 108)), (2, some (.int x2)), (3, some (.int x3)), (4, some (.int x4)), (5, some (.int x5)), (6, some (.int x6)), (7, some (.int x7))] [] vz_G0 σ vz_N0) (hk78 : ∀ (x2 : Int32) (x3 : Int32) (x4 : Int32) (x5 : Int32) (x6 : Int32) (x7 : Int32) (x8 : Int32) (σ : vz_I), k78 x2 x3 x4 x5 x6 x7 x8 σ = some (r, σ') → vz_V z μ 0 0 78 [(0, some (.ref 108)), (2, some (.int x2)), (3, some (.int x3)), (4, some (.int x4)), (5, some (.int x5)), (6, some (.int x6)), (7, some (.int x7)), (8, some (.int x8))] [] vz_G0 σ vz_N0) : ∀ (n : Nat) (x2 : Int32) (x3 : Int32) (x4 : Int32) (x5 : Int32) (x6 : Int32) (x7 : Int32) (x8 : Int32) (x9 : Int32) (x10 : Int32) (σ : vz_I)  (h : f_X9_ask_91 k66 k78 n x2 x3 x4 x5 x6 x7 x8 x9 x10 σ = some (r, σ')), vz_V z μ 0 0 91 [(0, some (.ref 108)), (2, some (.int x2)), (3, some (.int x3)), (4, some (.int x4)), (5, some (.int x5)), (6, some (.int x6)), (7, some (.int x7)), (8, some (.int x8)), (9, some (.int x9)), (10, some (.int x10))] [] vz_G0 σ vz_N0 := by
  intro n
  induction n with
  | zero =>
    intro x2 x3 x4 x5 x6 x7 x8 x9 x10 σ h
    cases h
  | succ n ih =>
    intro x2 x3 x4 x5 x6 x7 x8 x9 x10 σ h
    rw [f_X9_ask_91_s] at h
    refine vr_iload (pc := 91) hc dX9_ask_91 rfl ?_
    refine vr_iconst (pc := 93) hc dX9_ask_93 (4 : Int32) (by decide) ?_
    refine vr_icmp_ge (pc := 94) hc 140 dX9_ask_94 (by decide) (fun hb11 => ?_) (fun hb11 => ?_)
    · rw [if_pos hb11] at h
      refine vr_iload (pc := 140) hc dX9_ask_140 rfl ?_
      refine vr_iload (pc := 142) hc dX9_ask_142 rfl ?_
      refine vr_iload (pc := 144) hc dX9_ask_144 rfl ?_
      refine vr_isub (pc := 146) hc dX9_ask_146 ?_
      refine vr_icmp_le (pc := 147) hc 155 dX9_ask_147 (by decide) (fun hb12 => ?_) (fun hb12 => ?_)
      · rw [if_pos hb12] at h
        refine vr_iload (pc := 155) hc dX9_ask_155 rfl ?_
        refine vr_iload (pc := 157) hc dX9_ask_157 rfl ?_
        refine vr_isub (pc := 159) hc dX9_ask_159 ?_
        exact vz_sub (wn_X9_ask_160 z μ hc hret k66 k78 hk66 hk78 x2 x3 x4 x5 x6 x7 x8 (x4 - x9) σ h) (vz_sb1 rfl (vz_sb1 rfl (vz_sb1 rfl (vz_sb1 rfl (vz_sb1 rfl (vz_sb1 rfl (vz_sb1 rfl (vz_sb1 rfl vz_sb0))))))))
      · rw [if_neg hb12] at h
        refine vr_iload (pc := 150) hc dX9_ask_150 rfl ?_
        refine vr_goto (pc := 152) hc 160 dX9_ask_152 (by decide) ?_
        exact vz_sub (wn_X9_ask_160 z μ hc hret k66 k78 hk66 hk78 x2 x3 x4 x5 x6 x7 x8 x9 σ h) (vz_sb1 rfl (vz_sb1 rfl (vz_sb1 rfl (vz_sb1 rfl (vz_sb1 rfl (vz_sb1 rfl (vz_sb1 rfl (vz_sb1 rfl vz_sb0))))))))
    · rw [if_neg hb11] at h
      refine vr_iload (pc := 97) hc dX9_ask_97 rfl ?_
      refine vr_iload_n (pc := 99) hc dX9_ask_99 rfl ?_
      refine vr_iload (pc := 100) hc dX9_ask_100 rfl ?_
      refine vr_ishr (pc := 102) hc dX9_ask_102 ?_
      refine vr_iconst (pc := 103) hc dX9_ask_103 (1 : Int32) (by decide) ?_
      refine vr_iand (pc := 104) hc dX9_ask_104 ?_
      refine vr_iconst (pc := 105) hc dX9_ask_105 (1 : Int32) (by decide) ?_
      refine vr_icmp_ne (pc := 106) hc 130 dX9_ask_106 (by decide) (fun hb15 => ?_) (fun hb15 => ?_)
      · rw [if_neg hb15] at h
        refine vr_iconst (pc := 130) hc dX9_ask_130 (0 : Int32) (by decide) ?_
        refine vr_iadd (pc := 131) hc dX9_ask_131 ?_
        refine vr_istore (pc := 132) hc dX9_ask_132 (by decide) rfl ?_
        refine vr_iinc (pc := 134) hc dX9_ask_134 (1 : Int32) (by decide) rfl (by decide) rfl ?_
        refine vr_goto (pc := 137) hc 91 dX9_ask_137 (by decide) ?_
        exact vz_sub (ih x2 x3 x4 x5 x6 x7 x8 (x9 + (0 : Int32)) (x10 + (1 : Int32)) σ  h) (vz_sb1 rfl (vz_sb1 rfl (vz_sb1 rfl (vz_sb1 rfl (vz_sb1 rfl (vz_sb1 rfl (vz_sb1 rfl (vz_sb1 rfl (vz_sb1 rfl (vz_sb1 rfl vz_sb0))))))))))
      · rw [if_pos hb15] at h
        refine vr_aload_n (pc := 109) hc dX9_ask_109 rfl ?_
        refine vr_getR (pc := 110) hc dX9_ask_110 fl_X9_37 gc_108 (gr_9_25 gc_108).1 ?_
        refine vr_iconst (pc := 113) hc dX9_ask_113 (4 : Int32) (by decide) ?_
        refine vr_iload (pc := 114) hc dX9_ask_114 rfl ?_
        refine vr_imul (pc := 116) hc dX9_ask_116 ?_
        refine vr_iload (pc := 117) hc dX9_ask_117 rfl ?_
        refine vr_iadd (pc := 119) hc dX9_ask_119 ?_
        have hb16 := vz_ifp h
        rw [if_pos hb16] at h
        refine vr_iald (pc := 120) hc 16 dX9_ask_120 ((gr_9_25 gc_108).2.1) ((gr_9_25 gc_108).2.2) (vz_in_vp hb16) ?_
        refine vr_iload (pc := 121) hc dX9_ask_121 rfl ?_
        refine vr_icmp_gt (pc := 123) hc 130 dX9_ask_123 (by decide) (fun hb17 => ?_) (fun hb17 => ?_)
        · rw [if_pos hb17] at h
          refine vr_iconst (pc := 130) hc dX9_ask_130 (0 : Int32) (by decide) ?_
          refine vr_iadd (pc := 131) hc dX9_ask_131 ?_
          refine vr_istore (pc := 132) hc dX9_ask_132 (by decide) rfl ?_
          refine vr_iinc (pc := 134) hc dX9_ask_134 (1 : Int32) (by decide) rfl (by decide) rfl ?_
          refine vr_goto (pc := 137) hc 91 dX9_ask_137 (by decide) ?_
          exact vz_sub (ih x2 x3 x4 x5 x6 x7 x8 (x9 + (0 : Int32)) (x10 + (1 : Int32)) σ  h) (vz_sb1 rfl (vz_sb1 rfl (vz_sb1 rfl (vz_sb1 rfl (vz_sb1 rfl (vz_sb1 rfl (vz_sb1 rfl (vz_sb1 rfl (vz_sb1 rfl (vz_sb1 rfl vz_sb0))))))))))
        · rw [if_neg hb17] at h
          refine vr_iconst (pc := 126) hc dX9_ask_126 (1 : Int32) (by decide) ?_
          refine vr_goto (pc := 127) hc 131 dX9_ask_127 (by decide) ?_
          refine vr_iadd (pc := 131) hc dX9_ask_131 ?_
          refine vr_istore (pc := 132) hc dX9_ask_132 (by decide) rfl ?_
          refine vr_iinc (pc := 134) hc dX9_ask_134 (1 : Int32) (by decide) rfl (by decide) rfl ?_
          refine vr_goto (pc := 137) hc 91 dX9_ask_137 (by decide) ?_
          exact vz_sub (ih x2 x3 x4 x5 x6 x7 x8 (x9 + (1 : Int32)) (x10 + (1 : Int32)) σ  h) (vz_sb1 rfl (vz_sb1 rfl (vz_sb1 rfl (vz_sb1 rfl (vz_sb1 rfl (vz_sb1 rfl (vz_sb1 rfl (vz_sb1 rfl (vz_sb1 rfl (vz_sb1 rfl vz_sb0))))))))))
def f_X9_ask_78 (k66 : Int32 → Int32 → Int32 → Int32 → Int32 → Int32 → vz_I → Option (Int32 × vz_I)) : Nat → Int32 → Int32 → Int32 → Int32 → Int32 → Int32 → Int32 → vz_I → Option (Int32 × vz_I)
  | 0, _, _, _, _, _, _, _, _ => none
  | n + 1, x2, x3, x4, x5, x6, x7, x8, σ => if (60 : Int32) ≤ x8 then k66 x2 x3 x4 x5 x6 (x7 + (1 : Int32)) σ else f_X9_ask_91 k66 (f_X9_ask_78 k66 n) vz_fu x2 x3 x4 x5 x6 x7 x8 (0 : Int32) (0 : Int32) σ
theorem f_X9_ask_78_s (k66 : Int32 → Int32 → Int32 → Int32 → Int32 → Int32 → vz_I → Option (Int32 × vz_I)) (n : Nat) (x2 : Int32) (x3 : Int32) (x4 : Int32) (x5 : Int32) (x6 : Int32) (x7 : Int32) (x8 : Int32) (σ : vz_I) : f_X9_ask_78 k66 (n + 1) x2 x3 x4 x5 x6 x7 x8 σ = if (60 : Int32) ≤ x8 then k66 x2 x3 x4 x5 x6 (x7 + (1 : Int32)) σ else f_X9_ask_91 k66 (f_X9_ask_78 k66 n) vz_fu x2 x3 x4 x5 x6 x7 x8 (0 : Int32) (0 : Int32) σ := rfl
set_option maxRecDepth 20000 in
set_option maxHeartbeats 1000000 in
theorem wn_X9_ask_78 (z : vz_Z) (μ : vz_M) (hc : vz_C z μ cX9_ask RX9 6 11) {r : Int32} {σ' : vz_I} (hret : ∀ (pc : Nat) (L : vz_L), vz_ret cX9_ask (some .int) pc (some (.int r)) → vz_V z μ 0 0 pc L ((some (.int r)) : Option Value).toList vz_G0 σ' vz_N0) (k66 : Int32 → Int32 → Int32 → Int32 → Int32 → Int32 → vz_I → Option (Int32 × vz_I)) (hk66 : ∀ (x2 : Int32) (x3 : Int32) (x4 : Int32) (x5 : Int32) (x6 : Int32) (x7 : Int32) (σ : vz_I), k66 x2 x3 x4 x5 x6 x7 σ = some (r, σ') → vz_V z μ 0 0 66 [(0, some (.ref 108)), (2, some (.int x2)), (3, some (.int x3)), (4, some (.int x4)), (5, some (.int x5)), (6, some (.int x6)), (7, some (.int x7))] [] vz_G0 σ vz_N0) : ∀ (n : Nat) (x2 : Int32) (x3 : Int32) (x4 : Int32) (x5 : Int32) (x6 : Int32) (x7 : Int32) (x8 : Int32) (σ : vz_I)  (h : f_X9_ask_78 k66 n x2 x3 x4 x5 x6 x7 x8 σ = some (r, σ')), vz_V z μ 0 0 78 [(0, some (.ref 108)), (2, some (.int x2)), (3, some (.int x3)), (4, some (.int x4)), (5, some (.int x5)), (6, some (.int x6)), (7, some (.int x7)), (8, some (.int x8))] [] vz_G0 σ vz_N0 := by
  intro n
  induction n with
  | zero =>
    intro x2 x3 x4 x5 x6 x7 x8 σ h
    cases h
  | succ n ih =>
    intro x2 x3 x4 x5 x6 x7 x8 σ h
    rw [f_X9_ask_78_s] at h
    refine vr_iload (pc := 78) hc dX9_ask_78 rfl ?_
    refine vr_bipush (pc := 80) hc dX9_ask_80 (60 : Int32) (by decide) ?_
    refine vr_icmp_ge (pc := 82) hc 206 dX9_ask_82 (by decide) (fun hb10 => ?_) (fun hb10 => ?_)
    · rw [if_pos hb10] at h
      refine vr_iinc (pc := 206) hc dX9_ask_206 (1 : Int32) (by decide) rfl (by decide) rfl ?_
      refine vr_goto (pc := 209) hc 66 dX9_ask_209 (by decide) ?_
      exact vz_sub (hk66 x2 x3 x4 x5 x6 (x7 + (1 : Int32)) σ  h) (vz_sb1 rfl (vz_sb1 rfl (vz_sb1 rfl (vz_sb1 rfl (vz_sb1 rfl (vz_sb1 rfl (vz_sb1 rfl vz_sb0)))))))
    · rw [if_neg hb10] at h
      refine vr_iconst (pc := 85) hc dX9_ask_85 (0 : Int32) (by decide) ?_
      refine vr_istore (pc := 86) hc dX9_ask_86 (by decide) rfl ?_
      refine vr_iconst (pc := 88) hc dX9_ask_88 (0 : Int32) (by decide) ?_
      refine vr_istore (pc := 89) hc dX9_ask_89 (by decide) rfl ?_
      exact vz_sub (wn_X9_ask_91 z μ hc hret k66 (f_X9_ask_78 k66 n) hk66 ih vz_fu x2 x3 x4 x5 x6 x7 x8 (0 : Int32) (0 : Int32) σ h) (vz_sb1 rfl (vz_sb1 rfl (vz_sb1 rfl (vz_sb1 rfl (vz_sb1 rfl (vz_sb1 rfl (vz_sb1 rfl (vz_sb1 rfl (vz_sb1 rfl (vz_sb1 rfl vz_sb0))))))))))
def f_X9_ask_66 : Nat → Int32 → Int32 → Int32 → Int32 → Int32 → Int32 → vz_I → Option (Int32 × vz_I)
  | 0, _, _, _, _, _, _, _ => none
  | n + 1, x2, x3, x4, x5, x6, x7, σ => if (σ 108 2) ≤ x7 then if x6 = (-4 : Int32) then some (x6, σ) else if x2 = 0 then some (x6, σ) else some (x5, σ) else f_X9_ask_78 (f_X9_ask_66 n) vz_fu x2 x3 x4 x5 x6 x7 (0 : Int32) σ
theorem f_X9_ask_66_s (n : Nat) (x2 : Int32) (x3 : Int32) (x4 : Int32) (x5 : Int32) (x6 : Int32) (x7 : Int32) (σ : vz_I) : f_X9_ask_66  (n + 1) x2 x3 x4 x5 x6 x7 σ = if (σ 108 2) ≤ x7 then if x6 = (-4 : Int32) then some (x6, σ) else if x2 = 0 then some (x6, σ) else some (x5, σ) else f_X9_ask_78 (f_X9_ask_66 n) vz_fu x2 x3 x4 x5 x6 x7 (0 : Int32) σ := rfl
set_option maxRecDepth 20000 in
set_option maxHeartbeats 1000000 in
theorem wn_X9_ask_66 (z : vz_Z) (μ : vz_M) (hc : vz_C z μ cX9_ask RX9 6 11) {r : Int32} {σ' : vz_I} (hret : ∀ (pc : Nat) (L : vz_L), vz_ret cX9_ask (some .int) pc (some (.int r)) → vz_V z μ 0 0 pc L ((some (.int r)) : Option Value).toList vz_G0 σ' vz_N0) : ∀ (n : Nat) (x2 : Int32) (x3 : Int32) (x4 : Int32) (x5 : Int32) (x6 : Int32) (x7 : Int32) (σ : vz_I)  (h : f_X9_ask_66  n x2 x3 x4 x5 x6 x7 σ = some (r, σ')), vz_V z μ 0 0 66 [(0, some (.ref 108)), (2, some (.int x2)), (3, some (.int x3)), (4, some (.int x4)), (5, some (.int x5)), (6, some (.int x6)), (7, some (.int x7))] [] vz_G0 σ vz_N0 := by
  intro n
  induction n with
  | zero =>
    intro x2 x3 x4 x5 x6 x7 σ h
    cases h
  | succ n ih =>
    intro x2 x3 x4 x5 x6 x7 σ h
    rw [f_X9_ask_66_s] at h
    refine vr_iload (pc := 66) hc dX9_ask_66 rfl ?_
    refine vr_aload_n (pc := 68) hc dX9_ask_68 rfl ?_
    refine vr_getI (pc := 69) hc dX9_ask_69 fl_X9_153 gc_108 (gi_9_2 gc_108) ?_
    refine vr_icmp_ge (pc := 72) hc 212 dX9_ask_72 (by decide) (fun hb7 => ?_) (fun hb7 => ?_)
    · rw [if_pos hb7] at h
      refine vr_iload (pc := 212) hc dX9_ask_212 rfl ?_
      refine vr_bipush (pc := 214) hc dX9_ask_214 (-4 : Int32) (by decide) ?_
      refine vr_icmp_eq (pc := 216) hc 223 dX9_ask_216 (by decide) (fun hb8 => ?_) (fun hb8 => ?_)
      · rw [if_pos hb8] at h
        refine vr_iload (pc := 223) hc dX9_ask_223 rfl ?_
        refine vr_goto (pc := 225) hc 230 dX9_ask_225 (by decide) ?_
        obtain ⟨rfl, rfl⟩ := vz_in2 h
        exact hret _ _ (vz_ret_i dX9_ask_230 rfl)
      · rw [if_neg hb8] at h
        refine vr_iload_n (pc := 219) hc dX9_ask_219 rfl ?_
        refine vr_if_ne (pc := 220) hc 228 dX9_ask_220 (by decide) (fun hb9 => ?_) (fun hb9 => ?_)
        · rw [if_neg hb9] at h
          refine vr_iload (pc := 228) hc dX9_ask_228 rfl ?_
          obtain ⟨rfl, rfl⟩ := vz_in2 h
          exact hret _ _ (vz_ret_i dX9_ask_230 rfl)
        · rw [if_pos hb9] at h
          refine vr_iload (pc := 223) hc dX9_ask_223 rfl ?_
          refine vr_goto (pc := 225) hc 230 dX9_ask_225 (by decide) ?_
          obtain ⟨rfl, rfl⟩ := vz_in2 h
          exact hret _ _ (vz_ret_i dX9_ask_230 rfl)
    · rw [if_neg hb7] at h
      refine vr_iconst (pc := 75) hc dX9_ask_75 (0 : Int32) (by decide) ?_
      refine vr_istore (pc := 76) hc dX9_ask_76 (by decide) rfl ?_
      exact vz_sub (wn_X9_ask_78 z μ hc hret (f_X9_ask_66 n) ih vz_fu x2 x3 x4 x5 x6 x7 (0 : Int32) σ h) (vz_sb1 rfl (vz_sb1 rfl (vz_sb1 rfl (vz_sb1 rfl (vz_sb1 rfl (vz_sb1 rfl (vz_sb1 rfl (vz_sb1 rfl vz_sb0))))))))
def f_X9_ask_32 : Nat → Int32 → Int32 → Int32 → Int32 → vz_I → Option (Int32 × vz_I)
  | 0, _, _, _, _, _ => none
  | n + 1, x2, x3, x4, x5, σ => if (4 : Int32) ≤ x5 then f_X9_ask_66 vz_fu x2 x3 x4 x4 (-4 : Int32) (0 : Int32) σ else f_X9_ask_32 n x2 x3 (x4 + ((x3 >>> (x5 &&& 31)) &&& (1 : Int32))) (x5 + (1 : Int32)) σ
theorem f_X9_ask_32_s (n : Nat) (x2 : Int32) (x3 : Int32) (x4 : Int32) (x5 : Int32) (σ : vz_I) : f_X9_ask_32  (n + 1) x2 x3 x4 x5 σ = if (4 : Int32) ≤ x5 then f_X9_ask_66 vz_fu x2 x3 x4 x4 (-4 : Int32) (0 : Int32) σ else f_X9_ask_32 n x2 x3 (x4 + ((x3 >>> (x5 &&& 31)) &&& (1 : Int32))) (x5 + (1 : Int32)) σ := rfl
set_option maxRecDepth 20000 in
set_option maxHeartbeats 1000000 in
theorem wn_X9_ask_32 (z : vz_Z) (μ : vz_M) (hc : vz_C z μ cX9_ask RX9 6 11) {r : Int32} {σ' : vz_I} (hret : ∀ (pc : Nat) (L : vz_L), vz_ret cX9_ask (some .int) pc (some (.int r)) → vz_V z μ 0 0 pc L ((some (.int r)) : Option Value).toList vz_G0 σ' vz_N0) : ∀ (n : Nat) (x2 : Int32) (x3 : Int32) (x4 : Int32) (x5 : Int32) (σ : vz_I)  (h : f_X9_ask_32  n x2 x3 x4 x5 σ = some (r, σ')), vz_V z μ 0 0 32 [(0, some (.ref 108)), (2, some (.int x2)), (3, some (.int x3)), (4, some (.int x4)), (5, some (.int x5))] [] vz_G0 σ vz_N0 := by
  intro n
  induction n with
  | zero =>
    intro x2 x3 x4 x5 σ h
    cases h
  | succ n ih =>
    intro x2 x3 x4 x5 σ h
    rw [f_X9_ask_32_s] at h
    refine vr_iload (pc := 32) hc dX9_ask_32 rfl ?_
    refine vr_iconst (pc := 34) hc dX9_ask_34 (4 : Int32) (by decide) ?_
    refine vr_icmp_ge (pc := 35) hc 55 dX9_ask_35 (by decide) (fun hb6 => ?_) (fun hb6 => ?_)
    · rw [if_pos hb6] at h
      refine vr_iload (pc := 55) hc dX9_ask_55 rfl ?_
      refine vr_istore (pc := 57) hc dX9_ask_57 (by decide) rfl ?_
      refine vr_bipush (pc := 59) hc dX9_ask_59 (-4 : Int32) (by decide) ?_
      refine vr_istore (pc := 61) hc dX9_ask_61 (by decide) rfl ?_
      refine vr_iconst (pc := 63) hc dX9_ask_63 (0 : Int32) (by decide) ?_
      refine vr_istore (pc := 64) hc dX9_ask_64 (by decide) rfl ?_
      exact vz_sub (wn_X9_ask_66 z μ hc hret vz_fu x2 x3 x4 x4 (-4 : Int32) (0 : Int32) σ h) (vz_sb1 rfl (vz_sb1 rfl (vz_sb1 rfl (vz_sb1 rfl (vz_sb1 rfl (vz_sb1 rfl (vz_sb1 rfl vz_sb0)))))))
    · rw [if_neg hb6] at h
      refine vr_iload (pc := 38) hc dX9_ask_38 rfl ?_
      refine vr_iload_n (pc := 40) hc dX9_ask_40 rfl ?_
      refine vr_iload (pc := 41) hc dX9_ask_41 rfl ?_
      refine vr_ishr (pc := 43) hc dX9_ask_43 ?_
      refine vr_iconst (pc := 44) hc dX9_ask_44 (1 : Int32) (by decide) ?_
      refine vr_iand (pc := 45) hc dX9_ask_45 ?_
      refine vr_iadd (pc := 46) hc dX9_ask_46 ?_
      refine vr_istore (pc := 47) hc dX9_ask_47 (by decide) rfl ?_
      refine vr_iinc (pc := 49) hc dX9_ask_49 (1 : Int32) (by decide) rfl (by decide) rfl ?_
      refine vr_goto (pc := 52) hc 32 dX9_ask_52 (by decide) ?_
      exact vz_sub (ih x2 x3 (x4 + ((x3 >>> (x5 &&& 31)) &&& (1 : Int32))) (x5 + (1 : Int32)) σ  h) (vz_sb1 rfl (vz_sb1 rfl (vz_sb1 rfl (vz_sb1 rfl (vz_sb1 rfl vz_sb0)))))
def f_X9_ask (x1 : Int32) (x2 : Int32) (σ : vz_I) : Option (Int32 × vz_I) := if (f_X9_isMan x1 σ) = 0 then some ((-1 : Int32), σ) else if (f_X9_in x2.toInt64 (0 : Int64) (1 : Int64)) = 0 then some ((-1 : Int32), σ) else vz_b2 (f_X9_kindsOf x1 σ) (fun v4 σ5 => f_X9_ask_32 vz_fu x2 v4 (0 : Int32) (0 : Int32) σ5)
set_option maxRecDepth 20000 in
set_option maxHeartbeats 1000000 in
theorem w_X9_ask (z : vz_Z) (l : Launch) (x1 : Int32) (x2 : Int32) (σ : vz_I)  {r : Int32} {σ' : vz_I} (h : f_X9_ask x1 x2 σ = some (r, σ')) : vz_Con z l 6 yX9_ask cX9_ask 11 (some .int) [.ref 108, .int x1, .int x2] vz_G0 σ vz_N0 (some (.int r)) vz_G0 σ' vz_N0 0 0 := by
  refine vz_con (by decide) (Nat.le_of_ble_eq_true rfl) (fun μ hc hl hcap hret => ?_)
  subst hl
  unfold f_X9_ask at h
  refine vr_aload_n (pc := 0) hc dX9_ask_0 rfl ?_
  refine vr_iload_n (pc := 1) hc dX9_ask_1 rfl ?_
  refine vr_cVi (pc := 2) hc dX9_ask_2 mt_X9_isMan ml_X9_198 gc_108 (w_X9_isMan z μ.2.1 x1 σ rfl) rfl (by decide) rfl (Nat.le_of_ble_eq_true rfl) ?_
  refine vr_if_eq (pc := 5) hc 18 dX9_ask_5 (by decide) (fun hb1 => ?_) (fun hb1 => ?_)
  · rw [if_pos hb1] at h
    refine vr_iconst (pc := 18) hc dX9_ask_18 (-1 : Int32) (by decide) ?_
    obtain ⟨rfl, rfl⟩ := vz_in2 h
    exact hret _ _ (vz_ret_i dX9_ask_19 rfl)
  · rw [if_neg hb1] at h
    refine vr_iload_n (pc := 8) hc dX9_ask_8 rfl ?_
    refine vr_i2l (pc := 9) hc dX9_ask_9 ?_
    refine vr_lconst (pc := 10) hc dX9_ask_10 (0 : Int64) (by decide) ?_
    refine vr_lconst (pc := 11) hc dX9_ask_11 (1 : Int64) (by decide) ?_
    refine vr_cSi (pc := 12) hc dX9_ask_12 mt_X9_in sx_X9_in ml_X9_55  (w_X9_in z μ.2.1 x2.toInt64 (0 : Int64) (1 : Int64) σ rfl) rfl (by decide) rfl (Nat.le_of_ble_eq_true rfl) ?_
    refine vr_if_ne (pc := 15) hc 20 dX9_ask_15 (by decide) (fun hb2 => ?_) (fun hb2 => ?_)
    · rw [if_neg hb2] at h
      refine vr_aload_n (pc := 20) hc dX9_ask_20 rfl ?_
      refine vr_iload_n (pc := 21) hc dX9_ask_21 rfl ?_
      obtain ⟨v4, σ5, he3, h⟩ := vz_b2e h
      refine vr_cVi (pc := 22) hc dX9_ask_22 mt_X9_kindsOf ml_X9_257 gc_108 (w_X9_kindsOf z μ.2.1 x1 σ he3) rfl (by decide) rfl (Nat.le_of_ble_eq_true rfl) ?_
      refine vr_istore_n (pc := 25) hc dX9_ask_25 (by decide) rfl ?_
      refine vr_iconst (pc := 26) hc dX9_ask_26 (0 : Int32) (by decide) ?_
      refine vr_istore (pc := 27) hc dX9_ask_27 (by decide) rfl ?_
      refine vr_iconst (pc := 29) hc dX9_ask_29 (0 : Int32) (by decide) ?_
      refine vr_istore (pc := 30) hc dX9_ask_30 (by decide) rfl ?_
      exact vz_sub (wn_X9_ask_32 z μ hc hret vz_fu x2 v4 (0 : Int32) (0 : Int32) σ5 h) (vz_sb1 rfl (vz_sb1 rfl (vz_sb1 rfl (vz_sb1 rfl (vz_sb1 rfl vz_sb0)))))
    · rw [if_pos hb2] at h
      refine vr_iconst (pc := 18) hc dX9_ask_18 (-1 : Int32) (by decide) ?_
      obtain ⟨rfl, rfl⟩ := vz_in2 h
      exact hret _ _ (vz_ret_i dX9_ask_19 rfl)
-- X6_readAll: depth 7, effects S=True W=True P=True
def f_X6_readAll_101 (x1 : Int32) (x2 : Int32) (σ : vz_I) : Option (Int32 × vz_I) := if x2 = 0 then some ((-4 : Int32), σ) else some (x1, σ)
set_option maxRecDepth 20000 in
set_option maxHeartbeats 1000000 in
theorem wn_X6_readAll_101 (z : vz_Z) (μ : vz_M) (hc : vz_C z μ cX6_readAll RX6 7 3) {r : Int32} {σ' : vz_I} (hret : ∀ (pc : Nat) (L : vz_L), vz_ret cX6_readAll (some .int) pc (some (.int r)) → vz_V z μ 0 0 pc L ((some (.int r)) : Option Value).toList vz_G0 σ' vz_N0) (x1 : Int32) (x2 : Int32) (σ : vz_I)  (h : f_X6_readAll_101  x1 x2 σ = some (r, σ')) : vz_V z μ 0 0 101 [(1, some (.int x1)), (2, some (.int x2))] [] vz_G0 σ vz_N0 := by
  unfold f_X6_readAll_101 at h
  refine vr_iload_n (pc := 101) hc dX6_readAll_101 rfl ?_
  refine vr_if_eq (pc := 102) hc 109 dX6_readAll_102 (by decide) (fun hb8 => ?_) (fun hb8 => ?_)
  · rw [if_pos hb8] at h
    refine vr_bipush (pc := 109) hc dX6_readAll_109 (-4 : Int32) (by decide) ?_
    obtain ⟨rfl, rfl⟩ := vz_in2 h
    exact hret _ _ (vz_ret_i dX6_readAll_111 rfl)
  · rw [if_neg hb8] at h
    refine vr_iload_n (pc := 105) hc dX6_readAll_105 rfl ?_
    refine vr_goto (pc := 106) hc 111 dX6_readAll_106 (by decide) ?_
    obtain ⟨rfl, rfl⟩ := vz_in2 h
    exact hret _ _ (vz_ret_i dX6_readAll_111 rfl)
def f_X6_readAll_73 (x1 : Int32) (x2 : Int32) (σ : vz_I) : Option (Int32 × vz_I) := if x2 = 0 then f_X6_readAll_101 x1 x2 σ else vz_b1 (f_X7_canAllWalk 4 σ) (fun v10 => if v10 = 0 then vz_c2 (f_X6_refuse (6 : Int32) (σ 2 0) σ) (fun v14 σ15 => f_X6_readAll_101 x1 v14 σ15) else f_X6_readAll_101 x1 x2 σ)
set_option maxRecDepth 20000 in
set_option maxHeartbeats 1000000 in
theorem wn_X6_readAll_73 (z : vz_Z) (μ : vz_M) (hc : vz_C z μ cX6_readAll RX6 7 3) {r : Int32} {σ' : vz_I} (hret : ∀ (pc : Nat) (L : vz_L), vz_ret cX6_readAll (some .int) pc (some (.int r)) → vz_V z μ 0 0 pc L ((some (.int r)) : Option Value).toList vz_G0 σ' vz_N0) (x1 : Int32) (x2 : Int32) (σ : vz_I)  (h : f_X6_readAll_73  x1 x2 σ = some (r, σ')) : vz_V z μ 0 0 73 [(0, some (.ref 1)), (1, some (.int x1)), (2, some (.int x2))] [] vz_G0 σ vz_N0 := by
  unfold f_X6_readAll_73 at h
  refine vr_iload_n (pc := 73) hc dX6_readAll_73 rfl ?_
  refine vr_if_eq (pc := 74) hc 101 dX6_readAll_74 (by decide) (fun hb7 => ?_) (fun hb7 => ?_)
  · rw [if_pos hb7] at h
    exact vz_sub (wn_X6_readAll_101 z μ hc hret x1 x2 σ h) (vz_sb1 rfl (vz_sb1 rfl vz_sb0))
  · rw [if_neg hb7] at h
    refine vr_aload_n (pc := 77) hc dX6_readAll_77 rfl ?_
    refine vr_getR (pc := 78) hc dX6_readAll_78 fl_X6_21 gc_1 (gr_6_1 gc_1).1 ?_
    obtain ⟨v10, he9, h⟩ := vz_b1e h
    refine vr_cVi (pc := 81) hc dX6_readAll_81 mt_X7_canAllWalk ml_X6_49 ((gr_6_1 gc_1).2.1) (w_X7_canAllWalk z μ.2.1 4 σ ((gr_6_1 gc_1).2.1) he9) rfl (by decide) rfl (Nat.le_of_ble_eq_true rfl) ?_
    refine vr_if_ne (pc := 84) hc 101 dX6_readAll_84 (by decide) (fun hb12 => ?_) (fun hb12 => ?_)
    · rw [if_neg hb12] at h
      exact vz_sub (wn_X6_readAll_101 z μ hc hret x1 x2 σ h) (vz_sb1 rfl (vz_sb1 rfl vz_sb0))
    · rw [if_pos hb12] at h
      refine vr_aload_n (pc := 87) hc dX6_readAll_87 rfl ?_
      refine vr_bipush (pc := 88) hc dX6_readAll_88 (6 : Int32) (by decide) ?_
      refine vr_aload_n (pc := 90) hc dX6_readAll_90 rfl ?_
      refine vr_getR (pc := 91) hc dX6_readAll_91 fl_X6_12 gc_1 (gr_6_0 gc_1).1 ?_
      refine vr_getI (pc := 94) hc dX6_readAll_94 fl_X6_52 ((gr_6_0 gc_1).2.1) (gi_5_0 ((gr_6_0 gc_1).2.1)) ?_
      obtain ⟨v14, σ15, he13⟩ : ∃ x s, f_X6_refuse (6 : Int32) (σ 2 0) σ = (x, s) := ⟨_, _, rfl⟩
      rw [he13] at h
      rw [vz_c2_e] at h
      refine vr_cVi (pc := 97) hc dX6_readAll_97 mt_X6_refuse ml_X6_55 gc_1 (w_X6_refuse z μ.2.1 (6 : Int32) (σ 2 0) σ he13) rfl (by decide) rfl (Nat.le_of_ble_eq_true rfl) ?_
      refine vr_istore_n (pc := 100) hc dX6_readAll_100 (by decide) rfl ?_
      exact vz_sub (wn_X6_readAll_101 z μ hc hret x1 v14 σ15 h) (vz_sb1 rfl (vz_sb1 rfl vz_sb0))
def f_X6_readAll_29 : Nat → Int32 → Int32 → vz_I → Option (Int32 × vz_I)
  | 0, _, _, _ => none
  | n + 1, x1, x2, σ => if x2 = 0 then f_X6_readAll_73 x1 x2 σ else if (σ 1 3) = 0 then f_X6_readAll_73 x1 x2 σ else if (160 : Int32) ≤ x1 then f_X6_readAll_73 x1 x2 σ else vz_b2 (f_X6_readLine  σ) (fun v19 σ20 => if v19 = 0 then f_X6_readAll_29 n (x1 + (1 : Int32)) (0 : Int32) σ20 else vz_b2 (f_X6_readToken  σ20) (fun v23 σ24 => if v23 = 0 then f_X6_readAll_29 n (x1 + (1 : Int32)) (0 : Int32) σ24 else f_X6_readAll_29 n (x1 + (1 : Int32)) (1 : Int32) σ24))
theorem f_X6_readAll_29_s (n : Nat) (x1 : Int32) (x2 : Int32) (σ : vz_I) : f_X6_readAll_29  (n + 1) x1 x2 σ = if x2 = 0 then f_X6_readAll_73 x1 x2 σ else if (σ 1 3) = 0 then f_X6_readAll_73 x1 x2 σ else if (160 : Int32) ≤ x1 then f_X6_readAll_73 x1 x2 σ else vz_b2 (f_X6_readLine  σ) (fun v19 σ20 => if v19 = 0 then f_X6_readAll_29 n (x1 + (1 : Int32)) (0 : Int32) σ20 else vz_b2 (f_X6_readToken  σ20) (fun v23 σ24 => if v23 = 0 then f_X6_readAll_29 n (x1 + (1 : Int32)) (0 : Int32) σ24 else f_X6_readAll_29 n (x1 + (1 : Int32)) (1 : Int32) σ24)) := rfl
set_option maxRecDepth 20000 in
set_option maxHeartbeats 1000000 in
theorem wn_X6_readAll_29 (z : vz_Z) (μ : vz_M) (hc : vz_C z μ cX6_readAll RX6 7 3) {r : Int32} {σ' : vz_I} (hret : ∀ (pc : Nat) (L : vz_L), vz_ret cX6_readAll (some .int) pc (some (.int r)) → vz_V z μ 0 0 pc L ((some (.int r)) : Option Value).toList vz_G0 σ' vz_N0) : ∀ (n : Nat) (x1 : Int32) (x2 : Int32) (σ : vz_I)  (h : f_X6_readAll_29  n x1 x2 σ = some (r, σ')), vz_V z μ 0 0 29 [(0, some (.ref 1)), (1, some (.int x1)), (2, some (.int x2))] [] vz_G0 σ vz_N0 := by
  intro n
  induction n with
  | zero =>
    intro x1 x2 σ h
    cases h
  | succ n ih =>
    intro x1 x2 σ h
    rw [f_X6_readAll_29_s] at h
    refine vr_iload_n (pc := 29) hc dX6_readAll_29 rfl ?_
    refine vr_if_eq (pc := 30) hc 73 dX6_readAll_30 (by decide) (fun hb6 => ?_) (fun hb6 => ?_)
    · rw [if_pos hb6] at h
      exact vz_sub (wn_X6_readAll_73 z μ hc hret x1 x2 σ h) (vz_sb1 rfl (vz_sb1 rfl (vz_sb1 rfl vz_sb0)))
    · rw [if_neg hb6] at h
      refine vr_aload_n (pc := 33) hc dX6_readAll_33 rfl ?_
      refine vr_getI (pc := 34) hc dX6_readAll_34 fl_X6_43 gc_1 (gi_6_3 gc_1) ?_
      refine vr_if_eq (pc := 37) hc 73 dX6_readAll_37 (by decide) (fun hb16 => ?_) (fun hb16 => ?_)
      · rw [if_pos hb16] at h
        exact vz_sub (wn_X6_readAll_73 z μ hc hret x1 x2 σ h) (vz_sb1 rfl (vz_sb1 rfl (vz_sb1 rfl vz_sb0)))
      · rw [if_neg hb16] at h
        refine vr_iload_n (pc := 40) hc dX6_readAll_40 rfl ?_
        refine vr_sipush (pc := 41) hc dX6_readAll_41 (160 : Int32) (by decide) ?_
        refine vr_icmp_ge (pc := 44) hc 73 dX6_readAll_44 (by decide) (fun hb17 => ?_) (fun hb17 => ?_)
        · rw [if_pos hb17] at h
          exact vz_sub (wn_X6_readAll_73 z μ hc hret x1 x2 σ h) (vz_sb1 rfl (vz_sb1 rfl (vz_sb1 rfl vz_sb0)))
        · rw [if_neg hb17] at h
          refine vr_iinc (pc := 47) hc dX6_readAll_47 (1 : Int32) (by decide) rfl (by decide) rfl ?_
          refine vr_aload_n (pc := 50) hc dX6_readAll_50 rfl ?_
          obtain ⟨v19, σ20, he18, h⟩ := vz_b2e h
          refine vr_cVi (pc := 51) hc dX6_readAll_51 mt_X6_readLine ml_X6_46 gc_1 (w_X6_readLine z μ.2.1  σ he18) rfl (by decide) rfl (Nat.le_of_ble_eq_true rfl) ?_
          refine vr_if_eq (pc := 54) hc 68 dX6_readAll_54 (by decide) (fun hb21 => ?_) (fun hb21 => ?_)
          · rw [if_pos hb21] at h
            refine vr_iconst (pc := 68) hc dX6_readAll_68 (0 : Int32) (by decide) ?_
            refine vr_istore_n (pc := 69) hc dX6_readAll_69 (by decide) rfl ?_
            refine vr_goto (pc := 70) hc 29 dX6_readAll_70 (by decide) ?_
            exact vz_sub (ih (x1 + (1 : Int32)) (0 : Int32) σ20  h) (vz_sb1 rfl (vz_sb1 rfl (vz_sb1 rfl vz_sb0)))
          · rw [if_neg hb21] at h
            refine vr_aload_n (pc := 57) hc dX6_readAll_57 rfl ?_
            obtain ⟨v23, σ24, he22, h⟩ := vz_b2e h
            refine vr_cVi (pc := 58) hc dX6_readAll_58 mt_X6_readToken ml_X6_39 gc_1 (w_X6_readToken z μ.2.1  σ20 he22) rfl (by decide) rfl (Nat.le_of_ble_eq_true rfl) ?_
            refine vr_if_eq (pc := 61) hc 68 dX6_readAll_61 (by decide) (fun hb25 => ?_) (fun hb25 => ?_)
            · rw [if_pos hb25] at h
              refine vr_iconst (pc := 68) hc dX6_readAll_68 (0 : Int32) (by decide) ?_
              refine vr_istore_n (pc := 69) hc dX6_readAll_69 (by decide) rfl ?_
              refine vr_goto (pc := 70) hc 29 dX6_readAll_70 (by decide) ?_
              exact vz_sub (ih (x1 + (1 : Int32)) (0 : Int32) σ24  h) (vz_sb1 rfl (vz_sb1 rfl (vz_sb1 rfl vz_sb0)))
            · rw [if_neg hb25] at h
              refine vr_iconst (pc := 64) hc dX6_readAll_64 (1 : Int32) (by decide) ?_
              refine vr_goto (pc := 65) hc 69 dX6_readAll_65 (by decide) ?_
              refine vr_istore_n (pc := 69) hc dX6_readAll_69 (by decide) rfl ?_
              refine vr_goto (pc := 70) hc 29 dX6_readAll_70 (by decide) ?_
              exact vz_sub (ih (x1 + (1 : Int32)) (1 : Int32) σ24  h) (vz_sb1 rfl (vz_sb1 rfl (vz_sb1 rfl vz_sb0)))
def f_X6_readAll  (σ : vz_I) : Option (Int32 × vz_I) := vz_let (vz_up (vz_up (vz_up σ 1 7 (0 : Int32)) 1 2 (0 : Int32)) 1 6 (0 : Int32)) (fun σ1 => vz_b2 (f_X6_readToken  (f_X7_clear 4 σ1)) (fun v4 σ5 => f_X6_readAll_29 vz_fu (0 : Int32) v4 σ5))
set_option maxRecDepth 20000 in
set_option maxHeartbeats 1000000 in
theorem w_X6_readAll (z : vz_Z) (l : Launch)  (σ : vz_I)  {r : Int32} {σ' : vz_I} (h : f_X6_readAll  σ = some (r, σ')) : vz_Con z l 7 yX6_readAll cX6_readAll 3 (some .int) [.ref 1] vz_G0 σ vz_N0 (some (.int r)) vz_G0 σ' vz_N0 0 0 := by
  refine vz_con (by decide) (Nat.le_of_ble_eq_true rfl) (fun μ hc hl hcap hret => ?_)
  subst hl
  unfold f_X6_readAll at h
  refine vr_aload_n (pc := 0) hc dX6_readAll_0 rfl ?_
  refine vr_iconst (pc := 1) hc dX6_readAll_1 (0 : Int32) (by decide) ?_
  refine vr_putI (pc := 2) hc dX6_readAll_2 fl_X6_25 gc_1 (gi_6_7 gc_1) rfl rfl ?_
  refine vr_aload_n (pc := 5) hc dX6_readAll_5 rfl ?_
  refine vr_iconst (pc := 6) hc dX6_readAll_6 (0 : Int32) (by decide) ?_
  refine vr_putI (pc := 7) hc dX6_readAll_7 fl_X6_29 gc_1 (gi_6_2 gc_1) rfl rfl ?_
  refine vr_aload_n (pc := 10) hc dX6_readAll_10 rfl ?_
  refine vr_iconst (pc := 11) hc dX6_readAll_11 (0 : Int32) (by decide) ?_
  refine vr_putI (pc := 12) hc dX6_readAll_12 fl_X6_32 gc_1 (gi_6_6 gc_1) (by decide) (by decide) ?_
  obtain ⟨σ1, hσ2⟩ : ∃ x, x = vz_up (vz_up (vz_up σ 1 7 (0 : Int32)) 1 2 (0 : Int32)) 1 6 (0 : Int32) := ⟨_, rfl⟩
  rw [← hσ2] at h ⊢
  rw [vz_let_e] at h
  refine vr_aload_n (pc := 15) hc dX6_readAll_15 rfl ?_
  refine vr_getR (pc := 16) hc dX6_readAll_16 fl_X6_21 gc_1 (gr_6_1 gc_1).1 ?_
  refine vr_cVv (pc := 19) hc dX6_readAll_19 mt_X7_clear ml_X6_36 ((gr_6_1 gc_1).2.1) (w_X7_clear z μ.2.1 4 σ1 ((gr_6_1 gc_1).2.1) rfl) rfl (by decide) rfl (Nat.le_of_ble_eq_true rfl) ?_
  refine vr_iconst (pc := 22) hc dX6_readAll_22 (0 : Int32) (by decide) ?_
  refine vr_istore_n (pc := 23) hc dX6_readAll_23 (by decide) rfl ?_
  refine vr_aload_n (pc := 24) hc dX6_readAll_24 rfl ?_
  obtain ⟨v4, σ5, he3, h⟩ := vz_b2e h
  refine vr_cVi (pc := 25) hc dX6_readAll_25 mt_X6_readToken ml_X6_39 gc_1 (w_X6_readToken z μ.2.1  (f_X7_clear 4 σ1) he3) rfl (by decide) rfl (Nat.le_of_ble_eq_true rfl) ?_
  refine vr_istore_n (pc := 28) hc dX6_readAll_28 (by decide) rfl ?_
  exact vz_sub (wn_X6_readAll_29 z μ hc hret vz_fu (0 : Int32) v4 σ5 h) (vz_sb1 rfl (vz_sb1 rfl (vz_sb1 rfl vz_sb0)))
-- X8_text: depth 8, effects S=True W=True P=True
def f_X8_text_60 : Nat → Int32 → Int32 → vz_I → Option (Int32 × vz_I)
  | 0, _, _, _ => none
  | n + 1, x1, x2, σ => if (2 : Int32) ≤ x2 then some (x1, σ) else if vz_in x2 2 then f_X8_text_60 n x1 (x2 + (1 : Int32)) (vz_up σ 56 x2.toNatClampNeg ((0 : Int32) &&& 1)) else none
theorem f_X8_text_60_s (n : Nat) (x1 : Int32) (x2 : Int32) (σ : vz_I) : f_X8_text_60  (n + 1) x1 x2 σ = if (2 : Int32) ≤ x2 then some (x1, σ) else if vz_in x2 2 then f_X8_text_60 n x1 (x2 + (1 : Int32)) (vz_up σ 56 x2.toNatClampNeg ((0 : Int32) &&& 1)) else none := rfl
set_option maxRecDepth 20000 in
set_option maxHeartbeats 1000000 in
theorem wn_X8_text_60 (z : vz_Z) (μ : vz_M) (hc : vz_C z μ cX8_text RX8 8 3) {r : Int32} {σ' : vz_I} (hret : ∀ (pc : Nat) (L : vz_L), vz_ret cX8_text (some .int) pc (some (.int r)) → vz_V z μ 0 0 pc L ((some (.int r)) : Option Value).toList vz_G0 σ' vz_N0) : ∀ (n : Nat) (x1 : Int32) (x2 : Int32) (σ : vz_I)  (h : f_X8_text_60  n x1 x2 σ = some (r, σ')), vz_V z μ 0 0 60 [(0, some (.ref 0)), (1, some (.int x1)), (2, some (.int x2))] [] vz_G0 σ vz_N0 := by
  intro n
  induction n with
  | zero =>
    intro x1 x2 σ h
    cases h
  | succ n ih =>
    intro x1 x2 σ h
    rw [f_X8_text_60_s] at h
    refine vr_iload_n (pc := 60) hc dX8_text_60 rfl ?_
    refine vr_iconst (pc := 61) hc dX8_text_61 (2 : Int32) (by decide) ?_
    refine vr_icmp_ge (pc := 62) hc 78 dX8_text_62 (by decide) (fun hb8 => ?_) (fun hb8 => ?_)
    · rw [if_pos hb8] at h
      refine vr_iload_n (pc := 78) hc dX8_text_78 rfl ?_
      obtain ⟨rfl, rfl⟩ := vz_in2 h
      exact hret _ _ (vz_ret_i dX8_text_79 rfl)
    · rw [if_neg hb8] at h
      refine vr_aload_n (pc := 65) hc dX8_text_65 rfl ?_
      refine vr_getR (pc := 66) hc dX8_text_66 fl_X8_30 gc_0 (gr_8_4 gc_0).1 ?_
      refine vr_iload_n (pc := 69) hc dX8_text_69 rfl ?_
      refine vr_iconst (pc := 70) hc dX8_text_70 (0 : Int32) (by decide) ?_
      have hb9 := vz_ifp h
      rw [if_pos hb9] at h
      refine vr_zast (pc := 71) hc 2 dX8_text_71 ((gr_8_4 gc_0).2.1) ((gr_8_4 gc_0).2.2) (vz_in_vp hb9) ?_
      refine vr_iinc (pc := 72) hc dX8_text_72 (1 : Int32) (by decide) rfl (by decide) rfl ?_
      refine vr_goto (pc := 75) hc 60 dX8_text_75 (by decide) ?_
      exact vz_sub (ih x1 (x2 + (1 : Int32)) (vz_up σ 56 x2.toNatClampNeg ((0 : Int32) &&& 1))  h) (vz_sb1 rfl (vz_sb1 rfl (vz_sb1 rfl vz_sb0)))
def f_X8_text  (σ : vz_I) : Option (Int32 × vz_I) := vz_b2 (f_X6_readAll  σ) (fun v2 σ3 => if v2 = (-4 : Int32) then some ((-10 : Int32) - ((vz_up σ3 2 0 (0 : Int32)) 1 8), vz_up σ3 2 0 (0 : Int32)) else vz_b1 (f_X7_copyFrom 21 4 (vz_up σ3 2 0 (0 : Int32))) (fun σ7 => f_X8_text_60 vz_fu v2 (0 : Int32) (vz_up σ7 57 0 (0 : Int32))))
set_option maxRecDepth 20000 in
set_option maxHeartbeats 1000000 in
theorem w_X8_text (z : vz_Z) (l : Launch)  (σ : vz_I)  {r : Int32} {σ' : vz_I} (h : f_X8_text  σ = some (r, σ')) : vz_Con z l 8 yX8_text cX8_text 3 (some .int) [.ref 0] vz_G0 σ vz_N0 (some (.int r)) vz_G0 σ' vz_N0 0 0 := by
  refine vz_con (by decide) (Nat.le_of_ble_eq_true rfl) (fun μ hc hl hcap hret => ?_)
  subst hl
  unfold f_X8_text at h
  refine vr_aload_n (pc := 0) hc dX8_text_0 rfl ?_
  refine vr_getR (pc := 1) hc dX8_text_1 fl_X8_12 gc_0 (gr_8_0 gc_0).1 ?_
  obtain ⟨v2, σ3, he1, h⟩ := vz_b2e h
  refine vr_cVi (pc := 4) hc dX8_text_4 mt_X6_readAll ml_X8_87 ((gr_8_0 gc_0).2.1) (w_X6_readAll z μ.2.1  σ he1) rfl (by decide) rfl (Nat.le_of_ble_eq_true rfl) ?_
  refine vr_istore_n (pc := 7) hc dX8_text_7 (by decide) rfl ?_
  refine vr_aload_n (pc := 8) hc dX8_text_8 rfl ?_
  refine vr_getR (pc := 9) hc dX8_text_9 fl_X8_12 gc_0 (gr_8_0 gc_0).1 ?_
  refine vr_getR (pc := 12) hc dX8_text_12 fl_X8_74 ((gr_8_0 gc_0).2.1) (gr_6_0 ((gr_8_0 gc_0).2.1)).1 ?_
  refine vr_iconst (pc := 15) hc dX8_text_15 (0 : Int32) (by decide) ?_
  refine vr_putI (pc := 16) hc dX8_text_16 fl_X8_84 ((gr_6_0 ((gr_8_0 gc_0).2.1)).2.1) (gi_5_0 ((gr_6_0 ((gr_8_0 gc_0).2.1)).2.1)) rfl rfl ?_
  refine vr_iload_n (pc := 19) hc dX8_text_19 rfl ?_
  refine vr_bipush (pc := 20) hc dX8_text_20 (-4 : Int32) (by decide) ?_
  refine vr_icmp_ne (pc := 22) hc 36 dX8_text_22 (by decide) (fun hb4 => ?_) (fun hb4 => ?_)
  · rw [if_neg hb4] at h
    refine vr_aload_n (pc := 36) hc dX8_text_36 rfl ?_
    refine vr_getR (pc := 37) hc dX8_text_37 fl_X8_19 gc_0 (gr_8_1 gc_0).1 ?_
    refine vr_aload_n (pc := 40) hc dX8_text_40 rfl ?_
    refine vr_getR (pc := 41) hc dX8_text_41 fl_X8_12 gc_0 (gr_8_0 gc_0).1 ?_
    refine vr_getR (pc := 44) hc dX8_text_44 fl_X8_94 ((gr_8_0 gc_0).2.1) (gr_6_1 ((gr_8_0 gc_0).2.1)).1 ?_
    obtain ⟨σ7, he5, h⟩ := vz_b1e h
    refine vr_cVv (pc := 47) hc dX8_text_47 mt_X7_copyFrom ml_X8_97 ((gr_8_1 gc_0).2.1) (w_X7_copyFrom z μ.2.1 21 4 (vz_up σ3 2 0 (0 : Int32)) ((gr_8_1 gc_0).2.1) ((gr_6_1 ((gr_8_0 gc_0).2.1)).2.1) he5) rfl (by decide) rfl (Nat.le_of_ble_eq_true rfl) ?_
    refine vr_aload_n (pc := 50) hc dX8_text_50 rfl ?_
    refine vr_getR (pc := 51) hc dX8_text_51 fl_X8_37 gc_0 (gr_8_5 gc_0).1 ?_
    refine vr_iconst (pc := 54) hc dX8_text_54 (0 : Int32) (by decide) ?_
    refine vr_putI (pc := 55) hc dX8_text_55 fl_X8_101 ((gr_8_5 gc_0).2.1) (gi_1_0 ((gr_8_5 gc_0).2.1)) rfl rfl ?_
    refine vr_iconst (pc := 58) hc dX8_text_58 (0 : Int32) (by decide) ?_
    refine vr_istore_n (pc := 59) hc dX8_text_59 (by decide) rfl ?_
    exact vz_sub (wn_X8_text_60 z μ hc hret vz_fu v2 (0 : Int32) (vz_up σ7 57 0 (0 : Int32)) h) (vz_sb1 rfl (vz_sb1 rfl (vz_sb1 rfl vz_sb0)))
  · rw [if_pos hb4] at h
    refine vr_bipush (pc := 25) hc dX8_text_25 (-10 : Int32) (by decide) ?_
    refine vr_aload_n (pc := 27) hc dX8_text_27 rfl ?_
    refine vr_getR (pc := 28) hc dX8_text_28 fl_X8_12 gc_0 (gr_8_0 gc_0).1 ?_
    refine vr_getI (pc := 31) hc dX8_text_31 fl_X8_91 ((gr_8_0 gc_0).2.1) (gi_6_8 ((gr_8_0 gc_0).2.1)) ?_
    refine vr_isub (pc := 34) hc dX8_text_34 ?_
    obtain ⟨rfl, rfl⟩ := vz_in2 h
    exact hret _ _ (vz_ret_i dX8_text_35 rfl)
