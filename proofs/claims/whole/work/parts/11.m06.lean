-- X8_swap: depth 5, effects S=True W=True P=True
def f_X8_swap_53 (k38 : Int32 → Int32 → vz_I → Option (Int32 × vz_I)) : Nat → Int32 → Int32 → Int32 → vz_I → Option (Int32 × vz_I)
  | 0, _, _, _, _ => none
  | n + 1, x1, x2, x3, σ => if (σ 38 0) ≤ x3 then k38 x1 (x2 + (1 : Int32)) σ else vz_b1 (f_X7_changePlanks 38 x2 x3 σ) (fun σ12 => vz_b1 (f_X7_pairs 38 (15 : Int32) σ12) (fun v14 => vz_b1 (f_X7_changePlanks 38 x2 x3 (f_X2_offer (((10 : Int32) * x2) + x3) v14 σ12)) (fun σ18 => f_X8_swap_53 k38 n x1 x2 (x3 + (1 : Int32)) σ18)))
theorem f_X8_swap_53_s (k38 : Int32 → Int32 → vz_I → Option (Int32 × vz_I)) (n : Nat) (x1 : Int32) (x2 : Int32) (x3 : Int32) (σ : vz_I) : f_X8_swap_53 k38 (n + 1) x1 x2 x3 σ = if (σ 38 0) ≤ x3 then k38 x1 (x2 + (1 : Int32)) σ else vz_b1 (f_X7_changePlanks 38 x2 x3 σ) (fun σ12 => vz_b1 (f_X7_pairs 38 (15 : Int32) σ12) (fun v14 => vz_b1 (f_X7_changePlanks 38 x2 x3 (f_X2_offer (((10 : Int32) * x2) + x3) v14 σ12)) (fun σ18 => f_X8_swap_53 k38 n x1 x2 (x3 + (1 : Int32)) σ18))) := rfl
set_option maxRecDepth 20000 in
set_option maxHeartbeats 1000000 in
theorem wn_X8_swap_53 (z : vz_Z) (μ : vz_M) (hc : vz_C z μ cX8_swap RX8 5 4) {r : Int32} {σ' : vz_I} (hret : ∀ (pc : Nat) (L : vz_L), vz_ret cX8_swap (some .int) pc (some (.int r)) → vz_V z μ 0 0 pc L ((some (.int r)) : Option Value).toList vz_G0 σ' vz_N0) (k38 : Int32 → Int32 → vz_I → Option (Int32 × vz_I)) (hk38 : ∀ (x1 : Int32) (x2 : Int32) (σ : vz_I), k38 x1 x2 σ = some (r, σ') → vz_V z μ 0 0 38 [(0, some (.ref 0)), (1, some (.int x1)), (2, some (.int x2))] [] vz_G0 σ vz_N0) : ∀ (n : Nat) (x1 : Int32) (x2 : Int32) (x3 : Int32) (σ : vz_I)  (h : f_X8_swap_53 k38 n x1 x2 x3 σ = some (r, σ')), vz_V z μ 0 0 53 [(0, some (.ref 0)), (1, some (.int x1)), (2, some (.int x2)), (3, some (.int x3))] [] vz_G0 σ vz_N0 := by
  intro n
  induction n with
  | zero =>
    intro x1 x2 x3 σ h
    cases h
  | succ n ih =>
    intro x1 x2 x3 σ h
    rw [f_X8_swap_53_s] at h
    refine vr_iload_n (pc := 53) hc dX8_swap_53 rfl ?_
    refine vr_aload_n (pc := 54) hc dX8_swap_54 rfl ?_
    refine vr_getR (pc := 55) hc dX8_swap_55 fl_X8_23 gc_0 (gr_8_2 gc_0).1 ?_
    refine vr_getI (pc := 58) hc dX8_swap_58 fl_X8_107 ((gr_8_2 gc_0).2.1) (gi_7_0 ((gr_8_2 gc_0).2.1)) ?_
    refine vr_icmp_ge (pc := 61) hc 110 dX8_swap_61 (by decide) (fun hb9 => ?_) (fun hb9 => ?_)
    · rw [if_pos hb9] at h
      refine vr_iinc (pc := 110) hc dX8_swap_110 (1 : Int32) (by decide) rfl (by decide) rfl ?_
      refine vr_goto (pc := 113) hc 38 dX8_swap_113 (by decide) ?_
      exact vz_sub (hk38 x1 (x2 + (1 : Int32)) σ  h) (vz_sb1 rfl (vz_sb1 rfl (vz_sb1 rfl vz_sb0)))
    · rw [if_neg hb9] at h
      refine vr_aload_n (pc := 64) hc dX8_swap_64 rfl ?_
      refine vr_getR (pc := 65) hc dX8_swap_65 fl_X8_23 gc_0 (gr_8_2 gc_0).1 ?_
      refine vr_iload_n (pc := 68) hc dX8_swap_68 rfl ?_
      refine vr_iload_n (pc := 69) hc dX8_swap_69 rfl ?_
      obtain ⟨σ12, he10, h⟩ := vz_b1e h
      refine vr_cVv (pc := 70) hc dX8_swap_70 mt_X7_changePlanks ml_X8_274 ((gr_8_2 gc_0).2.1) (w_X7_changePlanks z μ.2.1 38 x2 x3 σ ((gr_8_2 gc_0).2.1) he10) rfl (by decide) rfl (Nat.le_of_ble_eq_true rfl) ?_
      refine vr_aload_n (pc := 73) hc dX8_swap_73 rfl ?_
      refine vr_getR (pc := 74) hc dX8_swap_74 fl_X8_57 gc_0 (gr_8_8 gc_0).1 ?_
      refine vr_bipush (pc := 77) hc dX8_swap_77 (10 : Int32) (by decide) ?_
      refine vr_iload_n (pc := 79) hc dX8_swap_79 rfl ?_
      refine vr_imul (pc := 80) hc dX8_swap_80 ?_
      refine vr_iload_n (pc := 81) hc dX8_swap_81 rfl ?_
      refine vr_iadd (pc := 82) hc dX8_swap_82 ?_
      refine vr_aload_n (pc := 83) hc dX8_swap_83 rfl ?_
      refine vr_getR (pc := 84) hc dX8_swap_84 fl_X8_23 gc_0 (gr_8_2 gc_0).1 ?_
      refine vr_bipush (pc := 87) hc dX8_swap_87 (15 : Int32) (by decide) ?_
      obtain ⟨v14, he13, h⟩ := vz_b1e h
      refine vr_cVi (pc := 89) hc dX8_swap_89 mt_X7_pairs ml_X8_122 ((gr_8_2 gc_0).2.1) (w_X7_pairs z μ.2.1 38 (15 : Int32) σ12 ((gr_8_2 gc_0).2.1) he13) rfl (by decide) rfl (Nat.le_of_ble_eq_true rfl) ?_
      refine vr_cVv (pc := 92) hc dX8_swap_92 mt_X2_offer ml_X8_255 ((gr_8_8 gc_0).2.1) (w_X2_offer z μ.2.1 (((10 : Int32) * x2) + x3) v14 σ12 rfl) rfl (by decide) rfl (Nat.le_of_ble_eq_true rfl) ?_
      refine vr_aload_n (pc := 95) hc dX8_swap_95 rfl ?_
      refine vr_getR (pc := 96) hc dX8_swap_96 fl_X8_23 gc_0 (gr_8_2 gc_0).1 ?_
      refine vr_iload_n (pc := 99) hc dX8_swap_99 rfl ?_
      refine vr_iload_n (pc := 100) hc dX8_swap_100 rfl ?_
      obtain ⟨σ18, he16, h⟩ := vz_b1e h
      refine vr_cVv (pc := 101) hc dX8_swap_101 mt_X7_changePlanks ml_X8_274 ((gr_8_2 gc_0).2.1) (w_X7_changePlanks z μ.2.1 38 x2 x3 (f_X2_offer (((10 : Int32) * x2) + x3) v14 σ12) ((gr_8_2 gc_0).2.1) he16) rfl (by decide) rfl (Nat.le_of_ble_eq_true rfl) ?_
      refine vr_iinc (pc := 104) hc dX8_swap_104 (1 : Int32) (by decide) rfl (by decide) rfl ?_
      refine vr_goto (pc := 107) hc 53 dX8_swap_107 (by decide) ?_
      exact vz_sub (ih x1 x2 (x3 + (1 : Int32)) σ18  h) (vz_sb1 rfl (vz_sb1 rfl (vz_sb1 rfl (vz_sb1 rfl vz_sb0))))
def f_X8_swap_38 : Nat → Int32 → Int32 → vz_I → Option (Int32 × vz_I)
  | 0, _, _, _ => none
  | n + 1, x1, x2, σ => if (σ 38 0) ≤ x2 then some (f_X2_told x1 σ, σ) else f_X8_swap_53 (f_X8_swap_38 n) vz_fu x1 x2 (x2 + (1 : Int32)) σ
theorem f_X8_swap_38_s (n : Nat) (x1 : Int32) (x2 : Int32) (σ : vz_I) : f_X8_swap_38  (n + 1) x1 x2 σ = if (σ 38 0) ≤ x2 then some (f_X2_told x1 σ, σ) else f_X8_swap_53 (f_X8_swap_38 n) vz_fu x1 x2 (x2 + (1 : Int32)) σ := rfl
set_option maxRecDepth 20000 in
set_option maxHeartbeats 1000000 in
theorem wn_X8_swap_38 (z : vz_Z) (μ : vz_M) (hc : vz_C z μ cX8_swap RX8 5 4) {r : Int32} {σ' : vz_I} (hret : ∀ (pc : Nat) (L : vz_L), vz_ret cX8_swap (some .int) pc (some (.int r)) → vz_V z μ 0 0 pc L ((some (.int r)) : Option Value).toList vz_G0 σ' vz_N0) : ∀ (n : Nat) (x1 : Int32) (x2 : Int32) (σ : vz_I)  (h : f_X8_swap_38  n x1 x2 σ = some (r, σ')), vz_V z μ 0 0 38 [(0, some (.ref 0)), (1, some (.int x1)), (2, some (.int x2))] [] vz_G0 σ vz_N0 := by
  intro n
  induction n with
  | zero =>
    intro x1 x2 σ h
    cases h
  | succ n ih =>
    intro x1 x2 σ h
    rw [f_X8_swap_38_s] at h
    refine vr_iload_n (pc := 38) hc dX8_swap_38 rfl ?_
    refine vr_aload_n (pc := 39) hc dX8_swap_39 rfl ?_
    refine vr_getR (pc := 40) hc dX8_swap_40 fl_X8_23 gc_0 (gr_8_2 gc_0).1 ?_
    refine vr_getI (pc := 43) hc dX8_swap_43 fl_X8_107 ((gr_8_2 gc_0).2.1) (gi_7_0 ((gr_8_2 gc_0).2.1)) ?_
    refine vr_icmp_ge (pc := 46) hc 116 dX8_swap_46 (by decide) (fun hb8 => ?_) (fun hb8 => ?_)
    · rw [if_pos hb8] at h
      refine vr_aload_n (pc := 116) hc dX8_swap_116 rfl ?_
      refine vr_getR (pc := 117) hc dX8_swap_117 fl_X8_57 gc_0 (gr_8_8 gc_0).1 ?_
      refine vr_iload_n (pc := 120) hc dX8_swap_120 rfl ?_
      refine vr_cVi (pc := 121) hc dX8_swap_121 mt_X2_told ml_X8_258 ((gr_8_8 gc_0).2.1) (w_X2_told z μ.2.1 x1 σ rfl) rfl (by decide) rfl (Nat.le_of_ble_eq_true rfl) ?_
      obtain ⟨rfl, rfl⟩ := vz_in2 h
      exact hret _ _ (vz_ret_i dX8_swap_124 rfl)
    · rw [if_neg hb8] at h
      refine vr_iload_n (pc := 49) hc dX8_swap_49 rfl ?_
      refine vr_iconst (pc := 50) hc dX8_swap_50 (1 : Int32) (by decide) ?_
      refine vr_iadd (pc := 51) hc dX8_swap_51 ?_
      refine vr_istore_n (pc := 52) hc dX8_swap_52 (by decide) rfl ?_
      exact vz_sub (wn_X8_swap_53 z μ hc hret (f_X8_swap_38 n) ih vz_fu x1 x2 (x2 + (1 : Int32)) σ h) (vz_sb1 rfl (vz_sb1 rfl (vz_sb1 rfl (vz_sb1 rfl vz_sb0))))
def f_X8_swap (x1 : Int32) (σ : vz_I) : Option (Int32 × vz_I) := if (f_X8_isEither x1) = 0 then some ((-1 : Int32), σ) else vz_b1 (f_X7_copyFrom 38 21 σ) (fun σ4 => vz_b1 (f_X7_pairs 21 (15 : Int32) σ4) (fun v6 => f_X8_swap_38 vz_fu x1 (0 : Int32) (f_X2_restart v6 σ4)))
set_option maxRecDepth 20000 in
set_option maxHeartbeats 1000000 in
theorem w_X8_swap (z : vz_Z) (l : Launch) (x1 : Int32) (σ : vz_I)  {r : Int32} {σ' : vz_I} (h : f_X8_swap x1 σ = some (r, σ')) : vz_Con z l 5 yX8_swap cX8_swap 4 (some .int) [.ref 0, .int x1] vz_G0 σ vz_N0 (some (.int r)) vz_G0 σ' vz_N0 0 0 := by
  refine vz_con (by decide) (Nat.le_of_ble_eq_true rfl) (fun μ hc hl hcap hret => ?_)
  subst hl
  unfold f_X8_swap at h
  refine vr_iload_n (pc := 0) hc dX8_swap_0 rfl ?_
  refine vr_cSi (pc := 1) hc dX8_swap_1 mt_X8_isEither sx_X8_isEither ml_X8_160  (w_X8_isEither z μ.2.1 x1 σ rfl) rfl (by decide) rfl (Nat.le_of_ble_eq_true rfl) ?_
  refine vr_if_ne (pc := 4) hc 9 dX8_swap_4 (by decide) (fun hb1 => ?_) (fun hb1 => ?_)
  · rw [if_neg hb1] at h
    refine vr_aload_n (pc := 9) hc dX8_swap_9 rfl ?_
    refine vr_getR (pc := 10) hc dX8_swap_10 fl_X8_23 gc_0 (gr_8_2 gc_0).1 ?_
    refine vr_aload_n (pc := 13) hc dX8_swap_13 rfl ?_
    refine vr_getR (pc := 14) hc dX8_swap_14 fl_X8_19 gc_0 (gr_8_1 gc_0).1 ?_
    obtain ⟨σ4, he2, h⟩ := vz_b1e h
    refine vr_cVv (pc := 17) hc dX8_swap_17 mt_X7_copyFrom ml_X8_97 ((gr_8_2 gc_0).2.1) (w_X7_copyFrom z μ.2.1 38 21 σ ((gr_8_2 gc_0).2.1) ((gr_8_1 gc_0).2.1) he2) rfl (by decide) rfl (Nat.le_of_ble_eq_true rfl) ?_
    refine vr_aload_n (pc := 20) hc dX8_swap_20 rfl ?_
    refine vr_getR (pc := 21) hc dX8_swap_21 fl_X8_57 gc_0 (gr_8_8 gc_0).1 ?_
    refine vr_aload_n (pc := 24) hc dX8_swap_24 rfl ?_
    refine vr_getR (pc := 25) hc dX8_swap_25 fl_X8_19 gc_0 (gr_8_1 gc_0).1 ?_
    refine vr_bipush (pc := 28) hc dX8_swap_28 (15 : Int32) (by decide) ?_
    obtain ⟨v6, he5, h⟩ := vz_b1e h
    refine vr_cVi (pc := 30) hc dX8_swap_30 mt_X7_pairs ml_X8_122 ((gr_8_1 gc_0).2.1) (w_X7_pairs z μ.2.1 21 (15 : Int32) σ4 ((gr_8_1 gc_0).2.1) he5) rfl (by decide) rfl (Nat.le_of_ble_eq_true rfl) ?_
    refine vr_cVv (pc := 33) hc dX8_swap_33 mt_X2_restart ml_X8_246 ((gr_8_8 gc_0).2.1) (w_X2_restart z μ.2.1 v6 σ4 rfl) rfl (by decide) rfl (Nat.le_of_ble_eq_true rfl) ?_
    refine vr_iconst (pc := 36) hc dX8_swap_36 (0 : Int32) (by decide) ?_
    refine vr_istore_n (pc := 37) hc dX8_swap_37 (by decide) rfl ?_
    exact vz_sub (wn_X8_swap_38 z μ hc hret vz_fu x1 (0 : Int32) (f_X2_restart v6 σ4) h) (vz_sb1 rfl (vz_sb1 rfl (vz_sb1 rfl vz_sb0)))
  · rw [if_pos hb1] at h
    refine vr_iconst (pc := 7) hc dX8_swap_7 (-1 : Int32) (by decide) ?_
    obtain ⟨rfl, rfl⟩ := vz_in2 h
    exact hret _ _ (vz_ret_i dX8_swap_8 rfl)
-- X8_spoil: depth 5, effects S=True W=True P=True
def f_X8_spoil_42 : Nat → Int32 → Int32 → Int32 → vz_I → Option (Int32 × vz_I)
  | 0, _, _, _, _ => none
  | n + 1, x1, x2, x3, σ => if (60 : Int32) ≤ x3 then some (f_X2_toldOfFewest x2 σ, σ) else vz_b1 (f_X7_pairs 38 (15 : Int32) (f_X7_setRain 38 x3 x1 σ)) (fun v8 => f_X8_spoil_42 n x1 x2 (x3 + (1 : Int32)) (f_X2_offer x3 (-v8) (f_X7_setRain 38 x3 x1 σ)))
theorem f_X8_spoil_42_s (n : Nat) (x1 : Int32) (x2 : Int32) (x3 : Int32) (σ : vz_I) : f_X8_spoil_42  (n + 1) x1 x2 x3 σ = if (60 : Int32) ≤ x3 then some (f_X2_toldOfFewest x2 σ, σ) else vz_b1 (f_X7_pairs 38 (15 : Int32) (f_X7_setRain 38 x3 x1 σ)) (fun v8 => f_X8_spoil_42 n x1 x2 (x3 + (1 : Int32)) (f_X2_offer x3 (-v8) (f_X7_setRain 38 x3 x1 σ))) := rfl
set_option maxRecDepth 20000 in
set_option maxHeartbeats 1000000 in
theorem wn_X8_spoil_42 (z : vz_Z) (μ : vz_M) (hc : vz_C z μ cX8_spoil RX8 5 4) {r : Int32} {σ' : vz_I} (hret : ∀ (pc : Nat) (L : vz_L), vz_ret cX8_spoil (some .int) pc (some (.int r)) → vz_V z μ 0 0 pc L ((some (.int r)) : Option Value).toList vz_G0 σ' vz_N0) : ∀ (n : Nat) (x1 : Int32) (x2 : Int32) (x3 : Int32) (σ : vz_I)  (h : f_X8_spoil_42  n x1 x2 x3 σ = some (r, σ')), vz_V z μ 0 0 42 [(0, some (.ref 0)), (1, some (.int x1)), (2, some (.int x2)), (3, some (.int x3))] [] vz_G0 σ vz_N0 := by
  intro n
  induction n with
  | zero =>
    intro x1 x2 x3 σ h
    cases h
  | succ n ih =>
    intro x1 x2 x3 σ h
    rw [f_X8_spoil_42_s] at h
    refine vr_iload_n (pc := 42) hc dX8_spoil_42 rfl ?_
    refine vr_bipush (pc := 43) hc dX8_spoil_43 (60 : Int32) (by decide) ?_
    refine vr_icmp_ge (pc := 45) hc 81 dX8_spoil_45 (by decide) (fun hb6 => ?_) (fun hb6 => ?_)
    · rw [if_pos hb6] at h
      refine vr_aload_n (pc := 81) hc dX8_spoil_81 rfl ?_
      refine vr_getR (pc := 82) hc dX8_spoil_82 fl_X8_57 gc_0 (gr_8_8 gc_0).1 ?_
      refine vr_iload_n (pc := 85) hc dX8_spoil_85 rfl ?_
      refine vr_cVi (pc := 86) hc dX8_spoil_86 mt_X2_toldOfFewest ml_X8_277 ((gr_8_8 gc_0).2.1) (w_X2_toldOfFewest z μ.2.1 x2 σ rfl) rfl (by decide) rfl (Nat.le_of_ble_eq_true rfl) ?_
      obtain ⟨rfl, rfl⟩ := vz_in2 h
      exact hret _ _ (vz_ret_i dX8_spoil_89 rfl)
    · rw [if_neg hb6] at h
      refine vr_aload_n (pc := 48) hc dX8_spoil_48 rfl ?_
      refine vr_getR (pc := 49) hc dX8_spoil_49 fl_X8_23 gc_0 (gr_8_2 gc_0).1 ?_
      refine vr_iload_n (pc := 52) hc dX8_spoil_52 rfl ?_
      refine vr_iload_n (pc := 53) hc dX8_spoil_53 rfl ?_
      refine vr_cVv (pc := 54) hc dX8_spoil_54 mt_X7_setRain ml_X8_208 ((gr_8_2 gc_0).2.1) (w_X7_setRain z μ.2.1 38 x3 x1 σ ((gr_8_2 gc_0).2.1) rfl) rfl (by decide) rfl (Nat.le_of_ble_eq_true rfl) ?_
      refine vr_aload_n (pc := 57) hc dX8_spoil_57 rfl ?_
      refine vr_getR (pc := 58) hc dX8_spoil_58 fl_X8_57 gc_0 (gr_8_8 gc_0).1 ?_
      refine vr_iload_n (pc := 61) hc dX8_spoil_61 rfl ?_
      refine vr_aload_n (pc := 62) hc dX8_spoil_62 rfl ?_
      refine vr_getR (pc := 63) hc dX8_spoil_63 fl_X8_23 gc_0 (gr_8_2 gc_0).1 ?_
      refine vr_bipush (pc := 66) hc dX8_spoil_66 (15 : Int32) (by decide) ?_
      obtain ⟨v8, he7, h⟩ := vz_b1e h
      refine vr_cVi (pc := 68) hc dX8_spoil_68 mt_X7_pairs ml_X8_122 ((gr_8_2 gc_0).2.1) (w_X7_pairs z μ.2.1 38 (15 : Int32) (f_X7_setRain 38 x3 x1 σ) ((gr_8_2 gc_0).2.1) he7) rfl (by decide) rfl (Nat.le_of_ble_eq_true rfl) ?_
      refine vr_ineg (pc := 71) hc dX8_spoil_71 ?_
      refine vr_cVv (pc := 72) hc dX8_spoil_72 mt_X2_offer ml_X8_255 ((gr_8_8 gc_0).2.1) (w_X2_offer z μ.2.1 x3 (-v8) (f_X7_setRain 38 x3 x1 σ) rfl) rfl (by decide) rfl (Nat.le_of_ble_eq_true rfl) ?_
      refine vr_iinc (pc := 75) hc dX8_spoil_75 (1 : Int32) (by decide) rfl (by decide) rfl ?_
      refine vr_goto (pc := 78) hc 42 dX8_spoil_78 (by decide) ?_
      exact vz_sub (ih x1 x2 (x3 + (1 : Int32)) (f_X2_offer x3 (-v8) (f_X7_setRain 38 x3 x1 σ))  h) (vz_sb1 rfl (vz_sb1 rfl (vz_sb1 rfl (vz_sb1 rfl vz_sb0))))
def f_X8_spoil (x1 : Int32) (x2 : Int32) (σ : vz_I) : Option (Int32 × vz_I) := if (f_X8_isWithin x1 (1 : Int32) (59 : Int32)) = 0 then some ((-1 : Int32), σ) else if (f_X8_isEither x2) = 0 then some ((-1 : Int32), σ) else vz_b1 (f_X7_copyFrom 38 21 σ) (fun σ5 => f_X8_spoil_42 vz_fu x1 x2 (0 : Int32) (f_X2_restart (-1000 : Int32) σ5))
set_option maxRecDepth 20000 in
set_option maxHeartbeats 1000000 in
theorem w_X8_spoil (z : vz_Z) (l : Launch) (x1 : Int32) (x2 : Int32) (σ : vz_I)  {r : Int32} {σ' : vz_I} (h : f_X8_spoil x1 x2 σ = some (r, σ')) : vz_Con z l 5 yX8_spoil cX8_spoil 4 (some .int) [.ref 0, .int x1, .int x2] vz_G0 σ vz_N0 (some (.int r)) vz_G0 σ' vz_N0 0 0 := by
  refine vz_con (by decide) (Nat.le_of_ble_eq_true rfl) (fun μ hc hl hcap hret => ?_)
  subst hl
  unfold f_X8_spoil at h
  refine vr_iload_n (pc := 0) hc dX8_spoil_0 rfl ?_
  refine vr_iconst (pc := 1) hc dX8_spoil_1 (1 : Int32) (by decide) ?_
  refine vr_bipush (pc := 2) hc dX8_spoil_2 (59 : Int32) (by decide) ?_
  refine vr_cSi (pc := 4) hc dX8_spoil_4 mt_X8_isWithin sx_X8_isWithin ml_X8_70  (w_X8_isWithin z μ.2.1 x1 (1 : Int32) (59 : Int32) σ rfl) rfl (by decide) rfl (Nat.le_of_ble_eq_true rfl) ?_
  refine vr_if_eq (pc := 7) hc 17 dX8_spoil_7 (by decide) (fun hb1 => ?_) (fun hb1 => ?_)
  · rw [if_pos hb1] at h
    refine vr_iconst (pc := 17) hc dX8_spoil_17 (-1 : Int32) (by decide) ?_
    obtain ⟨rfl, rfl⟩ := vz_in2 h
    exact hret _ _ (vz_ret_i dX8_spoil_18 rfl)
  · rw [if_neg hb1] at h
    refine vr_iload_n (pc := 10) hc dX8_spoil_10 rfl ?_
    refine vr_cSi (pc := 11) hc dX8_spoil_11 mt_X8_isEither sx_X8_isEither ml_X8_160  (w_X8_isEither z μ.2.1 x2 σ rfl) rfl (by decide) rfl (Nat.le_of_ble_eq_true rfl) ?_
    refine vr_if_ne (pc := 14) hc 19 dX8_spoil_14 (by decide) (fun hb2 => ?_) (fun hb2 => ?_)
    · rw [if_neg hb2] at h
      refine vr_aload_n (pc := 19) hc dX8_spoil_19 rfl ?_
      refine vr_getR (pc := 20) hc dX8_spoil_20 fl_X8_23 gc_0 (gr_8_2 gc_0).1 ?_
      refine vr_aload_n (pc := 23) hc dX8_spoil_23 rfl ?_
      refine vr_getR (pc := 24) hc dX8_spoil_24 fl_X8_19 gc_0 (gr_8_1 gc_0).1 ?_
      obtain ⟨σ5, he3, h⟩ := vz_b1e h
      refine vr_cVv (pc := 27) hc dX8_spoil_27 mt_X7_copyFrom ml_X8_97 ((gr_8_2 gc_0).2.1) (w_X7_copyFrom z μ.2.1 38 21 σ ((gr_8_2 gc_0).2.1) ((gr_8_1 gc_0).2.1) he3) rfl (by decide) rfl (Nat.le_of_ble_eq_true rfl) ?_
      refine vr_aload_n (pc := 30) hc dX8_spoil_30 rfl ?_
      refine vr_getR (pc := 31) hc dX8_spoil_31 fl_X8_57 gc_0 (gr_8_8 gc_0).1 ?_
      refine vr_sipush (pc := 34) hc dX8_spoil_34 (-1000 : Int32) (by decide) ?_
      refine vr_cVv (pc := 37) hc dX8_spoil_37 mt_X2_restart ml_X8_246 ((gr_8_8 gc_0).2.1) (w_X2_restart z μ.2.1 (-1000 : Int32) σ5 rfl) rfl (by decide) rfl (Nat.le_of_ble_eq_true rfl) ?_
      refine vr_iconst (pc := 40) hc dX8_spoil_40 (0 : Int32) (by decide) ?_
      refine vr_istore_n (pc := 41) hc dX8_spoil_41 (by decide) rfl ?_
      exact vz_sub (wn_X8_spoil_42 z μ hc hret vz_fu x1 x2 (0 : Int32) (f_X2_restart (-1000 : Int32) σ5) h) (vz_sb1 rfl (vz_sb1 rfl (vz_sb1 rfl (vz_sb1 rfl vz_sb0))))
    · rw [if_pos hb2] at h
      refine vr_iconst (pc := 17) hc dX8_spoil_17 (-1 : Int32) (by decide) ?_
      obtain ⟨rfl, rfl⟩ := vz_in2 h
      exact hret _ _ (vz_ret_i dX8_spoil_18 rfl)
-- X8_mean: depth 5, effects S=True W=False P=True
def f_X8_mean_26 : Nat → Int32 → Int32 → Int64 → Int32 → vz_I → Option Int64
  | 0, _, _, _, _, _ => none
  | n + 1, x1, x2, j3, x5, σ => if ((1 : Int32) <<< ((σ 21 0) &&& 31)) ≤ x5 then vz_b1 (f_X7_weightOfAll 21 σ) (fun v5 => vz_b1 (f_X8_partOfFraction j3 v5 x2) (fun v8 => some v8)) else vz_b1 (f_X7_weight 21 x1 x5 σ) (fun v11 => vz_b1 (f_X7_pairs 21 x5 σ) (fun v14 => f_X8_mean_26 n x1 x2 (j3 + (v11 * v14.toInt64)) (x5 + (1 : Int32)) σ))
theorem f_X8_mean_26_s (n : Nat) (x1 : Int32) (x2 : Int32) (j3 : Int64) (x5 : Int32) (σ : vz_I) : f_X8_mean_26  (n + 1) x1 x2 j3 x5 σ = if ((1 : Int32) <<< ((σ 21 0) &&& 31)) ≤ x5 then vz_b1 (f_X7_weightOfAll 21 σ) (fun v5 => vz_b1 (f_X8_partOfFraction j3 v5 x2) (fun v8 => some v8)) else vz_b1 (f_X7_weight 21 x1 x5 σ) (fun v11 => vz_b1 (f_X7_pairs 21 x5 σ) (fun v14 => f_X8_mean_26 n x1 x2 (j3 + (v11 * v14.toInt64)) (x5 + (1 : Int32)) σ)) := rfl
set_option maxRecDepth 20000 in
set_option maxHeartbeats 1000000 in
theorem wn_X8_mean_26 (z : vz_Z) (μ : vz_M) (hc : vz_C z μ cX8_mean RX8 5 6) {r : Int64} (σ : vz_I) (hret : ∀ (pc : Nat) (L : vz_L), vz_ret cX8_mean (some .long) pc (some (.long r)) → vz_V z μ 0 0 pc L ((some (.long r)) : Option Value).toList vz_G0 σ vz_N0) : ∀ (n : Nat) (x1 : Int32) (x2 : Int32) (j3 : Int64) (x5 : Int32)  (h : f_X8_mean_26  n x1 x2 j3 x5 σ = some r), vz_V z μ 0 0 26 [(0, some (.ref 0)), (1, some (.int x1)), (2, some (.int x2)), (3, some (.long j3)), (5, some (.int x5))] [] vz_G0 σ vz_N0 := by
  intro n
  induction n with
  | zero =>
    intro x1 x2 j3 x5 h
    cases h
  | succ n ih =>
    intro x1 x2 j3 x5 h
    rw [f_X8_mean_26_s] at h
    refine vr_iload (pc := 26) hc dX8_mean_26 rfl ?_
    refine vr_iconst (pc := 28) hc dX8_mean_28 (1 : Int32) (by decide) ?_
    refine vr_aload_n (pc := 29) hc dX8_mean_29 rfl ?_
    refine vr_getR (pc := 30) hc dX8_mean_30 fl_X8_19 gc_0 (gr_8_1 gc_0).1 ?_
    refine vr_getI (pc := 33) hc dX8_mean_33 fl_X8_107 ((gr_8_1 gc_0).2.1) (gi_7_0 ((gr_8_1 gc_0).2.1)) ?_
    refine vr_ishl (pc := 36) hc dX8_mean_36 ?_
    refine vr_icmp_ge (pc := 37) hc 70 dX8_mean_37 (by decide) (fun hb3 => ?_) (fun hb3 => ?_)
    · rw [if_pos hb3] at h
      refine vr_lload_n (pc := 70) hc dX8_mean_70 rfl ?_
      refine vr_aload_n (pc := 71) hc dX8_mean_71 rfl ?_
      refine vr_getR (pc := 72) hc dX8_mean_72 fl_X8_19 gc_0 (gr_8_1 gc_0).1 ?_
      obtain ⟨v5, he4, h⟩ := vz_b1e h
      refine vr_cVj (pc := 75) hc dX8_mean_75 mt_X7_weightOfAll ml_X8_285 ((gr_8_1 gc_0).2.1) (w_X7_weightOfAll z μ.2.1 21 σ ((gr_8_1 gc_0).2.1) he4) rfl (by decide) rfl (Nat.le_of_ble_eq_true rfl) ?_
      refine vr_iload_n (pc := 78) hc dX8_mean_78 rfl ?_
      obtain ⟨v8, he7, h⟩ := vz_b1e h
      refine vr_cSj (pc := 79) hc dX8_mean_79 mt_X8_partOfFraction sx_X8_partOfFraction ml_X8_289  (w_X8_partOfFraction z μ.2.1 j3 v5 x2 σ he7) rfl (by decide) rfl (Nat.le_of_ble_eq_true rfl) ?_
      obtain rfl := Option.some.inj h
      exact hret _ _ (vz_ret_l dX8_mean_82)
    · rw [if_neg hb3] at h
      refine vr_lload_n (pc := 40) hc dX8_mean_40 rfl ?_
      refine vr_aload_n (pc := 41) hc dX8_mean_41 rfl ?_
      refine vr_getR (pc := 42) hc dX8_mean_42 fl_X8_19 gc_0 (gr_8_1 gc_0).1 ?_
      refine vr_iload_n (pc := 45) hc dX8_mean_45 rfl ?_
      refine vr_iload (pc := 46) hc dX8_mean_46 rfl ?_
      obtain ⟨v11, he10, h⟩ := vz_b1e h
      refine vr_cVj (pc := 48) hc dX8_mean_48 mt_X7_weight ml_X8_282 ((gr_8_1 gc_0).2.1) (w_X7_weight z μ.2.1 21 x1 x5 σ ((gr_8_1 gc_0).2.1) he10) rfl (by decide) rfl (Nat.le_of_ble_eq_true rfl) ?_
      refine vr_aload_n (pc := 51) hc dX8_mean_51 rfl ?_
      refine vr_getR (pc := 52) hc dX8_mean_52 fl_X8_19 gc_0 (gr_8_1 gc_0).1 ?_
      refine vr_iload (pc := 55) hc dX8_mean_55 rfl ?_
      obtain ⟨v14, he13, h⟩ := vz_b1e h
      refine vr_cVi (pc := 57) hc dX8_mean_57 mt_X7_pairs ml_X8_122 ((gr_8_1 gc_0).2.1) (w_X7_pairs z μ.2.1 21 x5 σ ((gr_8_1 gc_0).2.1) he13) rfl (by decide) rfl (Nat.le_of_ble_eq_true rfl) ?_
      refine vr_i2l (pc := 60) hc dX8_mean_60 ?_
      refine vr_lmul (pc := 61) hc dX8_mean_61 ?_
      refine vr_ladd (pc := 62) hc dX8_mean_62 ?_
      refine vr_lstore_n (pc := 63) hc dX8_mean_63 (by decide) rfl ?_
      refine vr_iinc (pc := 64) hc dX8_mean_64 (1 : Int32) (by decide) rfl (by decide) rfl ?_
      refine vr_goto (pc := 67) hc 26 dX8_mean_67 (by decide) ?_
      exact vz_sub (ih x1 x2 (j3 + (v11 * v14.toInt64)) (x5 + (1 : Int32))   h) (vz_sb1 rfl (vz_sb1 rfl (vz_sb1 rfl (vz_sb1 rfl (vz_sb1 rfl vz_sb0)))))
def f_X8_mean (x1 : Int32) (x2 : Int32) (σ : vz_I) : Option Int64 := if (f_X8_isWithin x1 (0 : Int32) (10 : Int32)) = 0 then some (-1 : Int64) else if (f_X8_isEither x2) = 0 then some (-1 : Int64) else f_X8_mean_26 vz_fu x1 x2 (0 : Int64) (0 : Int32) σ
set_option maxRecDepth 20000 in
set_option maxHeartbeats 1000000 in
theorem w_X8_mean (z : vz_Z) (l : Launch) (x1 : Int32) (x2 : Int32) (σ : vz_I)  {r : Int64} (h : f_X8_mean x1 x2 σ = some r) : vz_Con z l 5 yX8_mean cX8_mean 6 (some .long) [.ref 0, .int x1, .int x2] vz_G0 σ vz_N0 (some (.long r)) vz_G0 σ vz_N0 0 0 := by
  refine vz_con (by decide) (Nat.le_of_ble_eq_true rfl) (fun μ hc hl hcap hret => ?_)
  subst hl
  unfold f_X8_mean at h
  refine vr_iload_n (pc := 0) hc dX8_mean_0 rfl ?_
  refine vr_iconst (pc := 1) hc dX8_mean_1 (0 : Int32) (by decide) ?_
  refine vr_bipush (pc := 2) hc dX8_mean_2 (10 : Int32) (by decide) ?_
  refine vr_cSi (pc := 4) hc dX8_mean_4 mt_X8_isWithin sx_X8_isWithin ml_X8_70  (w_X8_isWithin z μ.2.1 x1 (0 : Int32) (10 : Int32) σ rfl) rfl (by decide) rfl (Nat.le_of_ble_eq_true rfl) ?_
  refine vr_if_eq (pc := 7) hc 17 dX8_mean_7 (by decide) (fun hb1 => ?_) (fun hb1 => ?_)
  · rw [if_pos hb1] at h
    refine vr_ldc2 (pc := 17) hc dX8_mean_17 (-1 : Int64) cl_X8_280 ?_
    obtain rfl := Option.some.inj h
    exact hret _ _ (vz_ret_l dX8_mean_20)
  · rw [if_neg hb1] at h
    refine vr_iload_n (pc := 10) hc dX8_mean_10 rfl ?_
    refine vr_cSi (pc := 11) hc dX8_mean_11 mt_X8_isEither sx_X8_isEither ml_X8_160  (w_X8_isEither z μ.2.1 x2 σ rfl) rfl (by decide) rfl (Nat.le_of_ble_eq_true rfl) ?_
    refine vr_if_ne (pc := 14) hc 21 dX8_mean_14 (by decide) (fun hb2 => ?_) (fun hb2 => ?_)
    · rw [if_neg hb2] at h
      refine vr_lconst (pc := 21) hc dX8_mean_21 (0 : Int64) (by decide) ?_
      refine vr_lstore_n (pc := 22) hc dX8_mean_22 (by decide) rfl ?_
      refine vr_iconst (pc := 23) hc dX8_mean_23 (0 : Int32) (by decide) ?_
      refine vr_istore (pc := 24) hc dX8_mean_24 (by decide) rfl ?_
      exact vz_sub (wn_X8_mean_26 z μ hc σ hret vz_fu x1 x2 (0 : Int64) (0 : Int32) h) (vz_sb1 rfl (vz_sb1 rfl (vz_sb1 rfl (vz_sb1 rfl (vz_sb1 rfl vz_sb0)))))
    · rw [if_pos hb2] at h
      refine vr_ldc2 (pc := 17) hc dX8_mean_17 (-1 : Int64) cl_X8_280 ?_
      obtain rfl := Option.some.inj h
      exact hret _ _ (vz_ret_l dX8_mean_20)
-- X8_news: depth 5, effects S=True W=True P=True
def f_X8_news_31 : Nat → Nat → Int32 → Int32 → vz_I → Option (Int32 × vz_I)
  | 0, _, _, _, _ => none
  | n + 1, a2, x3, x4, σ => if (10 : Int32) ≤ x4 then some (x3, σ) else vz_b1 (f_X1_agreesWith 38 (vz_up σ a2 1 x4)) (fun v10 => if v10 = 0 then f_X8_news_31 n a2 x3 (x4 + (1 : Int32)) (vz_up σ a2 1 x4) else f_X8_news_31 n a2 (x3 ||| ((1 : Int32) <<< (x4 &&& 31))) (x4 + (1 : Int32)) (vz_up σ a2 1 x4))
theorem f_X8_news_31_s (n : Nat) (a2 : Nat) (x3 : Int32) (x4 : Int32) (σ : vz_I) : f_X8_news_31  (n + 1) a2 x3 x4 σ = if (10 : Int32) ≤ x4 then some (x3, σ) else vz_b1 (f_X1_agreesWith 38 (vz_up σ a2 1 x4)) (fun v10 => if v10 = 0 then f_X8_news_31 n a2 x3 (x4 + (1 : Int32)) (vz_up σ a2 1 x4) else f_X8_news_31 n a2 (x3 ||| ((1 : Int32) <<< (x4 &&& 31))) (x4 + (1 : Int32)) (vz_up σ a2 1 x4)) := rfl
set_option maxRecDepth 20000 in
set_option maxHeartbeats 1000000 in
theorem wn_X8_news_31 (z : vz_Z) (μ : vz_M) (hc : vz_C z μ cX8_news RX8 5 5) {r : Int32} {σ' : vz_I} (hret : ∀ (pc : Nat) (L : vz_L), vz_ret cX8_news (some .int) pc (some (.int r)) → vz_V z μ 0 0 pc L ((some (.int r)) : Option Value).toList vz_G0 σ' vz_N0) : ∀ (n : Nat) (a2 : Nat) (x3 : Int32) (x4 : Int32) (σ : vz_I) (ha2 : (vz_G0 a2).1 = 0) (h : f_X8_news_31  n a2 x3 x4 σ = some (r, σ')), vz_V z μ 0 0 31 [(0, some (.ref 0)), (2, some (.ref a2)), (3, some (.int x3)), (4, some (.int x4))] [] vz_G0 σ vz_N0 := by
  intro n
  induction n with
  | zero =>
    intro a2 x3 x4 σ ha2 h
    cases h
  | succ n ih =>
    intro a2 x3 x4 σ ha2 h
    rw [f_X8_news_31_s] at h
    refine vr_iload (pc := 31) hc dX8_news_31 rfl ?_
    refine vr_bipush (pc := 33) hc dX8_news_33 (10 : Int32) (by decide) ?_
    refine vr_icmp_ge (pc := 35) hc 71 dX8_news_35 (by decide) (fun hb8 => ?_) (fun hb8 => ?_)
    · rw [if_pos hb8] at h
      refine vr_iload_n (pc := 71) hc dX8_news_71 rfl ?_
      obtain ⟨rfl, rfl⟩ := vz_in2 h
      exact hret _ _ (vz_ret_i dX8_news_72 rfl)
    · rw [if_neg hb8] at h
      refine vr_aload_n (pc := 38) hc dX8_news_38 rfl ?_
      refine vr_iload (pc := 39) hc dX8_news_39 rfl ?_
      refine vr_putI (pc := 41) hc dX8_news_41 fl_X8_135 ha2 (gi_0_1 ha2) rfl rfl ?_
      refine vr_aload_n (pc := 44) hc dX8_news_44 rfl ?_
      refine vr_getR (pc := 45) hc dX8_news_45 fl_X8_37 gc_0 (gr_8_5 gc_0).1 ?_
      refine vr_aload_n (pc := 48) hc dX8_news_48 rfl ?_
      refine vr_getR (pc := 49) hc dX8_news_49 fl_X8_23 gc_0 (gr_8_2 gc_0).1 ?_
      obtain ⟨v10, he9, h⟩ := vz_b1e h
      refine vr_cVi (pc := 52) hc dX8_news_52 mt_X1_agreesWith ml_X8_300 ((gr_8_5 gc_0).2.1) (w_X1_agreesWith z μ.2.1 38 (vz_up σ a2 1 x4) ((gr_8_2 gc_0).2.1) he9) rfl (by decide) rfl (Nat.le_of_ble_eq_true rfl) ?_
      refine vr_if_eq (pc := 55) hc 65 dX8_news_55 (by decide) (fun hb12 => ?_) (fun hb12 => ?_)
      · rw [if_pos hb12] at h
        refine vr_iinc (pc := 65) hc dX8_news_65 (1 : Int32) (by decide) rfl (by decide) rfl ?_
        refine vr_goto (pc := 68) hc 31 dX8_news_68 (by decide) ?_
        exact vz_sub (ih a2 x3 (x4 + (1 : Int32)) (vz_up σ a2 1 x4) ha2 h) (vz_sb1 rfl (vz_sb1 rfl (vz_sb1 rfl (vz_sb1 rfl vz_sb0))))
      · rw [if_neg hb12] at h
        refine vr_iload_n (pc := 58) hc dX8_news_58 rfl ?_
        refine vr_iconst (pc := 59) hc dX8_news_59 (1 : Int32) (by decide) ?_
        refine vr_iload (pc := 60) hc dX8_news_60 rfl ?_
        refine vr_ishl (pc := 62) hc dX8_news_62 ?_
        refine vr_ior (pc := 63) hc dX8_news_63 ?_
        refine vr_istore_n (pc := 64) hc dX8_news_64 (by decide) rfl ?_
        refine vr_iinc (pc := 65) hc dX8_news_65 (1 : Int32) (by decide) rfl (by decide) rfl ?_
        refine vr_goto (pc := 68) hc 31 dX8_news_68 (by decide) ?_
        exact vz_sub (ih a2 (x3 ||| ((1 : Int32) <<< (x4 &&& 31))) (x4 + (1 : Int32)) (vz_up σ a2 1 x4) ha2 h) (vz_sb1 rfl (vz_sb1 rfl (vz_sb1 rfl (vz_sb1 rfl vz_sb0))))
def f_X8_news (x1 : Int32) (σ : vz_I) : Option (Int32 × vz_I) := vz_b1 (f_X7_copyFrom 38 21 σ) (fun σ3 => vz_b1 (f_X7_manAt 38 x1 σ3) (fun v5 => vz_mo v5 (some ((-1 : Int32), σ3)) (fun a7 => f_X8_news_31 vz_fu a7 (0 : Int32) (0 : Int32) σ3)))
set_option maxRecDepth 20000 in
set_option maxHeartbeats 1000000 in
theorem w_X8_news (z : vz_Z) (l : Launch) (x1 : Int32) (σ : vz_I)  {r : Int32} {σ' : vz_I} (h : f_X8_news x1 σ = some (r, σ')) : vz_Con z l 5 yX8_news cX8_news 5 (some .int) [.ref 0, .int x1] vz_G0 σ vz_N0 (some (.int r)) vz_G0 σ' vz_N0 0 0 := by
  refine vz_con (by decide) (Nat.le_of_ble_eq_true rfl) (fun μ hc hl hcap hret => ?_)
  subst hl
  unfold f_X8_news at h
  refine vr_aload_n (pc := 0) hc dX8_news_0 rfl ?_
  refine vr_getR (pc := 1) hc dX8_news_1 fl_X8_23 gc_0 (gr_8_2 gc_0).1 ?_
  refine vr_aload_n (pc := 4) hc dX8_news_4 rfl ?_
  refine vr_getR (pc := 5) hc dX8_news_5 fl_X8_19 gc_0 (gr_8_1 gc_0).1 ?_
  obtain ⟨σ3, he1, h⟩ := vz_b1e h
  refine vr_cVv (pc := 8) hc dX8_news_8 mt_X7_copyFrom ml_X8_97 ((gr_8_2 gc_0).2.1) (w_X7_copyFrom z μ.2.1 38 21 σ ((gr_8_2 gc_0).2.1) ((gr_8_1 gc_0).2.1) he1) rfl (by decide) rfl (Nat.le_of_ble_eq_true rfl) ?_
  refine vr_aload_n (pc := 11) hc dX8_news_11 rfl ?_
  refine vr_getR (pc := 12) hc dX8_news_12 fl_X8_23 gc_0 (gr_8_2 gc_0).1 ?_
  refine vr_iload_n (pc := 15) hc dX8_news_15 rfl ?_
  obtain ⟨v5, he4, h⟩ := vz_b1e h
  cases v5 with
  | none =>
    rw [vz_mo_n] at h
    refine vr_cVn (pc := 16) hc dX8_news_16 mt_X7_manAt ml_X8_126 ((gr_8_2 gc_0).2.1) (w_X7_manAt z μ.2.1 38 x1 σ3 ((gr_8_2 gc_0).2.1) he4) rfl (by decide) rfl (Nat.le_of_ble_eq_true rfl) ?_
    refine vr_astoreN_n (pc := 19) hc dX8_news_19 (by decide) rfl ?_
    refine vr_aloadN_n (pc := 20) hc dX8_news_20 rfl ?_
    refine vr_ifnonnullN (pc := 21) hc dX8_news_21 ?_
    refine vr_iconst (pc := 24) hc dX8_news_24 (-1 : Int32) (by decide) ?_
    obtain ⟨rfl, rfl⟩ := vz_in2 h
    exact hret _ _ (vz_ret_i dX8_news_25 rfl)
  | some a7 =>
    rw [vz_mo_s] at h
    refine vr_cVa (pc := 16) hc dX8_news_16 mt_X7_manAt ml_X8_126 ((gr_8_2 gc_0).2.1) (w_X7_manAt z μ.2.1 38 x1 σ3 ((gr_8_2 gc_0).2.1) he4) rfl (by decide) rfl (Nat.le_of_ble_eq_true rfl) ?_
    refine vr_astore_n (pc := 19) hc dX8_news_19 (by decide) rfl ?_
    refine vr_aload_n (pc := 20) hc dX8_news_20 rfl ?_
    refine vr_ifnonnull (pc := 21) hc 26 dX8_news_21 (by decide) ?_
    refine vr_iconst (pc := 26) hc dX8_news_26 (0 : Int32) (by decide) ?_
    refine vr_istore_n (pc := 27) hc dX8_news_27 (by decide) rfl ?_
    refine vr_iconst (pc := 28) hc dX8_news_28 (0 : Int32) (by decide) ?_
    refine vr_istore (pc := 29) hc dX8_news_29 (by decide) rfl ?_
    exact vz_sub (wn_X8_news_31 z μ hc hret vz_fu a7 (0 : Int32) (0 : Int32) σ3 (wc_X7_manAt ((gr_8_2 gc_0).2.1) he4) h) (vz_sb1 rfl (vz_sb1 rfl (vz_sb1 rfl (vz_sb1 rfl vz_sb0))))
-- X8_drift: depth 5, effects S=True W=True P=True
def f_X8_drift_53 : Nat → Int32 → Int32 → Int32 → Int32 → Int32 → Int32 → vz_I → Option (Int32 × vz_I)
  | 0, _, _, _, _, _, _, _ => none
  | n + 1, x1, x2, x3, x4, x5, x6, σ => if x2 ≤ x6 then if x3 = 0 then some (x4, σ) else some (x5, σ) else vz_b1 (f_X7_driftBy 38 (((((x1 * (1103515245 : Int32)) + (12345 : Int32)).toUInt32 >>> ((16 : Int32).toUInt32 &&& Int32.toUInt32 31)).toInt32) &&& (32767 : Int32)) σ) (fun σ11 => vz_b1 (f_X7_pairs 38 (15 : Int32) σ11) (fun v13 => f_X8_drift_53 n ((x1 * (1103515245 : Int32)) + (12345 : Int32)) x2 x3 (x4 + v13) v13 (x6 + (1 : Int32)) σ11))
theorem f_X8_drift_53_s (n : Nat) (x1 : Int32) (x2 : Int32) (x3 : Int32) (x4 : Int32) (x5 : Int32) (x6 : Int32) (σ : vz_I) : f_X8_drift_53  (n + 1) x1 x2 x3 x4 x5 x6 σ = if x2 ≤ x6 then if x3 = 0 then some (x4, σ) else some (x5, σ) else vz_b1 (f_X7_driftBy 38 (((((x1 * (1103515245 : Int32)) + (12345 : Int32)).toUInt32 >>> ((16 : Int32).toUInt32 &&& Int32.toUInt32 31)).toInt32) &&& (32767 : Int32)) σ) (fun σ11 => vz_b1 (f_X7_pairs 38 (15 : Int32) σ11) (fun v13 => f_X8_drift_53 n ((x1 * (1103515245 : Int32)) + (12345 : Int32)) x2 x3 (x4 + v13) v13 (x6 + (1 : Int32)) σ11)) := rfl
set_option maxRecDepth 20000 in
set_option maxHeartbeats 1000000 in
theorem wn_X8_drift_53 (z : vz_Z) (μ : vz_M) (hc : vz_C z μ cX8_drift RX8 5 7) {r : Int32} {σ' : vz_I} (hret : ∀ (pc : Nat) (L : vz_L), vz_ret cX8_drift (some .int) pc (some (.int r)) → vz_V z μ 0 0 pc L ((some (.int r)) : Option Value).toList vz_G0 σ' vz_N0) : ∀ (n : Nat) (x1 : Int32) (x2 : Int32) (x3 : Int32) (x4 : Int32) (x5 : Int32) (x6 : Int32) (σ : vz_I)  (h : f_X8_drift_53  n x1 x2 x3 x4 x5 x6 σ = some (r, σ')), vz_V z μ 0 0 53 [(0, some (.ref 0)), (1, some (.int x1)), (2, some (.int x2)), (3, some (.int x3)), (4, some (.int x4)), (5, some (.int x5)), (6, some (.int x6))] [] vz_G0 σ vz_N0 := by
  intro n
  induction n with
  | zero =>
    intro x1 x2 x3 x4 x5 x6 σ h
    cases h
  | succ n ih =>
    intro x1 x2 x3 x4 x5 x6 σ h
    rw [f_X8_drift_53_s] at h
    refine vr_iload (pc := 53) hc dX8_drift_53 rfl ?_
    refine vr_iload_n (pc := 55) hc dX8_drift_55 rfl ?_
    refine vr_icmp_ge (pc := 56) hc 108 dX8_drift_56 (by decide) (fun hb7 => ?_) (fun hb7 => ?_)
    · rw [if_pos hb7] at h
      refine vr_iload_n (pc := 108) hc dX8_drift_108 rfl ?_
      refine vr_if_ne (pc := 109) hc 117 dX8_drift_109 (by decide) (fun hb8 => ?_) (fun hb8 => ?_)
      · rw [if_neg hb8] at h
        refine vr_iload (pc := 117) hc dX8_drift_117 rfl ?_
        obtain ⟨rfl, rfl⟩ := vz_in2 h
        exact hret _ _ (vz_ret_i dX8_drift_119 rfl)
      · rw [if_pos hb8] at h
        refine vr_iload (pc := 112) hc dX8_drift_112 rfl ?_
        refine vr_goto (pc := 114) hc 119 dX8_drift_114 (by decide) ?_
        obtain ⟨rfl, rfl⟩ := vz_in2 h
        exact hret _ _ (vz_ret_i dX8_drift_119 rfl)
    · rw [if_neg hb7] at h
      refine vr_iload_n (pc := 59) hc dX8_drift_59 rfl ?_
      refine vr_ldcw (pc := 60) hc dX8_drift_60 (1103515245 : Int32) cs_X8_313 ?_
      refine vr_imul (pc := 63) hc dX8_drift_63 ?_
      refine vr_sipush (pc := 64) hc dX8_drift_64 (12345 : Int32) (by decide) ?_
      refine vr_iadd (pc := 67) hc dX8_drift_67 ?_
      refine vr_istore_n (pc := 68) hc dX8_drift_68 (by decide) rfl ?_
      refine vr_aload_n (pc := 69) hc dX8_drift_69 rfl ?_
      refine vr_getR (pc := 70) hc dX8_drift_70 fl_X8_23 gc_0 (gr_8_2 gc_0).1 ?_
      refine vr_iload_n (pc := 73) hc dX8_drift_73 rfl ?_
      refine vr_bipush (pc := 74) hc dX8_drift_74 (16 : Int32) (by decide) ?_
      refine vr_iushr (pc := 76) hc dX8_drift_76 ?_
      refine vr_sipush (pc := 77) hc dX8_drift_77 (32767 : Int32) (by decide) ?_
      refine vr_iand (pc := 80) hc dX8_drift_80 ?_
      obtain ⟨σ11, he9, h⟩ := vz_b1e h
      refine vr_cVv (pc := 81) hc dX8_drift_81 mt_X7_driftBy ml_X8_314 ((gr_8_2 gc_0).2.1) (w_X7_driftBy z μ.2.1 38 (((((x1 * (1103515245 : Int32)) + (12345 : Int32)).toUInt32 >>> ((16 : Int32).toUInt32 &&& Int32.toUInt32 31)).toInt32) &&& (32767 : Int32)) σ ((gr_8_2 gc_0).2.1) he9) rfl (by decide) rfl (Nat.le_of_ble_eq_true rfl) ?_
      refine vr_aload_n (pc := 84) hc dX8_drift_84 rfl ?_
      refine vr_getR (pc := 85) hc dX8_drift_85 fl_X8_23 gc_0 (gr_8_2 gc_0).1 ?_
      refine vr_bipush (pc := 88) hc dX8_drift_88 (15 : Int32) (by decide) ?_
      obtain ⟨v13, he12, h⟩ := vz_b1e h
      refine vr_cVi (pc := 90) hc dX8_drift_90 mt_X7_pairs ml_X8_122 ((gr_8_2 gc_0).2.1) (w_X7_pairs z μ.2.1 38 (15 : Int32) σ11 ((gr_8_2 gc_0).2.1) he12) rfl (by decide) rfl (Nat.le_of_ble_eq_true rfl) ?_
      refine vr_istore (pc := 93) hc dX8_drift_93 (by decide) rfl ?_
      refine vr_iload (pc := 95) hc dX8_drift_95 rfl ?_
      refine vr_iload (pc := 97) hc dX8_drift_97 rfl ?_
      refine vr_iadd (pc := 99) hc dX8_drift_99 ?_
      refine vr_istore (pc := 100) hc dX8_drift_100 (by decide) rfl ?_
      refine vr_iinc (pc := 102) hc dX8_drift_102 (1 : Int32) (by decide) rfl (by decide) rfl ?_
      refine vr_goto (pc := 105) hc 53 dX8_drift_105 (by decide) ?_
      exact vz_sub (ih ((x1 * (1103515245 : Int32)) + (12345 : Int32)) x2 x3 (x4 + v13) v13 (x6 + (1 : Int32)) σ11  h) (vz_sb1 rfl (vz_sb1 rfl (vz_sb1 rfl (vz_sb1 rfl (vz_sb1 rfl (vz_sb1 rfl (vz_sb1 rfl vz_sb0)))))))
def f_X8_drift (x1 : Int32) (x2 : Int32) (x3 : Int32) (σ : vz_I) : Option (Int32 × vz_I) := if (f_X8_isWithin x2 (1 : Int32) (60 : Int32)) = 0 then some ((-1 : Int32), σ) else if (f_X8_isEither x3) = 0 then some ((-1 : Int32), σ) else if (1 : Int32) ≤ (σ 21 0) then vz_b1 (f_X7_copyFrom 38 21 σ) (fun σ6 => f_X8_drift_53 vz_fu x1 x2 x3 (0 : Int32) (0 : Int32) (0 : Int32) σ6) else some ((-2 : Int32), σ)
set_option maxRecDepth 20000 in
set_option maxHeartbeats 1000000 in
theorem w_X8_drift (z : vz_Z) (l : Launch) (x1 : Int32) (x2 : Int32) (x3 : Int32) (σ : vz_I)  {r : Int32} {σ' : vz_I} (h : f_X8_drift x1 x2 x3 σ = some (r, σ')) : vz_Con z l 5 yX8_drift cX8_drift 7 (some .int) [.ref 0, .int x1, .int x2, .int x3] vz_G0 σ vz_N0 (some (.int r)) vz_G0 σ' vz_N0 0 0 := by
  refine vz_con (by decide) (Nat.le_of_ble_eq_true rfl) (fun μ hc hl hcap hret => ?_)
  subst hl
  unfold f_X8_drift at h
  refine vr_iload_n (pc := 0) hc dX8_drift_0 rfl ?_
  refine vr_iconst (pc := 1) hc dX8_drift_1 (1 : Int32) (by decide) ?_
  refine vr_bipush (pc := 2) hc dX8_drift_2 (60 : Int32) (by decide) ?_
  refine vr_cSi (pc := 4) hc dX8_drift_4 mt_X8_isWithin sx_X8_isWithin ml_X8_70  (w_X8_isWithin z μ.2.1 x2 (1 : Int32) (60 : Int32) σ rfl) rfl (by decide) rfl (Nat.le_of_ble_eq_true rfl) ?_
  refine vr_if_eq (pc := 7) hc 17 dX8_drift_7 (by decide) (fun hb1 => ?_) (fun hb1 => ?_)
  · rw [if_pos hb1] at h
    refine vr_iconst (pc := 17) hc dX8_drift_17 (-1 : Int32) (by decide) ?_
    obtain ⟨rfl, rfl⟩ := vz_in2 h
    exact hret _ _ (vz_ret_i dX8_drift_18 rfl)
  · rw [if_neg hb1] at h
    refine vr_iload_n (pc := 10) hc dX8_drift_10 rfl ?_
    refine vr_cSi (pc := 11) hc dX8_drift_11 mt_X8_isEither sx_X8_isEither ml_X8_160  (w_X8_isEither z μ.2.1 x3 σ rfl) rfl (by decide) rfl (Nat.le_of_ble_eq_true rfl) ?_
    refine vr_if_ne (pc := 14) hc 19 dX8_drift_14 (by decide) (fun hb2 => ?_) (fun hb2 => ?_)
    · rw [if_neg hb2] at h
      refine vr_aload_n (pc := 19) hc dX8_drift_19 rfl ?_
      refine vr_getR (pc := 20) hc dX8_drift_20 fl_X8_19 gc_0 (gr_8_1 gc_0).1 ?_
      refine vr_getI (pc := 23) hc dX8_drift_23 fl_X8_107 ((gr_8_1 gc_0).2.1) (gi_7_0 ((gr_8_1 gc_0).2.1)) ?_
      refine vr_iconst (pc := 26) hc dX8_drift_26 (1 : Int32) (by decide) ?_
      refine vr_icmp_ge (pc := 27) hc 33 dX8_drift_27 (by decide) (fun hb3 => ?_) (fun hb3 => ?_)
      · rw [if_pos hb3] at h
        refine vr_aload_n (pc := 33) hc dX8_drift_33 rfl ?_
        refine vr_getR (pc := 34) hc dX8_drift_34 fl_X8_23 gc_0 (gr_8_2 gc_0).1 ?_
        refine vr_aload_n (pc := 37) hc dX8_drift_37 rfl ?_
        refine vr_getR (pc := 38) hc dX8_drift_38 fl_X8_19 gc_0 (gr_8_1 gc_0).1 ?_
        obtain ⟨σ6, he4, h⟩ := vz_b1e h
        refine vr_cVv (pc := 41) hc dX8_drift_41 mt_X7_copyFrom ml_X8_97 ((gr_8_2 gc_0).2.1) (w_X7_copyFrom z μ.2.1 38 21 σ ((gr_8_2 gc_0).2.1) ((gr_8_1 gc_0).2.1) he4) rfl (by decide) rfl (Nat.le_of_ble_eq_true rfl) ?_
        refine vr_iconst (pc := 44) hc dX8_drift_44 (0 : Int32) (by decide) ?_
        refine vr_istore (pc := 45) hc dX8_drift_45 (by decide) rfl ?_
        refine vr_iconst (pc := 47) hc dX8_drift_47 (0 : Int32) (by decide) ?_
        refine vr_istore (pc := 48) hc dX8_drift_48 (by decide) rfl ?_
        refine vr_iconst (pc := 50) hc dX8_drift_50 (0 : Int32) (by decide) ?_
        refine vr_istore (pc := 51) hc dX8_drift_51 (by decide) rfl ?_
        exact vz_sub (wn_X8_drift_53 z μ hc hret vz_fu x1 x2 x3 (0 : Int32) (0 : Int32) (0 : Int32) σ6 h) (vz_sb1 rfl (vz_sb1 rfl (vz_sb1 rfl (vz_sb1 rfl (vz_sb1 rfl (vz_sb1 rfl (vz_sb1 rfl vz_sb0)))))))
      · rw [if_neg hb3] at h
        refine vr_bipush (pc := 30) hc dX8_drift_30 (-2 : Int32) (by decide) ?_
        obtain ⟨rfl, rfl⟩ := vz_in2 h
        exact hret _ _ (vz_ret_i dX8_drift_32 rfl)
    · rw [if_pos hb2] at h
      refine vr_iconst (pc := 17) hc dX8_drift_17 (-1 : Int32) (by decide) ?_
      obtain ⟨rfl, rfl⟩ := vz_in2 h
      exact hret _ _ (vz_ret_i dX8_drift_18 rfl)
-- X8_back: depth 5, effects S=True W=True P=True
def f_X8_back (x1 : Int32) (σ : vz_I) : Option (Int32 × vz_I) := if (f_X8_isWithin x1 (0 : Int32) (1 : Int32)) = 0 then some ((-1 : Int32), σ) else if vz_in x1 2 then if (σ 56 x1.toNatClampNeg) = 0 then some ((-2 : Int32), σ) else if vz_in x1 2 then vz_b1 (f_X7_copyFrom 21 (66 + 17 * x1.toNatClampNeg) σ) (fun σ7 => vz_b1 (f_X7_pairs 21 (15 : Int32) σ7) (fun v9 => some (v9, σ7))) else none else none
set_option maxRecDepth 20000 in
set_option maxHeartbeats 1000000 in
theorem w_X8_back (z : vz_Z) (l : Launch) (x1 : Int32) (σ : vz_I)  {r : Int32} {σ' : vz_I} (h : f_X8_back x1 σ = some (r, σ')) : vz_Con z l 5 yX8_back cX8_back 2 (some .int) [.ref 0, .int x1] vz_G0 σ vz_N0 (some (.int r)) vz_G0 σ' vz_N0 0 0 := by
  refine vz_con (by decide) (Nat.le_of_ble_eq_true rfl) (fun μ hc hl hcap hret => ?_)
  subst hl
  unfold f_X8_back at h
  refine vr_iload_n (pc := 0) hc dX8_back_0 rfl ?_
  refine vr_iconst (pc := 1) hc dX8_back_1 (0 : Int32) (by decide) ?_
  refine vr_iconst (pc := 2) hc dX8_back_2 (1 : Int32) (by decide) ?_
  refine vr_cSi (pc := 3) hc dX8_back_3 mt_X8_isWithin sx_X8_isWithin ml_X8_70  (w_X8_isWithin z μ.2.1 x1 (0 : Int32) (1 : Int32) σ rfl) rfl (by decide) rfl (Nat.le_of_ble_eq_true rfl) ?_
  refine vr_if_ne (pc := 6) hc 11 dX8_back_6 (by decide) (fun hb1 => ?_) (fun hb1 => ?_)
  · rw [if_neg hb1] at h
    refine vr_aload_n (pc := 11) hc dX8_back_11 rfl ?_
    refine vr_getR (pc := 12) hc dX8_back_12 fl_X8_30 gc_0 (gr_8_4 gc_0).1 ?_
    refine vr_iload_n (pc := 15) hc dX8_back_15 rfl ?_
    have hb2 := vz_ifp h
    rw [if_pos hb2] at h
    refine vr_zald (pc := 16) hc 2 dX8_back_16 ((gr_8_4 gc_0).2.1) ((gr_8_4 gc_0).2.2) (vz_in_vp hb2) ?_
    refine vr_if_ne (pc := 17) hc 23 dX8_back_17 (by decide) (fun hb3 => ?_) (fun hb3 => ?_)
    · rw [if_neg hb3] at h
      refine vr_aload_n (pc := 23) hc dX8_back_23 rfl ?_
      refine vr_getR (pc := 24) hc dX8_back_24 fl_X8_19 gc_0 (gr_8_1 gc_0).1 ?_
      refine vr_aload_n (pc := 27) hc dX8_back_27 rfl ?_
      refine vr_getR (pc := 28) hc dX8_back_28 fl_X8_26 gc_0 (gr_8_3 gc_0).1 ?_
      refine vr_iload_n (pc := 31) hc dX8_back_31 rfl ?_
      have hb4 := vz_ifp h
      rw [if_pos hb4] at h
      refine vr_aald (pc := 32) hc 16 2 dX8_back_32 ((gr_8_3 gc_0).2.1) (by decide) (by decide) ((gr_8_3 gc_0).2.2) (vz_in_vp hb4) (ge_16 gc_0 (vz_in_lt hb4)).1 ?_
      obtain ⟨σ7, he5, h⟩ := vz_b1e h
      refine vr_cVv (pc := 33) hc dX8_back_33 mt_X7_copyFrom ml_X8_97 ((gr_8_1 gc_0).2.1) (w_X7_copyFrom z μ.2.1 21 (66 + 17 * x1.toNatClampNeg) σ ((gr_8_1 gc_0).2.1) ((ge_16 gc_0 (vz_in_lt hb4)).2) he5) rfl (by decide) rfl (Nat.le_of_ble_eq_true rfl) ?_
      refine vr_aload_n (pc := 36) hc dX8_back_36 rfl ?_
      refine vr_getR (pc := 37) hc dX8_back_37 fl_X8_19 gc_0 (gr_8_1 gc_0).1 ?_
      refine vr_bipush (pc := 40) hc dX8_back_40 (15 : Int32) (by decide) ?_
      obtain ⟨v9, he8, h⟩ := vz_b1e h
      refine vr_cVi (pc := 42) hc dX8_back_42 mt_X7_pairs ml_X8_122 ((gr_8_1 gc_0).2.1) (w_X7_pairs z μ.2.1 21 (15 : Int32) σ7 ((gr_8_1 gc_0).2.1) he8) rfl (by decide) rfl (Nat.le_of_ble_eq_true rfl) ?_
      obtain ⟨rfl, rfl⟩ := vz_in2 h
      exact hret _ _ (vz_ret_i dX8_back_45 rfl)
    · rw [if_pos hb3] at h
      refine vr_bipush (pc := 20) hc dX8_back_20 (-2 : Int32) (by decide) ?_
      obtain ⟨rfl, rfl⟩ := vz_in2 h
      exact hret _ _ (vz_ret_i dX8_back_22 rfl)
  · rw [if_pos hb1] at h
    refine vr_iconst (pc := 9) hc dX8_back_9 (-1 : Int32) (by decide) ?_
    obtain ⟨rfl, rfl⟩ := vz_in2 h
    exact hret _ _ (vz_ret_i dX8_back_10 rfl)
-- X8_possibleKinds: depth 5, effects S=True W=True P=True
def f_X8_possibleKinds_25 : Nat → Int32 → Int32 → vz_I → Option (Int32 × vz_I)
  | 0, _, _, _ => none
  | n + 1, x3, x4, σ => some (x3, σ)
theorem f_X8_possibleKinds_25_s (n : Nat) (x3 : Int32) (x4 : Int32) (σ : vz_I) : f_X8_possibleKinds_25  (n + 1) x3 x4 σ = some (x3, σ) := rfl
set_option maxRecDepth 20000 in
set_option maxHeartbeats 1000000 in
theorem wn_X8_possibleKinds_25 (z : vz_Z) (μ : vz_M) (hc : vz_C z μ cX8_possibleKinds RX8 5 5) {r : Int32} {σ' : vz_I} (hret : ∀ (pc : Nat) (L : vz_L), vz_ret cX8_possibleKinds (some .int) pc (some (.int r)) → vz_V z μ 0 0 pc L ((some (.int r)) : Option Value).toList vz_G0 σ' vz_N0) : ∀ (n : Nat) (x3 : Int32) (x4 : Int32) (σ : vz_I)  (h : f_X8_possibleKinds_25  n x3 x4 σ = some (r, σ')), vz_V z μ 0 0 25 [(0, some (.ref 0)), (2, some (.null)), (3, some (.int x3)), (4, some (.int x4))] [] vz_G0 σ vz_N0 := by
  intro n
  induction n with
  | zero =>
    intro x3 x4 σ h
    cases h
  | succ n ih =>
    intro x3 x4 σ h
    rw [f_X8_possibleKinds_25_s] at h
    refine vr_aloadN_n (pc := 25) hc dX8_possibleKinds_25 rfl ?_
    refine vr_ifnullN (pc := 26) hc 68 dX8_possibleKinds_26 (by decide) ?_
    refine vr_iload_n (pc := 68) hc dX8_possibleKinds_68 rfl ?_
    obtain ⟨rfl, rfl⟩ := vz_in2 h
    exact hret _ _ (vz_ret_i dX8_possibleKinds_69 rfl)
def f_X8_possibleKinds_25_2 : Nat → Nat → Int32 → Int32 → vz_I → Option (Int32 × vz_I)
  | 0, _, _, _, _ => none
  | n + 1, a2, x3, x4, σ => if (4 : Int32) ≤ x4 then some (x3, σ) else vz_b1 (f_X1_agreesWith 38 (vz_up σ a2 0 x4)) (fun v10 => if v10 = 0 then f_X8_possibleKinds_25_2 n a2 x3 (x4 + (1 : Int32)) (vz_up σ a2 0 x4) else f_X8_possibleKinds_25_2 n a2 (x3 ||| ((1 : Int32) <<< (x4 &&& 31))) (x4 + (1 : Int32)) (vz_up σ a2 0 x4))
theorem f_X8_possibleKinds_25_2_s (n : Nat) (a2 : Nat) (x3 : Int32) (x4 : Int32) (σ : vz_I) : f_X8_possibleKinds_25_2  (n + 1) a2 x3 x4 σ = if (4 : Int32) ≤ x4 then some (x3, σ) else vz_b1 (f_X1_agreesWith 38 (vz_up σ a2 0 x4)) (fun v10 => if v10 = 0 then f_X8_possibleKinds_25_2 n a2 x3 (x4 + (1 : Int32)) (vz_up σ a2 0 x4) else f_X8_possibleKinds_25_2 n a2 (x3 ||| ((1 : Int32) <<< (x4 &&& 31))) (x4 + (1 : Int32)) (vz_up σ a2 0 x4)) := rfl
set_option maxRecDepth 20000 in
set_option maxHeartbeats 1000000 in
theorem wn_X8_possibleKinds_25_2 (z : vz_Z) (μ : vz_M) (hc : vz_C z μ cX8_possibleKinds RX8 5 5) {r : Int32} {σ' : vz_I} (hret : ∀ (pc : Nat) (L : vz_L), vz_ret cX8_possibleKinds (some .int) pc (some (.int r)) → vz_V z μ 0 0 pc L ((some (.int r)) : Option Value).toList vz_G0 σ' vz_N0) : ∀ (n : Nat) (a2 : Nat) (x3 : Int32) (x4 : Int32) (σ : vz_I) (ha2 : (vz_G0 a2).1 = 0) (h : f_X8_possibleKinds_25_2  n a2 x3 x4 σ = some (r, σ')), vz_V z μ 0 0 25 [(0, some (.ref 0)), (2, some (.ref a2)), (3, some (.int x3)), (4, some (.int x4))] [] vz_G0 σ vz_N0 := by
  intro n
  induction n with
  | zero =>
    intro a2 x3 x4 σ ha2 h
    cases h
  | succ n ih =>
    intro a2 x3 x4 σ ha2 h
    rw [f_X8_possibleKinds_25_2_s] at h
    refine vr_aload_n (pc := 25) hc dX8_possibleKinds_25 rfl ?_
    refine vr_ifnull (pc := 26) hc dX8_possibleKinds_26 ?_
    refine vr_iload (pc := 29) hc dX8_possibleKinds_29 rfl ?_
    refine vr_iconst (pc := 31) hc dX8_possibleKinds_31 (4 : Int32) (by decide) ?_
    refine vr_icmp_ge (pc := 32) hc 68 dX8_possibleKinds_32 (by decide) (fun hb8 => ?_) (fun hb8 => ?_)
    · rw [if_pos hb8] at h
      refine vr_iload_n (pc := 68) hc dX8_possibleKinds_68 rfl ?_
      obtain ⟨rfl, rfl⟩ := vz_in2 h
      exact hret _ _ (vz_ret_i dX8_possibleKinds_69 rfl)
    · rw [if_neg hb8] at h
      refine vr_aload_n (pc := 35) hc dX8_possibleKinds_35 rfl ?_
      refine vr_iload (pc := 36) hc dX8_possibleKinds_36 rfl ?_
      refine vr_putI (pc := 38) hc dX8_possibleKinds_38 fl_X8_130 ha2 (gi_0_0 ha2) rfl rfl ?_
      refine vr_aload_n (pc := 41) hc dX8_possibleKinds_41 rfl ?_
      refine vr_getR (pc := 42) hc dX8_possibleKinds_42 fl_X8_37 gc_0 (gr_8_5 gc_0).1 ?_
      refine vr_aload_n (pc := 45) hc dX8_possibleKinds_45 rfl ?_
      refine vr_getR (pc := 46) hc dX8_possibleKinds_46 fl_X8_23 gc_0 (gr_8_2 gc_0).1 ?_
      obtain ⟨v10, he9, h⟩ := vz_b1e h
      refine vr_cVi (pc := 49) hc dX8_possibleKinds_49 mt_X1_agreesWith ml_X8_300 ((gr_8_5 gc_0).2.1) (w_X1_agreesWith z μ.2.1 38 (vz_up σ a2 0 x4) ((gr_8_2 gc_0).2.1) he9) rfl (by decide) rfl (Nat.le_of_ble_eq_true rfl) ?_
      refine vr_if_eq (pc := 52) hc 62 dX8_possibleKinds_52 (by decide) (fun hb12 => ?_) (fun hb12 => ?_)
      · rw [if_pos hb12] at h
        refine vr_iinc (pc := 62) hc dX8_possibleKinds_62 (1 : Int32) (by decide) rfl (by decide) rfl ?_
        refine vr_goto (pc := 65) hc 25 dX8_possibleKinds_65 (by decide) ?_
        exact vz_sub (ih a2 x3 (x4 + (1 : Int32)) (vz_up σ a2 0 x4) ha2 h) (vz_sb1 rfl (vz_sb1 rfl (vz_sb1 rfl (vz_sb1 rfl vz_sb0))))
      · rw [if_neg hb12] at h
        refine vr_iload_n (pc := 55) hc dX8_possibleKinds_55 rfl ?_
        refine vr_iconst (pc := 56) hc dX8_possibleKinds_56 (1 : Int32) (by decide) ?_
        refine vr_iload (pc := 57) hc dX8_possibleKinds_57 rfl ?_
        refine vr_ishl (pc := 59) hc dX8_possibleKinds_59 ?_
        refine vr_ior (pc := 60) hc dX8_possibleKinds_60 ?_
        refine vr_istore_n (pc := 61) hc dX8_possibleKinds_61 (by decide) rfl ?_
        refine vr_iinc (pc := 62) hc dX8_possibleKinds_62 (1 : Int32) (by decide) rfl (by decide) rfl ?_
        refine vr_goto (pc := 65) hc 25 dX8_possibleKinds_65 (by decide) ?_
        exact vz_sub (ih a2 (x3 ||| ((1 : Int32) <<< (x4 &&& 31))) (x4 + (1 : Int32)) (vz_up σ a2 0 x4) ha2 h) (vz_sb1 rfl (vz_sb1 rfl (vz_sb1 rfl (vz_sb1 rfl vz_sb0))))
def f_X8_possibleKinds (x1 : Int32) (σ : vz_I) : Option (Int32 × vz_I) := vz_b1 (f_X7_copyFrom 38 21 σ) (fun σ3 => vz_b1 (f_X7_manAt 38 x1 σ3) (fun v5 => vz_mo v5 (f_X8_possibleKinds_25 vz_fu (0 : Int32) (0 : Int32) σ3) (fun a7 => f_X8_possibleKinds_25_2 vz_fu a7 (0 : Int32) (0 : Int32) σ3)))
set_option maxRecDepth 20000 in
set_option maxHeartbeats 1000000 in
theorem w_X8_possibleKinds (z : vz_Z) (l : Launch) (x1 : Int32) (σ : vz_I)  {r : Int32} {σ' : vz_I} (h : f_X8_possibleKinds x1 σ = some (r, σ')) : vz_Con z l 5 yX8_possibleKinds cX8_possibleKinds 5 (some .int) [.ref 0, .int x1] vz_G0 σ vz_N0 (some (.int r)) vz_G0 σ' vz_N0 0 0 := by
  refine vz_con (by decide) (Nat.le_of_ble_eq_true rfl) (fun μ hc hl hcap hret => ?_)
  subst hl
  unfold f_X8_possibleKinds at h
  refine vr_aload_n (pc := 0) hc dX8_possibleKinds_0 rfl ?_
  refine vr_getR (pc := 1) hc dX8_possibleKinds_1 fl_X8_23 gc_0 (gr_8_2 gc_0).1 ?_
  refine vr_aload_n (pc := 4) hc dX8_possibleKinds_4 rfl ?_
  refine vr_getR (pc := 5) hc dX8_possibleKinds_5 fl_X8_19 gc_0 (gr_8_1 gc_0).1 ?_
  obtain ⟨σ3, he1, h⟩ := vz_b1e h
  refine vr_cVv (pc := 8) hc dX8_possibleKinds_8 mt_X7_copyFrom ml_X8_97 ((gr_8_2 gc_0).2.1) (w_X7_copyFrom z μ.2.1 38 21 σ ((gr_8_2 gc_0).2.1) ((gr_8_1 gc_0).2.1) he1) rfl (by decide) rfl (Nat.le_of_ble_eq_true rfl) ?_
  refine vr_aload_n (pc := 11) hc dX8_possibleKinds_11 rfl ?_
  refine vr_getR (pc := 12) hc dX8_possibleKinds_12 fl_X8_23 gc_0 (gr_8_2 gc_0).1 ?_
  refine vr_iload_n (pc := 15) hc dX8_possibleKinds_15 rfl ?_
  obtain ⟨v5, he4, h⟩ := vz_b1e h
  cases v5 with
  | none =>
    rw [vz_mo_n] at h
    refine vr_cVn (pc := 16) hc dX8_possibleKinds_16 mt_X7_manAt ml_X8_126 ((gr_8_2 gc_0).2.1) (w_X7_manAt z μ.2.1 38 x1 σ3 ((gr_8_2 gc_0).2.1) he4) rfl (by decide) rfl (Nat.le_of_ble_eq_true rfl) ?_
    refine vr_astoreN_n (pc := 19) hc dX8_possibleKinds_19 (by decide) rfl ?_
    refine vr_iconst (pc := 20) hc dX8_possibleKinds_20 (0 : Int32) (by decide) ?_
    refine vr_istore_n (pc := 21) hc dX8_possibleKinds_21 (by decide) rfl ?_
    refine vr_iconst (pc := 22) hc dX8_possibleKinds_22 (0 : Int32) (by decide) ?_
    refine vr_istore (pc := 23) hc dX8_possibleKinds_23 (by decide) rfl ?_
    exact vz_sub (wn_X8_possibleKinds_25 z μ hc hret vz_fu (0 : Int32) (0 : Int32) σ3 h) (vz_sb1 rfl (vz_sb1 rfl (vz_sb1 rfl (vz_sb1 rfl vz_sb0))))
  | some a7 =>
    rw [vz_mo_s] at h
    refine vr_cVa (pc := 16) hc dX8_possibleKinds_16 mt_X7_manAt ml_X8_126 ((gr_8_2 gc_0).2.1) (w_X7_manAt z μ.2.1 38 x1 σ3 ((gr_8_2 gc_0).2.1) he4) rfl (by decide) rfl (Nat.le_of_ble_eq_true rfl) ?_
    refine vr_astore_n (pc := 19) hc dX8_possibleKinds_19 (by decide) rfl ?_
    refine vr_iconst (pc := 20) hc dX8_possibleKinds_20 (0 : Int32) (by decide) ?_
    refine vr_istore_n (pc := 21) hc dX8_possibleKinds_21 (by decide) rfl ?_
    refine vr_iconst (pc := 22) hc dX8_possibleKinds_22 (0 : Int32) (by decide) ?_
    refine vr_istore (pc := 23) hc dX8_possibleKinds_23 (by decide) rfl ?_
    exact vz_sub (wn_X8_possibleKinds_25_2 z μ hc hret vz_fu a7 (0 : Int32) (0 : Int32) σ3 (wc_X7_manAt ((gr_8_2 gc_0).2.1) he4) h) (vz_sb1 rfl (vz_sb1 rfl (vz_sb1 rfl (vz_sb1 rfl vz_sb0))))
-- X9_readLine: depth 5, effects S=True W=True P=True
def f_X9_readLine_113  (σ : vz_I) : Option vz_I := vz_b1 (f_X9_step  σ) (fun σ21 => some σ21)
set_option maxRecDepth 20000 in
set_option maxHeartbeats 1000000 in
theorem wn_X9_readLine_113 (z : vz_Z) (μ : vz_M) (hc : vz_C z μ cX9_readLine RX9 5 2) {σ' : vz_I} (hret : ∀ (pc : Nat) (L : vz_L), vz_ret cX9_readLine none pc none → vz_V z μ 0 0 pc L (none : Option Value).toList vz_G0 σ' vz_N0)  (σ : vz_I)  (h : f_X9_readLine_113   σ = some σ') : vz_V z μ 0 0 113 [(0, some (.ref 108))] [] vz_G0 σ vz_N0 := by
  unfold f_X9_readLine_113 at h
  refine vr_aload_n (pc := 113) hc dX9_readLine_113 rfl ?_
  obtain ⟨σ21, he19, h⟩ := vz_b1e h
  refine vr_cVv (pc := 114) hc dX9_readLine_114 mt_X9_step ml_X9_97 gc_108 (w_X9_step z μ.2.1  σ he19) rfl (by decide) rfl (Nat.le_of_ble_eq_true rfl) ?_
  obtain rfl := Option.some.inj h
  exact hret _ _ (vz_ret_v dX9_readLine_117)
def f_X9_readLine_54 (x1 : Int32) (σ : vz_I) : Option vz_I := if (σ 108 6) = 0 then if x1 = (6 : Int32) then vz_b1 (f_X9_step  (vz_up σ 108 6 (1 : Int32))) (fun σ35 => if (σ35 108 10) ≤ 0 then vz_b1 (f_X9_readMore x1 σ35) (fun σ39 => if (σ39 108 10) = 0 then if (σ39 108 14) = (3 : Int32) then f_X9_readLine_113 σ39 else f_X9_readLine_113 (f_X9_fails (2 : Int32) σ39) else f_X9_readLine_113 σ39) else some σ35) else vz_b1 (f_X9_step  (vz_up σ 108 6 (0 : Int32))) (fun σ26 => if (σ26 108 10) ≤ 0 then vz_b1 (f_X9_readMore x1 σ26) (fun σ30 => if (σ30 108 10) = 0 then if (σ30 108 14) = (3 : Int32) then f_X9_readLine_113 σ30 else f_X9_readLine_113 (f_X9_fails (2 : Int32) σ30) else f_X9_readLine_113 σ30) else some σ26) else vz_b1 (f_X9_step  (vz_up σ 108 6 (1 : Int32))) (fun σ13 => if (σ13 108 10) ≤ 0 then vz_b1 (f_X9_readMore x1 σ13) (fun σ17 => if (σ17 108 10) = 0 then if (σ17 108 14) = (3 : Int32) then f_X9_readLine_113 σ17 else f_X9_readLine_113 (f_X9_fails (2 : Int32) σ17) else f_X9_readLine_113 σ17) else some σ13)
set_option maxRecDepth 20000 in
set_option maxHeartbeats 1000000 in
theorem wn_X9_readLine_54 (z : vz_Z) (μ : vz_M) (hc : vz_C z μ cX9_readLine RX9 5 2) {σ' : vz_I} (hret : ∀ (pc : Nat) (L : vz_L), vz_ret cX9_readLine none pc none → vz_V z μ 0 0 pc L (none : Option Value).toList vz_G0 σ' vz_N0) (x1 : Int32) (σ : vz_I)  (h : f_X9_readLine_54  x1 σ = some σ') : vz_V z μ 0 0 54 [(0, some (.ref 108)), (1, some (.int x1))] [] vz_G0 σ vz_N0 := by
  unfold f_X9_readLine_54 at h
  refine vr_aload_n (pc := 54) hc dX9_readLine_54 rfl ?_
  refine vr_aload_n (pc := 55) hc dX9_readLine_55 rfl ?_
  refine vr_getI (pc := 56) hc dX9_readLine_56 fl_X9_129 gc_108 (gi_9_6 gc_108) ?_
  refine vr_if_ne (pc := 59) hc 68 dX9_readLine_59 (by decide) (fun hb10 => ?_) (fun hb10 => ?_)
  · rw [if_neg hb10] at h
    refine vr_iconst (pc := 68) hc dX9_readLine_68 (1 : Int32) (by decide) ?_
    refine vr_goto (pc := 69) hc 73 dX9_readLine_69 (by decide) ?_
    refine vr_putI (pc := 73) hc dX9_readLine_73 fl_X9_129 gc_108 (gi_9_6 gc_108) (by decide) (by decide) ?_
    refine vr_aload_n (pc := 76) hc dX9_readLine_76 rfl ?_
    obtain ⟨σ13, he11, h⟩ := vz_b1e h
    refine vr_cVv (pc := 77) hc dX9_readLine_77 mt_X9_step ml_X9_97 gc_108 (w_X9_step z μ.2.1  (vz_up σ 108 6 (1 : Int32)) he11) rfl (by decide) rfl (Nat.le_of_ble_eq_true rfl) ?_
    refine vr_aload_n (pc := 80) hc dX9_readLine_80 rfl ?_
    refine vr_getI (pc := 81) hc dX9_readLine_81 fl_X9_63 gc_108 (gi_9_10 gc_108) ?_
    refine vr_if_le (pc := 84) hc 88 dX9_readLine_84 (by decide) (fun hb14 => ?_) (fun hb14 => ?_)
    · rw [if_pos hb14] at h
      refine vr_aload_n (pc := 88) hc dX9_readLine_88 rfl ?_
      refine vr_iload_n (pc := 89) hc dX9_readLine_89 rfl ?_
      obtain ⟨σ17, he15, h⟩ := vz_b1e h
      refine vr_cVv (pc := 90) hc dX9_readLine_90 mt_X9_readMore ml_X9_133 gc_108 (w_X9_readMore z μ.2.1 x1 σ13 he15) rfl (by decide) rfl (Nat.le_of_ble_eq_true rfl) ?_
      refine vr_aload_n (pc := 93) hc dX9_readLine_93 rfl ?_
      refine vr_getI (pc := 94) hc dX9_readLine_94 fl_X9_63 gc_108 (gi_9_10 gc_108) ?_
      refine vr_if_ne (pc := 97) hc 113 dX9_readLine_97 (by decide) (fun hb18 => ?_) (fun hb18 => ?_)
      · rw [if_neg hb18] at h
        exact vz_sub (wn_X9_readLine_113 z μ hc hret σ17 h) (vz_sb1 rfl vz_sb0)
      · rw [if_pos hb18] at h
        refine vr_aload_n (pc := 100) hc dX9_readLine_100 rfl ?_
        refine vr_getI (pc := 101) hc dX9_readLine_101 fl_X9_72 gc_108 (gi_9_14 gc_108) ?_
        refine vr_iconst (pc := 104) hc dX9_readLine_104 (3 : Int32) (by decide) ?_
        refine vr_icmp_eq (pc := 105) hc 113 dX9_readLine_105 (by decide) (fun hb22 => ?_) (fun hb22 => ?_)
        · rw [if_pos hb22] at h
          exact vz_sub (wn_X9_readLine_113 z μ hc hret σ17 h) (vz_sb1 rfl vz_sb0)
        · rw [if_neg hb22] at h
          refine vr_aload_n (pc := 108) hc dX9_readLine_108 rfl ?_
          refine vr_iconst (pc := 109) hc dX9_readLine_109 (2 : Int32) (by decide) ?_
          refine vr_cVv (pc := 110) hc dX9_readLine_110 mt_X9_fails ml_X9_93 gc_108 (w_X9_fails z μ.2.1 (2 : Int32) σ17 rfl) rfl (by decide) rfl (Nat.le_of_ble_eq_true rfl) ?_
          exact vz_sub (wn_X9_readLine_113 z μ hc hret (f_X9_fails (2 : Int32) σ17) h) (vz_sb1 rfl vz_sb0)
    · rw [if_neg hb14] at h
      obtain rfl := Option.some.inj h
      exact hret _ _ (vz_ret_v dX9_readLine_87)
  · rw [if_pos hb10] at h
    refine vr_iload_n (pc := 62) hc dX9_readLine_62 rfl ?_
    refine vr_bipush (pc := 63) hc dX9_readLine_63 (6 : Int32) (by decide) ?_
    refine vr_icmp_ne (pc := 65) hc 72 dX9_readLine_65 (by decide) (fun hb23 => ?_) (fun hb23 => ?_)
    · rw [if_neg hb23] at h
      refine vr_iconst (pc := 72) hc dX9_readLine_72 (0 : Int32) (by decide) ?_
      refine vr_putI (pc := 73) hc dX9_readLine_73 fl_X9_129 gc_108 (gi_9_6 gc_108) (by decide) (by decide) ?_
      refine vr_aload_n (pc := 76) hc dX9_readLine_76 rfl ?_
      obtain ⟨σ26, he24, h⟩ := vz_b1e h
      refine vr_cVv (pc := 77) hc dX9_readLine_77 mt_X9_step ml_X9_97 gc_108 (w_X9_step z μ.2.1  (vz_up σ 108 6 (0 : Int32)) he24) rfl (by decide) rfl (Nat.le_of_ble_eq_true rfl) ?_
      refine vr_aload_n (pc := 80) hc dX9_readLine_80 rfl ?_
      refine vr_getI (pc := 81) hc dX9_readLine_81 fl_X9_63 gc_108 (gi_9_10 gc_108) ?_
      refine vr_if_le (pc := 84) hc 88 dX9_readLine_84 (by decide) (fun hb27 => ?_) (fun hb27 => ?_)
      · rw [if_pos hb27] at h
        refine vr_aload_n (pc := 88) hc dX9_readLine_88 rfl ?_
        refine vr_iload_n (pc := 89) hc dX9_readLine_89 rfl ?_
        obtain ⟨σ30, he28, h⟩ := vz_b1e h
        refine vr_cVv (pc := 90) hc dX9_readLine_90 mt_X9_readMore ml_X9_133 gc_108 (w_X9_readMore z μ.2.1 x1 σ26 he28) rfl (by decide) rfl (Nat.le_of_ble_eq_true rfl) ?_
        refine vr_aload_n (pc := 93) hc dX9_readLine_93 rfl ?_
        refine vr_getI (pc := 94) hc dX9_readLine_94 fl_X9_63 gc_108 (gi_9_10 gc_108) ?_
        refine vr_if_ne (pc := 97) hc 113 dX9_readLine_97 (by decide) (fun hb31 => ?_) (fun hb31 => ?_)
        · rw [if_neg hb31] at h
          exact vz_sub (wn_X9_readLine_113 z μ hc hret σ30 h) (vz_sb1 rfl vz_sb0)
        · rw [if_pos hb31] at h
          refine vr_aload_n (pc := 100) hc dX9_readLine_100 rfl ?_
          refine vr_getI (pc := 101) hc dX9_readLine_101 fl_X9_72 gc_108 (gi_9_14 gc_108) ?_
          refine vr_iconst (pc := 104) hc dX9_readLine_104 (3 : Int32) (by decide) ?_
          refine vr_icmp_eq (pc := 105) hc 113 dX9_readLine_105 (by decide) (fun hb32 => ?_) (fun hb32 => ?_)
          · rw [if_pos hb32] at h
            exact vz_sub (wn_X9_readLine_113 z μ hc hret σ30 h) (vz_sb1 rfl vz_sb0)
          · rw [if_neg hb32] at h
            refine vr_aload_n (pc := 108) hc dX9_readLine_108 rfl ?_
            refine vr_iconst (pc := 109) hc dX9_readLine_109 (2 : Int32) (by decide) ?_
            refine vr_cVv (pc := 110) hc dX9_readLine_110 mt_X9_fails ml_X9_93 gc_108 (w_X9_fails z μ.2.1 (2 : Int32) σ30 rfl) rfl (by decide) rfl (Nat.le_of_ble_eq_true rfl) ?_
            exact vz_sub (wn_X9_readLine_113 z μ hc hret (f_X9_fails (2 : Int32) σ30) h) (vz_sb1 rfl vz_sb0)
      · rw [if_neg hb27] at h
        obtain rfl := Option.some.inj h
        exact hret _ _ (vz_ret_v dX9_readLine_87)
    · rw [if_pos hb23] at h
      refine vr_iconst (pc := 68) hc dX9_readLine_68 (1 : Int32) (by decide) ?_
      refine vr_goto (pc := 69) hc 73 dX9_readLine_69 (by decide) ?_
      refine vr_putI (pc := 73) hc dX9_readLine_73 fl_X9_129 gc_108 (gi_9_6 gc_108) (by decide) (by decide) ?_
      refine vr_aload_n (pc := 76) hc dX9_readLine_76 rfl ?_
      obtain ⟨σ35, he33, h⟩ := vz_b1e h
      refine vr_cVv (pc := 77) hc dX9_readLine_77 mt_X9_step ml_X9_97 gc_108 (w_X9_step z μ.2.1  (vz_up σ 108 6 (1 : Int32)) he33) rfl (by decide) rfl (Nat.le_of_ble_eq_true rfl) ?_
      refine vr_aload_n (pc := 80) hc dX9_readLine_80 rfl ?_
      refine vr_getI (pc := 81) hc dX9_readLine_81 fl_X9_63 gc_108 (gi_9_10 gc_108) ?_
      refine vr_if_le (pc := 84) hc 88 dX9_readLine_84 (by decide) (fun hb36 => ?_) (fun hb36 => ?_)
      · rw [if_pos hb36] at h
        refine vr_aload_n (pc := 88) hc dX9_readLine_88 rfl ?_
        refine vr_iload_n (pc := 89) hc dX9_readLine_89 rfl ?_
        obtain ⟨σ39, he37, h⟩ := vz_b1e h
        refine vr_cVv (pc := 90) hc dX9_readLine_90 mt_X9_readMore ml_X9_133 gc_108 (w_X9_readMore z μ.2.1 x1 σ35 he37) rfl (by decide) rfl (Nat.le_of_ble_eq_true rfl) ?_
        refine vr_aload_n (pc := 93) hc dX9_readLine_93 rfl ?_
        refine vr_getI (pc := 94) hc dX9_readLine_94 fl_X9_63 gc_108 (gi_9_10 gc_108) ?_
        refine vr_if_ne (pc := 97) hc 113 dX9_readLine_97 (by decide) (fun hb40 => ?_) (fun hb40 => ?_)
        · rw [if_neg hb40] at h
          exact vz_sub (wn_X9_readLine_113 z μ hc hret σ39 h) (vz_sb1 rfl vz_sb0)
        · rw [if_pos hb40] at h
          refine vr_aload_n (pc := 100) hc dX9_readLine_100 rfl ?_
          refine vr_getI (pc := 101) hc dX9_readLine_101 fl_X9_72 gc_108 (gi_9_14 gc_108) ?_
          refine vr_iconst (pc := 104) hc dX9_readLine_104 (3 : Int32) (by decide) ?_
          refine vr_icmp_eq (pc := 105) hc 113 dX9_readLine_105 (by decide) (fun hb41 => ?_) (fun hb41 => ?_)
          · rw [if_pos hb41] at h
            exact vz_sub (wn_X9_readLine_113 z μ hc hret σ39 h) (vz_sb1 rfl vz_sb0)
          · rw [if_neg hb41] at h
            refine vr_aload_n (pc := 108) hc dX9_readLine_108 rfl ?_
            refine vr_iconst (pc := 109) hc dX9_readLine_109 (2 : Int32) (by decide) ?_
            refine vr_cVv (pc := 110) hc dX9_readLine_110 mt_X9_fails ml_X9_93 gc_108 (w_X9_fails z μ.2.1 (2 : Int32) σ39 rfl) rfl (by decide) rfl (Nat.le_of_ble_eq_true rfl) ?_
            exact vz_sub (wn_X9_readLine_113 z μ hc hret (f_X9_fails (2 : Int32) σ39) h) (vz_sb1 rfl vz_sb0)
      · rw [if_neg hb36] at h
        obtain rfl := Option.some.inj h
        exact hret _ _ (vz_ret_v dX9_readLine_87)
def f_X9_readLine_36 (x1 : Int32) (σ : vz_I) : Option vz_I := if x1 = (6 : Int32) then if (σ 108 6) = 0 then f_X9_readLine_54 x1 σ else f_X9_readLine_54 x1 (f_X9_fails (4 : Int32) σ) else f_X9_readLine_54 x1 σ
set_option maxRecDepth 20000 in
set_option maxHeartbeats 1000000 in
theorem wn_X9_readLine_36 (z : vz_Z) (μ : vz_M) (hc : vz_C z μ cX9_readLine RX9 5 2) {σ' : vz_I} (hret : ∀ (pc : Nat) (L : vz_L), vz_ret cX9_readLine none pc none → vz_V z μ 0 0 pc L (none : Option Value).toList vz_G0 σ' vz_N0) (x1 : Int32) (σ : vz_I)  (h : f_X9_readLine_36  x1 σ = some σ') : vz_V z μ 0 0 36 [(0, some (.ref 108)), (1, some (.int x1))] [] vz_G0 σ vz_N0 := by
  unfold f_X9_readLine_36 at h
  refine vr_iload_n (pc := 36) hc dX9_readLine_36 rfl ?_
  refine vr_bipush (pc := 37) hc dX9_readLine_37 (6 : Int32) (by decide) ?_
  refine vr_icmp_ne (pc := 39) hc 54 dX9_readLine_39 (by decide) (fun hb9 => ?_) (fun hb9 => ?_)
  · rw [if_neg hb9] at h
    exact vz_sub (wn_X9_readLine_54 z μ hc hret x1 σ h) (vz_sb1 rfl (vz_sb1 rfl vz_sb0))
  · rw [if_pos hb9] at h
    refine vr_aload_n (pc := 42) hc dX9_readLine_42 rfl ?_
    refine vr_getI (pc := 43) hc dX9_readLine_43 fl_X9_129 gc_108 (gi_9_6 gc_108) ?_
    refine vr_if_eq (pc := 46) hc 54 dX9_readLine_46 (by decide) (fun hb42 => ?_) (fun hb42 => ?_)
    · rw [if_pos hb42] at h
      exact vz_sub (wn_X9_readLine_54 z μ hc hret x1 σ h) (vz_sb1 rfl (vz_sb1 rfl vz_sb0))
    · rw [if_neg hb42] at h
      refine vr_aload_n (pc := 49) hc dX9_readLine_49 rfl ?_
      refine vr_iconst (pc := 50) hc dX9_readLine_50 (4 : Int32) (by decide) ?_
      refine vr_cVv (pc := 51) hc dX9_readLine_51 mt_X9_fails ml_X9_93 gc_108 (w_X9_fails z μ.2.1 (4 : Int32) σ rfl) rfl (by decide) rfl (Nat.le_of_ble_eq_true rfl) ?_
      exact vz_sub (wn_X9_readLine_54 z μ hc hret x1 (f_X9_fails (4 : Int32) σ) h) (vz_sb1 rfl (vz_sb1 rfl vz_sb0))
def f_X9_readLine  (σ : vz_I) : Option vz_I := vz_b1 (f_X9_nameHere  σ) (fun v2 => if (f_X9_in v2.toInt64 (0 : Int64) (6 : Int64)) = 0 then some (f_X9_fails (2 : Int32) σ) else vz_b1 (f_X9_isFull v2 σ) (fun v6 => if v6 = 0 then f_X9_readLine_36 v2 σ else f_X9_readLine_36 v2 (f_X9_fails (5 : Int32) σ)))
set_option maxRecDepth 20000 in
set_option maxHeartbeats 1000000 in
theorem w_X9_readLine (z : vz_Z) (l : Launch)  (σ : vz_I)  {σ' : vz_I} (h : f_X9_readLine  σ = some σ') : vz_Con z l 5 yX9_readLine cX9_readLine 2 none [.ref 108] vz_G0 σ vz_N0 none vz_G0 σ' vz_N0 0 0 := by
  refine vz_con (by decide) (Nat.le_of_ble_eq_true rfl) (fun μ hc hl hcap hret => ?_)
  subst hl
  unfold f_X9_readLine at h
  refine vr_aload_n (pc := 0) hc dX9_readLine_0 rfl ?_
  obtain ⟨v2, he1, h⟩ := vz_b1e h
  refine vr_cVi (pc := 1) hc dX9_readLine_1 mt_X9_nameHere ml_X9_119 gc_108 (w_X9_nameHere z μ.2.1  σ he1) rfl (by decide) rfl (Nat.le_of_ble_eq_true rfl) ?_
  refine vr_istore_n (pc := 4) hc dX9_readLine_4 (by decide) rfl ?_
  refine vr_iload_n (pc := 5) hc dX9_readLine_5 rfl ?_
  refine vr_i2l (pc := 6) hc dX9_readLine_6 ?_
  refine vr_lconst (pc := 7) hc dX9_readLine_7 (0 : Int64) (by decide) ?_
  refine vr_ldc2 (pc := 8) hc dX9_readLine_8 (6 : Int64) cl_X9_123 ?_
  refine vr_cSi (pc := 11) hc dX9_readLine_11 mt_X9_in sx_X9_in ml_X9_55  (w_X9_in z μ.2.1 v2.toInt64 (0 : Int64) (6 : Int64) σ rfl) rfl (by decide) rfl (Nat.le_of_ble_eq_true rfl) ?_
  refine vr_if_ne (pc := 14) hc 23 dX9_readLine_14 (by decide) (fun hb4 => ?_) (fun hb4 => ?_)
  · rw [if_neg hb4] at h
    refine vr_aload_n (pc := 23) hc dX9_readLine_23 rfl ?_
    refine vr_iload_n (pc := 24) hc dX9_readLine_24 rfl ?_
    obtain ⟨v6, he5, h⟩ := vz_b1e h
    refine vr_cVi (pc := 25) hc dX9_readLine_25 mt_X9_isFull ml_X9_125 gc_108 (w_X9_isFull z μ.2.1 v2 σ he5) rfl (by decide) rfl (Nat.le_of_ble_eq_true rfl) ?_
    refine vr_if_eq (pc := 28) hc 36 dX9_readLine_28 (by decide) (fun hb8 => ?_) (fun hb8 => ?_)
    · rw [if_pos hb8] at h
      exact vz_sub (wn_X9_readLine_36 z μ hc hret v2 σ h) (vz_sb1 rfl (vz_sb1 rfl vz_sb0))
    · rw [if_neg hb8] at h
      refine vr_aload_n (pc := 31) hc dX9_readLine_31 rfl ?_
      refine vr_iconst (pc := 32) hc dX9_readLine_32 (5 : Int32) (by decide) ?_
      refine vr_cVv (pc := 33) hc dX9_readLine_33 mt_X9_fails ml_X9_93 gc_108 (w_X9_fails z μ.2.1 (5 : Int32) σ rfl) rfl (by decide) rfl (Nat.le_of_ble_eq_true rfl) ?_
      exact vz_sub (wn_X9_readLine_36 z μ hc hret v2 (f_X9_fails (5 : Int32) σ) h) (vz_sb1 rfl (vz_sb1 rfl vz_sb0))
  · rw [if_pos hb4] at h
    refine vr_aload_n (pc := 17) hc dX9_readLine_17 rfl ?_
    refine vr_iconst (pc := 18) hc dX9_readLine_18 (2 : Int32) (by decide) ?_
    refine vr_cVv (pc := 19) hc dX9_readLine_19 mt_X9_fails ml_X9_93 gc_108 (w_X9_fails z μ.2.1 (2 : Int32) σ rfl) rfl (by decide) rfl (Nat.le_of_ble_eq_true rfl) ?_
    obtain rfl := Option.some.inj h
    exact hret _ _ (vz_ret_v dX9_readLine_22)
-- X9_rule: depth 5, effects S=True W=True P=True
def f_X9_rule (x1 : Int32) (σ : vz_I) : Option (Int32 × vz_I) := if x1 = 0 then some (σ 108 1, σ) else if x1 = 1 then if vz_in (42 : Int32) 305 then some (σ 109 (42 : Int32).toNatClampNeg, σ) else none else if x1 = 2 then some (σ 108 2, σ) else if x1 = 3 then if vz_in (40 : Int32) 305 then some (σ 109 (40 : Int32).toNatClampNeg, σ) else none else if x1 = 4 then if vz_in (41 : Int32) 305 then some (σ 109 (41 : Int32).toNatClampNeg, σ) else none else if x1 = 5 then vz_b2 (f_X9_pairsOn (0 : Int32) σ) (fun v11 σ12 => some (v11, σ12)) else some ((-1 : Int32), σ)
set_option maxRecDepth 20000 in
set_option maxHeartbeats 1000000 in
theorem w_X9_rule (z : vz_Z) (l : Launch) (x1 : Int32) (σ : vz_I)  {r : Int32} {σ' : vz_I} (h : f_X9_rule x1 σ = some (r, σ')) : vz_Con z l 5 yX9_rule cX9_rule 2 (some .int) [.ref 108, .int x1] vz_G0 σ vz_N0 (some (.int r)) vz_G0 σ' vz_N0 0 0 := by
  refine vz_con (by decide) (Nat.le_of_ble_eq_true rfl) (fun μ hc hl hcap hret => ?_)
  subst hl
  unfold f_X9_rule at h
  refine vr_iload_n (pc := 0) hc dX9_rule_0 rfl ?_
  by_cases hb1 : x1 = 0
  · rw [if_pos hb1] at h
    refine vr_tableIn (pc := 1) hc _ 40 dX9_rule_1 (by rw [hb1]; decide) (by rw [hb1]; decide) (off := 39) (by rw [hb1]; decide) (by decide) ?_
    refine vr_aload_n (pc := 40) hc dX9_rule_40 rfl ?_
    refine vr_getI (pc := 41) hc dX9_rule_41 fl_X9_150 gc_108 (gi_9_1 gc_108) ?_
    obtain ⟨rfl, rfl⟩ := vz_in2 h
    exact hret _ _ (vz_ret_i dX9_rule_44 rfl)
  rw [if_neg hb1] at h
  by_cases hb2 : x1 = 1
  · rw [if_pos hb2] at h
    refine vr_tableIn (pc := 1) hc _ 45 dX9_rule_1 (by rw [hb2]; decide) (by rw [hb2]; decide) (off := 44) (by rw [hb2]; decide) (by decide) ?_
    refine vr_aload_n (pc := 45) hc dX9_rule_45 rfl ?_
    refine vr_getR (pc := 46) hc dX9_rule_46 fl_X9_7 gc_108 (gr_9_0 gc_108).1 ?_
    refine vr_bipush (pc := 49) hc dX9_rule_49 (42 : Int32) (by decide) ?_
    have hb3 := vz_ifp h
    rw [if_pos hb3] at h
    refine vr_iald (pc := 51) hc 305 dX9_rule_51 ((gr_9_0 gc_108).2.1) ((gr_9_0 gc_108).2.2) (vz_in_vp hb3) ?_
    obtain ⟨rfl, rfl⟩ := vz_in2 h
    exact hret _ _ (vz_ret_i dX9_rule_52 rfl)
  rw [if_neg hb2] at h
  by_cases hb4 : x1 = 2
  · rw [if_pos hb4] at h
    refine vr_tableIn (pc := 1) hc _ 53 dX9_rule_1 (by rw [hb4]; decide) (by rw [hb4]; decide) (off := 52) (by rw [hb4]; decide) (by decide) ?_
    refine vr_aload_n (pc := 53) hc dX9_rule_53 rfl ?_
    refine vr_getI (pc := 54) hc dX9_rule_54 fl_X9_153 gc_108 (gi_9_2 gc_108) ?_
    obtain ⟨rfl, rfl⟩ := vz_in2 h
    exact hret _ _ (vz_ret_i dX9_rule_57 rfl)
  rw [if_neg hb4] at h
  by_cases hb5 : x1 = 3
  · rw [if_pos hb5] at h
    refine vr_tableIn (pc := 1) hc _ 58 dX9_rule_1 (by rw [hb5]; decide) (by rw [hb5]; decide) (off := 57) (by rw [hb5]; decide) (by decide) ?_
    refine vr_aload_n (pc := 58) hc dX9_rule_58 rfl ?_
    refine vr_getR (pc := 59) hc dX9_rule_59 fl_X9_7 gc_108 (gr_9_0 gc_108).1 ?_
    refine vr_bipush (pc := 62) hc dX9_rule_62 (40 : Int32) (by decide) ?_
    have hb6 := vz_ifp h
    rw [if_pos hb6] at h
    refine vr_iald (pc := 64) hc 305 dX9_rule_64 ((gr_9_0 gc_108).2.1) ((gr_9_0 gc_108).2.2) (vz_in_vp hb6) ?_
    obtain ⟨rfl, rfl⟩ := vz_in2 h
    exact hret _ _ (vz_ret_i dX9_rule_65 rfl)
  rw [if_neg hb5] at h
  by_cases hb7 : x1 = 4
  · rw [if_pos hb7] at h
    refine vr_tableIn (pc := 1) hc _ 66 dX9_rule_1 (by rw [hb7]; decide) (by rw [hb7]; decide) (off := 65) (by rw [hb7]; decide) (by decide) ?_
    refine vr_aload_n (pc := 66) hc dX9_rule_66 rfl ?_
    refine vr_getR (pc := 67) hc dX9_rule_67 fl_X9_7 gc_108 (gr_9_0 gc_108).1 ?_
    refine vr_bipush (pc := 70) hc dX9_rule_70 (41 : Int32) (by decide) ?_
    have hb8 := vz_ifp h
    rw [if_pos hb8] at h
    refine vr_iald (pc := 72) hc 305 dX9_rule_72 ((gr_9_0 gc_108).2.1) ((gr_9_0 gc_108).2.2) (vz_in_vp hb8) ?_
    obtain ⟨rfl, rfl⟩ := vz_in2 h
    exact hret _ _ (vz_ret_i dX9_rule_73 rfl)
  rw [if_neg hb7] at h
  by_cases hb9 : x1 = 5
  · rw [if_pos hb9] at h
    refine vr_tableIn (pc := 1) hc _ 74 dX9_rule_1 (by rw [hb9]; decide) (by rw [hb9]; decide) (off := 73) (by rw [hb9]; decide) (by decide) ?_
    refine vr_aload_n (pc := 74) hc dX9_rule_74 rfl ?_
    refine vr_iconst (pc := 75) hc dX9_rule_75 (0 : Int32) (by decide) ?_
    obtain ⟨v11, σ12, he10, h⟩ := vz_b2e h
    refine vr_cVi (pc := 76) hc dX9_rule_76 mt_X9_pairsOn ml_X9_195 gc_108 (w_X9_pairsOn z μ.2.1 (0 : Int32) σ he10) rfl (by decide) rfl (Nat.le_of_ble_eq_true rfl) ?_
    obtain ⟨rfl, rfl⟩ := vz_in2 h
    exact hret _ _ (vz_ret_i dX9_rule_79 rfl)
  rw [if_neg hb9] at h
  refine vr_tableOut (pc := 1) hc 80 dX9_rule_1 (by have e0 := lv_neT hb1 (show (0 : Int32).toInt = 0 by decide); have e1 := lv_neT hb2 (show (1 : Int32).toInt = 1 by decide); have e2 := lv_neT hb4 (show (2 : Int32).toInt = 2 by decide); have e3 := lv_neT hb5 (show (3 : Int32).toInt = 3 by decide); have e4 := lv_neT hb7 (show (4 : Int32).toInt = 4 by decide); have e5 := lv_neT hb9 (show (5 : Int32).toInt = 5 by decide); omega) (by decide) ?_
  refine vr_iconst (pc := 80) hc dX9_rule_80 (-1 : Int32) (by decide) ?_
  obtain ⟨rfl, rfl⟩ := vz_in2 h
  exact hret _ _ (vz_ret_i dX9_rule_81 rfl)
-- X9_begin: depth 5, effects S=True W=True P=True
def f_X9_begin_30 : Nat → Int32 → Int32 → Int32 → Int32 → vz_I → Option (Int32 × vz_I)
  | 0, _, _, _, _, _ => none
  | n + 1, x1, x2, x3, x4, σ => if vz_in ((8 : Int32) + x1) 305 then if (σ 109 ((8 : Int32) + x1).toNatClampNeg) ≤ x4 then if x2 = 0 then some (x3, σ) else some (σ 108 22, σ) else vz_b1 (f_X9_copies (0 : Int32) (244 : Int32) σ) (fun σ8 => vz_b1 (f_X9_shiftsOn (244 : Int32) x1 x4 σ8) (fun σ11 => vz_b2 (f_X9_pairsOn (244 : Int32) σ11) (fun v13 σ14 => vz_b2 (f_X9_isMore v13 σ14) (fun v16 σ17 => if v16 = 0 then f_X9_begin_30 n x1 x2 x3 (x4 + (1 : Int32)) σ17 else f_X9_begin_30 n x1 x2 x4 (x4 + (1 : Int32)) σ17)))) else none
theorem f_X9_begin_30_s (n : Nat) (x1 : Int32) (x2 : Int32) (x3 : Int32) (x4 : Int32) (σ : vz_I) : f_X9_begin_30  (n + 1) x1 x2 x3 x4 σ = if vz_in ((8 : Int32) + x1) 305 then if (σ 109 ((8 : Int32) + x1).toNatClampNeg) ≤ x4 then if x2 = 0 then some (x3, σ) else some (σ 108 22, σ) else vz_b1 (f_X9_copies (0 : Int32) (244 : Int32) σ) (fun σ8 => vz_b1 (f_X9_shiftsOn (244 : Int32) x1 x4 σ8) (fun σ11 => vz_b2 (f_X9_pairsOn (244 : Int32) σ11) (fun v13 σ14 => vz_b2 (f_X9_isMore v13 σ14) (fun v16 σ17 => if v16 = 0 then f_X9_begin_30 n x1 x2 x3 (x4 + (1 : Int32)) σ17 else f_X9_begin_30 n x1 x2 x4 (x4 + (1 : Int32)) σ17)))) else none := rfl
set_option maxRecDepth 20000 in
set_option maxHeartbeats 1000000 in
theorem wn_X9_begin_30 (z : vz_Z) (μ : vz_M) (hc : vz_C z μ cX9_begin RX9 5 5) {r : Int32} {σ' : vz_I} (hret : ∀ (pc : Nat) (L : vz_L), vz_ret cX9_begin (some .int) pc (some (.int r)) → vz_V z μ 0 0 pc L ((some (.int r)) : Option Value).toList vz_G0 σ' vz_N0) : ∀ (n : Nat) (x1 : Int32) (x2 : Int32) (x3 : Int32) (x4 : Int32) (σ : vz_I)  (h : f_X9_begin_30  n x1 x2 x3 x4 σ = some (r, σ')), vz_V z μ 0 0 30 [(0, some (.ref 108)), (1, some (.int x1)), (2, some (.int x2)), (3, some (.int x3)), (4, some (.int x4))] [] vz_G0 σ vz_N0 := by
  intro n
  induction n with
  | zero =>
    intro x1 x2 x3 x4 σ h
    cases h
  | succ n ih =>
    intro x1 x2 x3 x4 σ h
    rw [f_X9_begin_30_s] at h
    refine vr_iload (pc := 30) hc dX9_begin_30 rfl ?_
    refine vr_aload_n (pc := 32) hc dX9_begin_32 rfl ?_
    refine vr_getR (pc := 33) hc dX9_begin_33 fl_X9_7 gc_108 (gr_9_0 gc_108).1 ?_
    refine vr_bipush (pc := 36) hc dX9_begin_36 (8 : Int32) (by decide) ?_
    refine vr_iload_n (pc := 38) hc dX9_begin_38 rfl ?_
    refine vr_iadd (pc := 39) hc dX9_begin_39 ?_
    have hb3 := vz_ifp h
    rw [if_pos hb3] at h
    refine vr_iald (pc := 40) hc 305 dX9_begin_40 ((gr_9_0 gc_108).2.1) ((gr_9_0 gc_108).2.2) (vz_in_vp hb3) ?_
    refine vr_icmp_ge (pc := 41) hc 89 dX9_begin_41 (by decide) (fun hb4 => ?_) (fun hb4 => ?_)
    · rw [if_pos hb4] at h
      refine vr_iload_n (pc := 89) hc dX9_begin_89 rfl ?_
      refine vr_if_ne (pc := 90) hc 97 dX9_begin_90 (by decide) (fun hb5 => ?_) (fun hb5 => ?_)
      · rw [if_neg hb5] at h
        refine vr_aload_n (pc := 97) hc dX9_begin_97 rfl ?_
        refine vr_getI (pc := 98) hc dX9_begin_98 fl_X9_232 gc_108 (gi_9_22 gc_108) ?_
        obtain ⟨rfl, rfl⟩ := vz_in2 h
        exact hret _ _ (vz_ret_i dX9_begin_101 rfl)
      · rw [if_pos hb5] at h
        refine vr_iload_n (pc := 93) hc dX9_begin_93 rfl ?_
        refine vr_goto (pc := 94) hc 101 dX9_begin_94 (by decide) ?_
        obtain ⟨rfl, rfl⟩ := vz_in2 h
        exact hret _ _ (vz_ret_i dX9_begin_101 rfl)
    · rw [if_neg hb4] at h
      refine vr_aload_n (pc := 44) hc dX9_begin_44 rfl ?_
      refine vr_iconst (pc := 45) hc dX9_begin_45 (0 : Int32) (by decide) ?_
      refine vr_sipush (pc := 46) hc dX9_begin_46 (244 : Int32) (by decide) ?_
      obtain ⟨σ8, he6, h⟩ := vz_b1e h
      refine vr_cVv (pc := 49) hc dX9_begin_49 mt_X9_copies ml_X9_235 gc_108 (w_X9_copies z μ.2.1 (0 : Int32) (244 : Int32) σ he6) rfl (by decide) rfl (Nat.le_of_ble_eq_true rfl) ?_
      refine vr_aload_n (pc := 52) hc dX9_begin_52 rfl ?_
      refine vr_sipush (pc := 53) hc dX9_begin_53 (244 : Int32) (by decide) ?_
      refine vr_iload_n (pc := 56) hc dX9_begin_56 rfl ?_
      refine vr_iload (pc := 57) hc dX9_begin_57 rfl ?_
      obtain ⟨σ11, he9, h⟩ := vz_b1e h
      refine vr_cVv (pc := 59) hc dX9_begin_59 mt_X9_shiftsOn ml_X9_218 gc_108 (w_X9_shiftsOn z μ.2.1 (244 : Int32) x1 x4 σ8 he9) rfl (by decide) rfl (Nat.le_of_ble_eq_true rfl) ?_
      refine vr_aload_n (pc := 62) hc dX9_begin_62 rfl ?_
      refine vr_aload_n (pc := 63) hc dX9_begin_63 rfl ?_
      refine vr_sipush (pc := 64) hc dX9_begin_64 (244 : Int32) (by decide) ?_
      obtain ⟨v13, σ14, he12, h⟩ := vz_b2e h
      refine vr_cVi (pc := 67) hc dX9_begin_67 mt_X9_pairsOn ml_X9_195 gc_108 (w_X9_pairsOn z μ.2.1 (244 : Int32) σ11 he12) rfl (by decide) rfl (Nat.le_of_ble_eq_true rfl) ?_
      obtain ⟨v16, σ17, he15, h⟩ := vz_b2e h
      refine vr_cVi (pc := 70) hc dX9_begin_70 mt_X9_isMore ml_X9_239 gc_108 (w_X9_isMore z μ.2.1 v13 σ14 he15) rfl (by decide) rfl (Nat.le_of_ble_eq_true rfl) ?_
      refine vr_if_eq (pc := 73) hc 81 dX9_begin_73 (by decide) (fun hb18 => ?_) (fun hb18 => ?_)
      · rw [if_pos hb18] at h
        refine vr_iload_n (pc := 81) hc dX9_begin_81 rfl ?_
        refine vr_istore_n (pc := 82) hc dX9_begin_82 (by decide) rfl ?_
        refine vr_iinc (pc := 83) hc dX9_begin_83 (1 : Int32) (by decide) rfl (by decide) rfl ?_
        refine vr_goto (pc := 86) hc 30 dX9_begin_86 (by decide) ?_
        exact vz_sub (ih x1 x2 x3 (x4 + (1 : Int32)) σ17  h) (vz_sb1 rfl (vz_sb1 rfl (vz_sb1 rfl (vz_sb1 rfl (vz_sb1 rfl vz_sb0)))))
      · rw [if_neg hb18] at h
        refine vr_iload (pc := 76) hc dX9_begin_76 rfl ?_
        refine vr_goto (pc := 78) hc 82 dX9_begin_78 (by decide) ?_
        refine vr_istore_n (pc := 82) hc dX9_begin_82 (by decide) rfl ?_
        refine vr_iinc (pc := 83) hc dX9_begin_83 (1 : Int32) (by decide) rfl (by decide) rfl ?_
        refine vr_goto (pc := 86) hc 30 dX9_begin_86 (by decide) ?_
        exact vz_sub (ih x1 x2 x4 (x4 + (1 : Int32)) σ17  h) (vz_sb1 rfl (vz_sb1 rfl (vz_sb1 rfl (vz_sb1 rfl (vz_sb1 rfl vz_sb0)))))
def f_X9_begin (x1 : Int32) (x2 : Int32) (σ : vz_I) : Option (Int32 × vz_I) := if (f_X9_isMan x1 σ) = 0 then some ((-1 : Int32), σ) else if (f_X9_in x2.toInt64 (0 : Int64) (1 : Int64)) = 0 then some ((-1 : Int32), σ) else f_X9_begin_30 vz_fu x1 x2 (0 : Int32) (0 : Int32) (vz_up σ 108 22 (-1 : Int32))
set_option maxRecDepth 20000 in
set_option maxHeartbeats 1000000 in
theorem w_X9_begin (z : vz_Z) (l : Launch) (x1 : Int32) (x2 : Int32) (σ : vz_I)  {r : Int32} {σ' : vz_I} (h : f_X9_begin x1 x2 σ = some (r, σ')) : vz_Con z l 5 yX9_begin cX9_begin 5 (some .int) [.ref 108, .int x1, .int x2] vz_G0 σ vz_N0 (some (.int r)) vz_G0 σ' vz_N0 0 0 := by
  refine vz_con (by decide) (Nat.le_of_ble_eq_true rfl) (fun μ hc hl hcap hret => ?_)
  subst hl
  unfold f_X9_begin at h
  refine vr_aload_n (pc := 0) hc dX9_begin_0 rfl ?_
  refine vr_iload_n (pc := 1) hc dX9_begin_1 rfl ?_
  refine vr_cVi (pc := 2) hc dX9_begin_2 mt_X9_isMan ml_X9_198 gc_108 (w_X9_isMan z μ.2.1 x1 σ rfl) rfl (by decide) rfl (Nat.le_of_ble_eq_true rfl) ?_
  refine vr_if_eq (pc := 5) hc 18 dX9_begin_5 (by decide) (fun hb1 => ?_) (fun hb1 => ?_)
  · rw [if_pos hb1] at h
    refine vr_iconst (pc := 18) hc dX9_begin_18 (-1 : Int32) (by decide) ?_
    obtain ⟨rfl, rfl⟩ := vz_in2 h
    exact hret _ _ (vz_ret_i dX9_begin_19 rfl)
  · rw [if_neg hb1] at h
    refine vr_iload_n (pc := 8) hc dX9_begin_8 rfl ?_
    refine vr_i2l (pc := 9) hc dX9_begin_9 ?_
    refine vr_lconst (pc := 10) hc dX9_begin_10 (0 : Int64) (by decide) ?_
    refine vr_lconst (pc := 11) hc dX9_begin_11 (1 : Int64) (by decide) ?_
    refine vr_cSi (pc := 12) hc dX9_begin_12 mt_X9_in sx_X9_in ml_X9_55  (w_X9_in z μ.2.1 x2.toInt64 (0 : Int64) (1 : Int64) σ rfl) rfl (by decide) rfl (Nat.le_of_ble_eq_true rfl) ?_
    refine vr_if_ne (pc := 15) hc 20 dX9_begin_15 (by decide) (fun hb2 => ?_) (fun hb2 => ?_)
    · rw [if_neg hb2] at h
      refine vr_aload_n (pc := 20) hc dX9_begin_20 rfl ?_
      refine vr_iconst (pc := 21) hc dX9_begin_21 (-1 : Int32) (by decide) ?_
      refine vr_putI (pc := 22) hc dX9_begin_22 fl_X9_232 gc_108 (gi_9_22 gc_108) rfl rfl ?_
      refine vr_iconst (pc := 25) hc dX9_begin_25 (0 : Int32) (by decide) ?_
      refine vr_istore_n (pc := 26) hc dX9_begin_26 (by decide) rfl ?_
      refine vr_iconst (pc := 27) hc dX9_begin_27 (0 : Int32) (by decide) ?_
      refine vr_istore (pc := 28) hc dX9_begin_28 (by decide) rfl ?_
      exact vz_sub (wn_X9_begin_30 z μ hc hret vz_fu x1 x2 (0 : Int32) (0 : Int32) (vz_up σ 108 22 (-1 : Int32)) h) (vz_sb1 rfl (vz_sb1 rfl (vz_sb1 rfl (vz_sb1 rfl (vz_sb1 rfl vz_sb0)))))
    · rw [if_pos hb2] at h
      refine vr_iconst (pc := 18) hc dX9_begin_18 (-1 : Int32) (by decide) ?_
      obtain ⟨rfl, rfl⟩ := vz_in2 h
      exact hret _ _ (vz_ret_i dX9_begin_19 rfl)
-- X9_kind: depth 5, effects S=True W=True P=True
def f_X9_kind_38 : Nat → Int32 → Int32 → Int32 → Int32 → vz_I → Option (Int32 × vz_I)
  | 0, _, _, _, _, _ => none
  | n + 1, x1, x2, x3, x4, σ => if (4 : Int32) ≤ x4 then if x2 = 0 then some (x3, σ) else some (σ 108 22, σ) else if vz_in ((244 : Int32) + x1) 305 then vz_b2 (f_X9_pairsOn (244 : Int32) (vz_up σ 109 ((244 : Int32) + x1).toNatClampNeg x4)) (fun v10 σ11 => vz_b2 (f_X9_isMore v10 σ11) (fun v13 σ14 => if v13 = 0 then f_X9_kind_38 n x1 x2 x3 (x4 + (1 : Int32)) σ14 else f_X9_kind_38 n x1 x2 x4 (x4 + (1 : Int32)) σ14)) else none
theorem f_X9_kind_38_s (n : Nat) (x1 : Int32) (x2 : Int32) (x3 : Int32) (x4 : Int32) (σ : vz_I) : f_X9_kind_38  (n + 1) x1 x2 x3 x4 σ = if (4 : Int32) ≤ x4 then if x2 = 0 then some (x3, σ) else some (σ 108 22, σ) else if vz_in ((244 : Int32) + x1) 305 then vz_b2 (f_X9_pairsOn (244 : Int32) (vz_up σ 109 ((244 : Int32) + x1).toNatClampNeg x4)) (fun v10 σ11 => vz_b2 (f_X9_isMore v10 σ11) (fun v13 σ14 => if v13 = 0 then f_X9_kind_38 n x1 x2 x3 (x4 + (1 : Int32)) σ14 else f_X9_kind_38 n x1 x2 x4 (x4 + (1 : Int32)) σ14)) else none := rfl
set_option maxRecDepth 20000 in
set_option maxHeartbeats 1000000 in
theorem wn_X9_kind_38 (z : vz_Z) (μ : vz_M) (hc : vz_C z μ cX9_kind RX9 5 5) {r : Int32} {σ' : vz_I} (hret : ∀ (pc : Nat) (L : vz_L), vz_ret cX9_kind (some .int) pc (some (.int r)) → vz_V z μ 0 0 pc L ((some (.int r)) : Option Value).toList vz_G0 σ' vz_N0) : ∀ (n : Nat) (x1 : Int32) (x2 : Int32) (x3 : Int32) (x4 : Int32) (σ : vz_I)  (h : f_X9_kind_38  n x1 x2 x3 x4 σ = some (r, σ')), vz_V z μ 0 0 38 [(0, some (.ref 108)), (1, some (.int x1)), (2, some (.int x2)), (3, some (.int x3)), (4, some (.int x4))] [] vz_G0 σ vz_N0 := by
  intro n
  induction n with
  | zero =>
    intro x1 x2 x3 x4 σ h
    cases h
  | succ n ih =>
    intro x1 x2 x3 x4 σ h
    rw [f_X9_kind_38_s] at h
    refine vr_iload (pc := 38) hc dX9_kind_38 rfl ?_
    refine vr_iconst (pc := 40) hc dX9_kind_40 (4 : Int32) (by decide) ?_
    refine vr_icmp_ge (pc := 41) hc 83 dX9_kind_41 (by decide) (fun hb6 => ?_) (fun hb6 => ?_)
    · rw [if_pos hb6] at h
      refine vr_iload_n (pc := 83) hc dX9_kind_83 rfl ?_
      refine vr_if_ne (pc := 84) hc 91 dX9_kind_84 (by decide) (fun hb7 => ?_) (fun hb7 => ?_)
      · rw [if_neg hb7] at h
        refine vr_aload_n (pc := 91) hc dX9_kind_91 rfl ?_
        refine vr_getI (pc := 92) hc dX9_kind_92 fl_X9_232 gc_108 (gi_9_22 gc_108) ?_
        obtain ⟨rfl, rfl⟩ := vz_in2 h
        exact hret _ _ (vz_ret_i dX9_kind_95 rfl)
      · rw [if_pos hb7] at h
        refine vr_iload_n (pc := 87) hc dX9_kind_87 rfl ?_
        refine vr_goto (pc := 88) hc 95 dX9_kind_88 (by decide) ?_
        obtain ⟨rfl, rfl⟩ := vz_in2 h
        exact hret _ _ (vz_ret_i dX9_kind_95 rfl)
    · rw [if_neg hb6] at h
      refine vr_aload_n (pc := 44) hc dX9_kind_44 rfl ?_
      refine vr_getR (pc := 45) hc dX9_kind_45 fl_X9_7 gc_108 (gr_9_0 gc_108).1 ?_
      refine vr_sipush (pc := 48) hc dX9_kind_48 (244 : Int32) (by decide) ?_
      refine vr_iload_n (pc := 51) hc dX9_kind_51 rfl ?_
      refine vr_iadd (pc := 52) hc dX9_kind_52 ?_
      refine vr_iload (pc := 53) hc dX9_kind_53 rfl ?_
      have hb8 := vz_ifp h
      rw [if_pos hb8] at h
      refine vr_iast (pc := 55) hc 305 dX9_kind_55 ((gr_9_0 gc_108).2.1) ((gr_9_0 gc_108).2.2) (vz_in_vp hb8) ?_
      refine vr_aload_n (pc := 56) hc dX9_kind_56 rfl ?_
      refine vr_aload_n (pc := 57) hc dX9_kind_57 rfl ?_
      refine vr_sipush (pc := 58) hc dX9_kind_58 (244 : Int32) (by decide) ?_
      obtain ⟨v10, σ11, he9, h⟩ := vz_b2e h
      refine vr_cVi (pc := 61) hc dX9_kind_61 mt_X9_pairsOn ml_X9_195 gc_108 (w_X9_pairsOn z μ.2.1 (244 : Int32) (vz_up σ 109 ((244 : Int32) + x1).toNatClampNeg x4) he9) rfl (by decide) rfl (Nat.le_of_ble_eq_true rfl) ?_
      obtain ⟨v13, σ14, he12, h⟩ := vz_b2e h
      refine vr_cVi (pc := 64) hc dX9_kind_64 mt_X9_isMore ml_X9_239 gc_108 (w_X9_isMore z μ.2.1 v10 σ11 he12) rfl (by decide) rfl (Nat.le_of_ble_eq_true rfl) ?_
      refine vr_if_eq (pc := 67) hc 75 dX9_kind_67 (by decide) (fun hb15 => ?_) (fun hb15 => ?_)
      · rw [if_pos hb15] at h
        refine vr_iload_n (pc := 75) hc dX9_kind_75 rfl ?_
        refine vr_istore_n (pc := 76) hc dX9_kind_76 (by decide) rfl ?_
        refine vr_iinc (pc := 77) hc dX9_kind_77 (1 : Int32) (by decide) rfl (by decide) rfl ?_
        refine vr_goto (pc := 80) hc 38 dX9_kind_80 (by decide) ?_
        exact vz_sub (ih x1 x2 x3 (x4 + (1 : Int32)) σ14  h) (vz_sb1 rfl (vz_sb1 rfl (vz_sb1 rfl (vz_sb1 rfl (vz_sb1 rfl vz_sb0)))))
      · rw [if_neg hb15] at h
        refine vr_iload (pc := 70) hc dX9_kind_70 rfl ?_
        refine vr_goto (pc := 72) hc 76 dX9_kind_72 (by decide) ?_
        refine vr_istore_n (pc := 76) hc dX9_kind_76 (by decide) rfl ?_
        refine vr_iinc (pc := 77) hc dX9_kind_77 (1 : Int32) (by decide) rfl (by decide) rfl ?_
        refine vr_goto (pc := 80) hc 38 dX9_kind_80 (by decide) ?_
        exact vz_sub (ih x1 x2 x4 (x4 + (1 : Int32)) σ14  h) (vz_sb1 rfl (vz_sb1 rfl (vz_sb1 rfl (vz_sb1 rfl (vz_sb1 rfl vz_sb0)))))
def f_X9_kind (x1 : Int32) (x2 : Int32) (σ : vz_I) : Option (Int32 × vz_I) := if (f_X9_isMan x1 σ) = 0 then some ((-1 : Int32), σ) else if (f_X9_in x2.toInt64 (0 : Int64) (1 : Int64)) = 0 then some ((-1 : Int32), σ) else vz_b1 (f_X9_copies (0 : Int32) (244 : Int32) (vz_up σ 108 22 (-1 : Int32))) (fun σ5 => f_X9_kind_38 vz_fu x1 x2 (0 : Int32) (0 : Int32) σ5)
set_option maxRecDepth 20000 in
set_option maxHeartbeats 1000000 in
theorem w_X9_kind (z : vz_Z) (l : Launch) (x1 : Int32) (x2 : Int32) (σ : vz_I)  {r : Int32} {σ' : vz_I} (h : f_X9_kind x1 x2 σ = some (r, σ')) : vz_Con z l 5 yX9_kind cX9_kind 5 (some .int) [.ref 108, .int x1, .int x2] vz_G0 σ vz_N0 (some (.int r)) vz_G0 σ' vz_N0 0 0 := by
  refine vz_con (by decide) (Nat.le_of_ble_eq_true rfl) (fun μ hc hl hcap hret => ?_)
  subst hl
  unfold f_X9_kind at h
  refine vr_aload_n (pc := 0) hc dX9_kind_0 rfl ?_
  refine vr_iload_n (pc := 1) hc dX9_kind_1 rfl ?_
  refine vr_cVi (pc := 2) hc dX9_kind_2 mt_X9_isMan ml_X9_198 gc_108 (w_X9_isMan z μ.2.1 x1 σ rfl) rfl (by decide) rfl (Nat.le_of_ble_eq_true rfl) ?_
  refine vr_if_eq (pc := 5) hc 18 dX9_kind_5 (by decide) (fun hb1 => ?_) (fun hb1 => ?_)
  · rw [if_pos hb1] at h
    refine vr_iconst (pc := 18) hc dX9_kind_18 (-1 : Int32) (by decide) ?_
    obtain ⟨rfl, rfl⟩ := vz_in2 h
    exact hret _ _ (vz_ret_i dX9_kind_19 rfl)
  · rw [if_neg hb1] at h
    refine vr_iload_n (pc := 8) hc dX9_kind_8 rfl ?_
    refine vr_i2l (pc := 9) hc dX9_kind_9 ?_
    refine vr_lconst (pc := 10) hc dX9_kind_10 (0 : Int64) (by decide) ?_
    refine vr_lconst (pc := 11) hc dX9_kind_11 (1 : Int64) (by decide) ?_
    refine vr_cSi (pc := 12) hc dX9_kind_12 mt_X9_in sx_X9_in ml_X9_55  (w_X9_in z μ.2.1 x2.toInt64 (0 : Int64) (1 : Int64) σ rfl) rfl (by decide) rfl (Nat.le_of_ble_eq_true rfl) ?_
    refine vr_if_ne (pc := 15) hc 20 dX9_kind_15 (by decide) (fun hb2 => ?_) (fun hb2 => ?_)
    · rw [if_neg hb2] at h
      refine vr_aload_n (pc := 20) hc dX9_kind_20 rfl ?_
      refine vr_iconst (pc := 21) hc dX9_kind_21 (-1 : Int32) (by decide) ?_
      refine vr_putI (pc := 22) hc dX9_kind_22 fl_X9_232 gc_108 (gi_9_22 gc_108) rfl rfl ?_
      refine vr_iconst (pc := 25) hc dX9_kind_25 (0 : Int32) (by decide) ?_
      refine vr_istore_n (pc := 26) hc dX9_kind_26 (by decide) rfl ?_
      refine vr_aload_n (pc := 27) hc dX9_kind_27 rfl ?_
      refine vr_iconst (pc := 28) hc dX9_kind_28 (0 : Int32) (by decide) ?_
      refine vr_sipush (pc := 29) hc dX9_kind_29 (244 : Int32) (by decide) ?_
      obtain ⟨σ5, he3, h⟩ := vz_b1e h
      refine vr_cVv (pc := 32) hc dX9_kind_32 mt_X9_copies ml_X9_235 gc_108 (w_X9_copies z μ.2.1 (0 : Int32) (244 : Int32) (vz_up σ 108 22 (-1 : Int32)) he3) rfl (by decide) rfl (Nat.le_of_ble_eq_true rfl) ?_
      refine vr_iconst (pc := 35) hc dX9_kind_35 (0 : Int32) (by decide) ?_
      refine vr_istore (pc := 36) hc dX9_kind_36 (by decide) rfl ?_
      exact vz_sub (wn_X9_kind_38 z μ hc hret vz_fu x1 x2 (0 : Int32) (0 : Int32) σ5 h) (vz_sb1 rfl (vz_sb1 rfl (vz_sb1 rfl (vz_sb1 rfl (vz_sb1 rfl vz_sb0)))))
    · rw [if_pos hb2] at h
      refine vr_iconst (pc := 18) hc dX9_kind_18 (-1 : Int32) (by decide) ?_
      obtain ⟨rfl, rfl⟩ := vz_in2 h
      exact hret _ _ (vz_ret_i dX9_kind_19 rfl)
-- X9_swap: depth 5, effects S=True W=True P=True
def f_X9_swap_39 (k26 : Int32 → Int32 → Int32 → vz_I → Option (Int32 × vz_I)) : Nat → Int32 → Int32 → Int32 → Int32 → vz_I → Option (Int32 × vz_I)
  | 0, _, _, _, _, _ => none
  | n + 1, x1, x2, x3, x4, σ => if (σ 108 1) ≤ x4 then k26 x1 x2 (x3 + (1 : Int32)) σ else vz_b1 (f_X9_copies (0 : Int32) (244 : Int32) σ) (fun σ11 => if vz_in ((4 : Int32) + x4) 305 then if vz_in ((248 : Int32) + x3) 305 then vz_let (vz_up σ11 109 ((248 : Int32) + x3).toNatClampNeg (σ11 109 ((4 : Int32) + x4).toNatClampNeg)) (fun σ14 => if vz_in ((4 : Int32) + x3) 305 then if vz_in ((248 : Int32) + x4) 305 then vz_let (vz_up σ14 109 ((248 : Int32) + x4).toNatClampNeg (σ14 109 ((4 : Int32) + x3).toNatClampNeg)) (fun σ18 => vz_b2 (f_X9_pairsOn (244 : Int32) σ18) (fun v21 σ22 => vz_b2 (f_X9_isMore v21 σ22) (fun v24 σ25 => if v24 = 0 then f_X9_swap_39 k26 n x1 x2 x3 (x4 + (1 : Int32)) σ25 else f_X9_swap_39 k26 n x1 (((10 : Int32) * x3) + x4) x3 (x4 + (1 : Int32)) σ25))) else none else none) else none else none)
theorem f_X9_swap_39_s (k26 : Int32 → Int32 → Int32 → vz_I → Option (Int32 × vz_I)) (n : Nat) (x1 : Int32) (x2 : Int32) (x3 : Int32) (x4 : Int32) (σ : vz_I) : f_X9_swap_39 k26 (n + 1) x1 x2 x3 x4 σ = if (σ 108 1) ≤ x4 then k26 x1 x2 (x3 + (1 : Int32)) σ else vz_b1 (f_X9_copies (0 : Int32) (244 : Int32) σ) (fun σ11 => if vz_in ((4 : Int32) + x4) 305 then if vz_in ((248 : Int32) + x3) 305 then vz_let (vz_up σ11 109 ((248 : Int32) + x3).toNatClampNeg (σ11 109 ((4 : Int32) + x4).toNatClampNeg)) (fun σ14 => if vz_in ((4 : Int32) + x3) 305 then if vz_in ((248 : Int32) + x4) 305 then vz_let (vz_up σ14 109 ((248 : Int32) + x4).toNatClampNeg (σ14 109 ((4 : Int32) + x3).toNatClampNeg)) (fun σ18 => vz_b2 (f_X9_pairsOn (244 : Int32) σ18) (fun v21 σ22 => vz_b2 (f_X9_isMore v21 σ22) (fun v24 σ25 => if v24 = 0 then f_X9_swap_39 k26 n x1 x2 x3 (x4 + (1 : Int32)) σ25 else f_X9_swap_39 k26 n x1 (((10 : Int32) * x3) + x4) x3 (x4 + (1 : Int32)) σ25))) else none else none) else none else none) := rfl
set_option maxRecDepth 20000 in
set_option maxHeartbeats 1000000 in
theorem wn_X9_swap_39 (z : vz_Z) (μ : vz_M) (hc : vz_C z μ cX9_swap RX9 5 5) {r : Int32} {σ' : vz_I} (hret : ∀ (pc : Nat) (L : vz_L), vz_ret cX9_swap (some .int) pc (some (.int r)) → vz_V z μ 0 0 pc L ((some (.int r)) : Option Value).toList vz_G0 σ' vz_N0) (k26 : Int32 → Int32 → Int32 → vz_I → Option (Int32 × vz_I)) (hk26 : ∀ (x1 : Int32) (x2 : Int32) (x3 : Int32) (σ : vz_I), k26 x1 x2 x3 σ = some (r, σ') → vz_V z μ 0 0 26 [(0, some (.ref 108)), (1, some (.int x1)), (2, some (.int x2)), (3, some (.int x3))] [] vz_G0 σ vz_N0) : ∀ (n : Nat) (x1 : Int32) (x2 : Int32) (x3 : Int32) (x4 : Int32) (σ : vz_I)  (h : f_X9_swap_39 k26 n x1 x2 x3 x4 σ = some (r, σ')), vz_V z μ 0 0 39 [(0, some (.ref 108)), (1, some (.int x1)), (2, some (.int x2)), (3, some (.int x3)), (4, some (.int x4))] [] vz_G0 σ vz_N0 := by
  intro n
  induction n with
  | zero =>
    intro x1 x2 x3 x4 σ h
    cases h
  | succ n ih =>
    intro x1 x2 x3 x4 σ h
    rw [f_X9_swap_39_s] at h
    refine vr_iload (pc := 39) hc dX9_swap_39 rfl ?_
    refine vr_aload_n (pc := 41) hc dX9_swap_41 rfl ?_
    refine vr_getI (pc := 42) hc dX9_swap_42 fl_X9_150 gc_108 (gi_9_1 gc_108) ?_
    refine vr_icmp_ge (pc := 45) hc 126 dX9_swap_45 (by decide) (fun hb8 => ?_) (fun hb8 => ?_)
    · rw [if_pos hb8] at h
      refine vr_iinc (pc := 126) hc dX9_swap_126 (1 : Int32) (by decide) rfl (by decide) rfl ?_
      refine vr_goto (pc := 129) hc 26 dX9_swap_129 (by decide) ?_
      exact vz_sub (hk26 x1 x2 (x3 + (1 : Int32)) σ  h) (vz_sb1 rfl (vz_sb1 rfl (vz_sb1 rfl (vz_sb1 rfl vz_sb0))))
    · rw [if_neg hb8] at h
      refine vr_aload_n (pc := 48) hc dX9_swap_48 rfl ?_
      refine vr_iconst (pc := 49) hc dX9_swap_49 (0 : Int32) (by decide) ?_
      refine vr_sipush (pc := 50) hc dX9_swap_50 (244 : Int32) (by decide) ?_
      obtain ⟨σ11, he9, h⟩ := vz_b1e h
      refine vr_cVv (pc := 53) hc dX9_swap_53 mt_X9_copies ml_X9_235 gc_108 (w_X9_copies z μ.2.1 (0 : Int32) (244 : Int32) σ he9) rfl (by decide) rfl (Nat.le_of_ble_eq_true rfl) ?_
      refine vr_aload_n (pc := 56) hc dX9_swap_56 rfl ?_
      refine vr_getR (pc := 57) hc dX9_swap_57 fl_X9_7 gc_108 (gr_9_0 gc_108).1 ?_
      refine vr_sipush (pc := 60) hc dX9_swap_60 (248 : Int32) (by decide) ?_
      refine vr_iload_n (pc := 63) hc dX9_swap_63 rfl ?_
      refine vr_iadd (pc := 64) hc dX9_swap_64 ?_
      refine vr_aload_n (pc := 65) hc dX9_swap_65 rfl ?_
      refine vr_getR (pc := 66) hc dX9_swap_66 fl_X9_7 gc_108 (gr_9_0 gc_108).1 ?_
      refine vr_iconst (pc := 69) hc dX9_swap_69 (4 : Int32) (by decide) ?_
      refine vr_iload (pc := 70) hc dX9_swap_70 rfl ?_
      refine vr_iadd (pc := 72) hc dX9_swap_72 ?_
      have hb12 := vz_ifp h
      rw [if_pos hb12] at h
      refine vr_iald (pc := 73) hc 305 dX9_swap_73 ((gr_9_0 gc_108).2.1) ((gr_9_0 gc_108).2.2) (vz_in_vp hb12) ?_
      have hb13 := vz_ifp h
      rw [if_pos hb13] at h
      refine vr_iast (pc := 74) hc 305 dX9_swap_74 ((gr_9_0 gc_108).2.1) ((gr_9_0 gc_108).2.2) (vz_in_vp hb13) ?_
      obtain ⟨σ14, hσ15⟩ : ∃ x, x = vz_up σ11 109 ((248 : Int32) + x3).toNatClampNeg (σ11 109 ((4 : Int32) + x4).toNatClampNeg) := ⟨_, rfl⟩
      rw [← hσ15] at h ⊢
      rw [vz_let_e] at h
      refine vr_aload_n (pc := 75) hc dX9_swap_75 rfl ?_
      refine vr_getR (pc := 76) hc dX9_swap_76 fl_X9_7 gc_108 (gr_9_0 gc_108).1 ?_
      refine vr_sipush (pc := 79) hc dX9_swap_79 (248 : Int32) (by decide) ?_
      refine vr_iload (pc := 82) hc dX9_swap_82 rfl ?_
      refine vr_iadd (pc := 84) hc dX9_swap_84 ?_
      refine vr_aload_n (pc := 85) hc dX9_swap_85 rfl ?_
      refine vr_getR (pc := 86) hc dX9_swap_86 fl_X9_7 gc_108 (gr_9_0 gc_108).1 ?_
      refine vr_iconst (pc := 89) hc dX9_swap_89 (4 : Int32) (by decide) ?_
      refine vr_iload_n (pc := 90) hc dX9_swap_90 rfl ?_
      refine vr_iadd (pc := 91) hc dX9_swap_91 ?_
      have hb16 := vz_ifp h
      rw [if_pos hb16] at h
      refine vr_iald (pc := 92) hc 305 dX9_swap_92 ((gr_9_0 gc_108).2.1) ((gr_9_0 gc_108).2.2) (vz_in_vp hb16) ?_
      have hb17 := vz_ifp h
      rw [if_pos hb17] at h
      refine vr_iast (pc := 93) hc 305 dX9_swap_93 ((gr_9_0 gc_108).2.1) ((gr_9_0 gc_108).2.2) (vz_in_vp hb17) ?_
      obtain ⟨σ18, hσ19⟩ : ∃ x, x = vz_up σ14 109 ((248 : Int32) + x4).toNatClampNeg (σ14 109 ((4 : Int32) + x3).toNatClampNeg) := ⟨_, rfl⟩
      rw [← hσ19] at h ⊢
      rw [vz_let_e] at h
      refine vr_aload_n (pc := 94) hc dX9_swap_94 rfl ?_
      refine vr_aload_n (pc := 95) hc dX9_swap_95 rfl ?_
      refine vr_sipush (pc := 96) hc dX9_swap_96 (244 : Int32) (by decide) ?_
      obtain ⟨v21, σ22, he20, h⟩ := vz_b2e h
      refine vr_cVi (pc := 99) hc dX9_swap_99 mt_X9_pairsOn ml_X9_195 gc_108 (w_X9_pairsOn z μ.2.1 (244 : Int32) σ18 he20) rfl (by decide) rfl (Nat.le_of_ble_eq_true rfl) ?_
      obtain ⟨v24, σ25, he23, h⟩ := vz_b2e h
      refine vr_cVi (pc := 102) hc dX9_swap_102 mt_X9_isMore ml_X9_239 gc_108 (w_X9_isMore z μ.2.1 v21 σ22 he23) rfl (by decide) rfl (Nat.le_of_ble_eq_true rfl) ?_
      refine vr_if_eq (pc := 105) hc 118 dX9_swap_105 (by decide) (fun hb26 => ?_) (fun hb26 => ?_)
      · rw [if_pos hb26] at h
        refine vr_iload_n (pc := 118) hc dX9_swap_118 rfl ?_
        refine vr_istore_n (pc := 119) hc dX9_swap_119 (by decide) rfl ?_
        refine vr_iinc (pc := 120) hc dX9_swap_120 (1 : Int32) (by decide) rfl (by decide) rfl ?_
        refine vr_goto (pc := 123) hc 39 dX9_swap_123 (by decide) ?_
        exact vz_sub (ih x1 x2 x3 (x4 + (1 : Int32)) σ25  h) (vz_sb1 rfl (vz_sb1 rfl (vz_sb1 rfl (vz_sb1 rfl (vz_sb1 rfl vz_sb0)))))
      · rw [if_neg hb26] at h
        refine vr_bipush (pc := 108) hc dX9_swap_108 (10 : Int32) (by decide) ?_
        refine vr_iload_n (pc := 110) hc dX9_swap_110 rfl ?_
        refine vr_imul (pc := 111) hc dX9_swap_111 ?_
        refine vr_iload (pc := 112) hc dX9_swap_112 rfl ?_
        refine vr_iadd (pc := 114) hc dX9_swap_114 ?_
        refine vr_goto (pc := 115) hc 119 dX9_swap_115 (by decide) ?_
        refine vr_istore_n (pc := 119) hc dX9_swap_119 (by decide) rfl ?_
        refine vr_iinc (pc := 120) hc dX9_swap_120 (1 : Int32) (by decide) rfl (by decide) rfl ?_
        refine vr_goto (pc := 123) hc 39 dX9_swap_123 (by decide) ?_
        exact vz_sub (ih x1 (((10 : Int32) * x3) + x4) x3 (x4 + (1 : Int32)) σ25  h) (vz_sb1 rfl (vz_sb1 rfl (vz_sb1 rfl (vz_sb1 rfl (vz_sb1 rfl vz_sb0)))))
def f_X9_swap_26 : Nat → Int32 → Int32 → Int32 → vz_I → Option (Int32 × vz_I)
  | 0, _, _, _, _ => none
  | n + 1, x1, x2, x3, σ => if (σ 108 1) ≤ x3 then if x2 = (-4 : Int32) then some (x2, σ) else if x1 = 0 then some (x2, σ) else some (σ 108 22, σ) else f_X9_swap_39 (f_X9_swap_26 n) vz_fu x1 x2 x3 (x3 + (1 : Int32)) σ
theorem f_X9_swap_26_s (n : Nat) (x1 : Int32) (x2 : Int32) (x3 : Int32) (σ : vz_I) : f_X9_swap_26  (n + 1) x1 x2 x3 σ = if (σ 108 1) ≤ x3 then if x2 = (-4 : Int32) then some (x2, σ) else if x1 = 0 then some (x2, σ) else some (σ 108 22, σ) else f_X9_swap_39 (f_X9_swap_26 n) vz_fu x1 x2 x3 (x3 + (1 : Int32)) σ := rfl
set_option maxRecDepth 20000 in
set_option maxHeartbeats 1000000 in
theorem wn_X9_swap_26 (z : vz_Z) (μ : vz_M) (hc : vz_C z μ cX9_swap RX9 5 5) {r : Int32} {σ' : vz_I} (hret : ∀ (pc : Nat) (L : vz_L), vz_ret cX9_swap (some .int) pc (some (.int r)) → vz_V z μ 0 0 pc L ((some (.int r)) : Option Value).toList vz_G0 σ' vz_N0) : ∀ (n : Nat) (x1 : Int32) (x2 : Int32) (x3 : Int32) (σ : vz_I)  (h : f_X9_swap_26  n x1 x2 x3 σ = some (r, σ')), vz_V z μ 0 0 26 [(0, some (.ref 108)), (1, some (.int x1)), (2, some (.int x2)), (3, some (.int x3))] [] vz_G0 σ vz_N0 := by
  intro n
  induction n with
  | zero =>
    intro x1 x2 x3 σ h
    cases h
  | succ n ih =>
    intro x1 x2 x3 σ h
    rw [f_X9_swap_26_s] at h
    refine vr_iload_n (pc := 26) hc dX9_swap_26 rfl ?_
    refine vr_aload_n (pc := 27) hc dX9_swap_27 rfl ?_
    refine vr_getI (pc := 28) hc dX9_swap_28 fl_X9_150 gc_108 (gi_9_1 gc_108) ?_
    refine vr_icmp_ge (pc := 31) hc 132 dX9_swap_31 (by decide) (fun hb5 => ?_) (fun hb5 => ?_)
    · rw [if_pos hb5] at h
      refine vr_iload_n (pc := 132) hc dX9_swap_132 rfl ?_
      refine vr_bipush (pc := 133) hc dX9_swap_133 (-4 : Int32) (by decide) ?_
      refine vr_icmp_eq (pc := 135) hc 142 dX9_swap_135 (by decide) (fun hb6 => ?_) (fun hb6 => ?_)
      · rw [if_pos hb6] at h
        refine vr_iload_n (pc := 142) hc dX9_swap_142 rfl ?_
        refine vr_goto (pc := 143) hc 150 dX9_swap_143 (by decide) ?_
        obtain ⟨rfl, rfl⟩ := vz_in2 h
        exact hret _ _ (vz_ret_i dX9_swap_150 rfl)
      · rw [if_neg hb6] at h
        refine vr_iload_n (pc := 138) hc dX9_swap_138 rfl ?_
        refine vr_if_ne (pc := 139) hc 146 dX9_swap_139 (by decide) (fun hb7 => ?_) (fun hb7 => ?_)
        · rw [if_neg hb7] at h
          refine vr_aload_n (pc := 146) hc dX9_swap_146 rfl ?_
          refine vr_getI (pc := 147) hc dX9_swap_147 fl_X9_232 gc_108 (gi_9_22 gc_108) ?_
          obtain ⟨rfl, rfl⟩ := vz_in2 h
          exact hret _ _ (vz_ret_i dX9_swap_150 rfl)
        · rw [if_pos hb7] at h
          refine vr_iload_n (pc := 142) hc dX9_swap_142 rfl ?_
          refine vr_goto (pc := 143) hc 150 dX9_swap_143 (by decide) ?_
          obtain ⟨rfl, rfl⟩ := vz_in2 h
          exact hret _ _ (vz_ret_i dX9_swap_150 rfl)
    · rw [if_neg hb5] at h
      refine vr_iload_n (pc := 34) hc dX9_swap_34 rfl ?_
      refine vr_iconst (pc := 35) hc dX9_swap_35 (1 : Int32) (by decide) ?_
      refine vr_iadd (pc := 36) hc dX9_swap_36 ?_
      refine vr_istore (pc := 37) hc dX9_swap_37 (by decide) rfl ?_
      exact vz_sub (wn_X9_swap_39 z μ hc hret (f_X9_swap_26 n) ih vz_fu x1 x2 x3 (x3 + (1 : Int32)) σ h) (vz_sb1 rfl (vz_sb1 rfl (vz_sb1 rfl (vz_sb1 rfl (vz_sb1 rfl vz_sb0)))))
def f_X9_swap (x1 : Int32) (σ : vz_I) : Option (Int32 × vz_I) := if (f_X9_in x1.toInt64 (0 : Int64) (1 : Int64)) = 0 then some ((-1 : Int32), σ) else vz_b2 (f_X9_pairsOn (0 : Int32) σ) (fun v3 σ4 => f_X9_swap_26 vz_fu x1 (-4 : Int32) (0 : Int32) (vz_up σ4 108 22 v3))
set_option maxRecDepth 20000 in
set_option maxHeartbeats 1000000 in
theorem w_X9_swap (z : vz_Z) (l : Launch) (x1 : Int32) (σ : vz_I)  {r : Int32} {σ' : vz_I} (h : f_X9_swap x1 σ = some (r, σ')) : vz_Con z l 5 yX9_swap cX9_swap 5 (some .int) [.ref 108, .int x1] vz_G0 σ vz_N0 (some (.int r)) vz_G0 σ' vz_N0 0 0 := by
  refine vz_con (by decide) (Nat.le_of_ble_eq_true rfl) (fun μ hc hl hcap hret => ?_)
  subst hl
  unfold f_X9_swap at h
  refine vr_iload_n (pc := 0) hc dX9_swap_0 rfl ?_
  refine vr_i2l (pc := 1) hc dX9_swap_1 ?_
  refine vr_lconst (pc := 2) hc dX9_swap_2 (0 : Int64) (by decide) ?_
  refine vr_lconst (pc := 3) hc dX9_swap_3 (1 : Int64) (by decide) ?_
  refine vr_cSi (pc := 4) hc dX9_swap_4 mt_X9_in sx_X9_in ml_X9_55  (w_X9_in z μ.2.1 x1.toInt64 (0 : Int64) (1 : Int64) σ rfl) rfl (by decide) rfl (Nat.le_of_ble_eq_true rfl) ?_
  refine vr_if_ne (pc := 7) hc 12 dX9_swap_7 (by decide) (fun hb1 => ?_) (fun hb1 => ?_)
  · rw [if_neg hb1] at h
    refine vr_aload_n (pc := 12) hc dX9_swap_12 rfl ?_
    refine vr_aload_n (pc := 13) hc dX9_swap_13 rfl ?_
    refine vr_iconst (pc := 14) hc dX9_swap_14 (0 : Int32) (by decide) ?_
    obtain ⟨v3, σ4, he2, h⟩ := vz_b2e h
    refine vr_cVi (pc := 15) hc dX9_swap_15 mt_X9_pairsOn ml_X9_195 gc_108 (w_X9_pairsOn z μ.2.1 (0 : Int32) σ he2) rfl (by decide) rfl (Nat.le_of_ble_eq_true rfl) ?_
    refine vr_putI (pc := 18) hc dX9_swap_18 fl_X9_232 gc_108 (gi_9_22 gc_108) rfl rfl ?_
    refine vr_bipush (pc := 21) hc dX9_swap_21 (-4 : Int32) (by decide) ?_
    refine vr_istore_n (pc := 23) hc dX9_swap_23 (by decide) rfl ?_
    refine vr_iconst (pc := 24) hc dX9_swap_24 (0 : Int32) (by decide) ?_
    refine vr_istore_n (pc := 25) hc dX9_swap_25 (by decide) rfl ?_
    exact vz_sub (wn_X9_swap_26 z μ hc hret vz_fu x1 (-4 : Int32) (0 : Int32) (vz_up σ4 108 22 v3) h) (vz_sb1 rfl (vz_sb1 rfl (vz_sb1 rfl (vz_sb1 rfl vz_sb0))))
  · rw [if_pos hb1] at h
    refine vr_iconst (pc := 10) hc dX9_swap_10 (-1 : Int32) (by decide) ?_
    obtain ⟨rfl, rfl⟩ := vz_in2 h
    exact hret _ _ (vz_ret_i dX9_swap_11 rfl)
-- X9_spoil: depth 5, effects S=True W=True P=True
def f_X9_spoil_90 (k51 : Int32 → Int32 → Int32 → Int32 → vz_I → Option (Int32 × vz_I)) (x2 : Int32) (x3 : Int32) (x5 : Int32) (x6 : Int32) (xs0 : Int32) (σ : vz_I) : Option (Int32 × vz_I) := if x3 ≤ x6 then k51 x2 x3 xs0 (x5 + (1 : Int32)) σ else k51 x2 x6 xs0 (x5 + (1 : Int32)) σ
set_option maxRecDepth 20000 in
set_option maxHeartbeats 1000000 in
theorem wn_X9_spoil_90 (z : vz_Z) (μ : vz_M) (hc : vz_C z μ cX9_spoil RX9 5 7) {r : Int32} {σ' : vz_I} (hret : ∀ (pc : Nat) (L : vz_L), vz_ret cX9_spoil (some .int) pc (some (.int r)) → vz_V z μ 0 0 pc L ((some (.int r)) : Option Value).toList vz_G0 σ' vz_N0) (k51 : Int32 → Int32 → Int32 → Int32 → vz_I → Option (Int32 × vz_I)) (hk51 : ∀ (x2 : Int32) (x3 : Int32) (x4 : Int32) (x5 : Int32) (σ : vz_I), k51 x2 x3 x4 x5 σ = some (r, σ') → vz_V z μ 0 0 51 [(0, some (.ref 108)), (2, some (.int x2)), (3, some (.int x3)), (4, some (.int x4)), (5, some (.int x5))] [] vz_G0 σ vz_N0) (x2 : Int32) (x3 : Int32) (x5 : Int32) (x6 : Int32) (xs0 : Int32) (σ : vz_I)  (h : f_X9_spoil_90 k51 x2 x3 x5 x6 xs0 σ = some (r, σ')) : vz_V z μ 0 0 90 [(0, some (.ref 108)), (2, some (.int x2)), (3, some (.int x3)), (5, some (.int x5)), (6, some (.int x6))] [.int xs0] vz_G0 σ vz_N0 := by
  unfold f_X9_spoil_90 at h
  refine vr_istore (pc := 90) hc dX9_spoil_90 (by decide) rfl ?_
  refine vr_iload (pc := 92) hc dX9_spoil_92 rfl ?_
  refine vr_iload_n (pc := 94) hc dX9_spoil_94 rfl ?_
  refine vr_icmp_ge (pc := 95) hc 103 dX9_spoil_95 (by decide) (fun hb14 => ?_) (fun hb14 => ?_)
  · rw [if_pos hb14] at h
    refine vr_iload_n (pc := 103) hc dX9_spoil_103 rfl ?_
    refine vr_istore_n (pc := 104) hc dX9_spoil_104 (by decide) rfl ?_
    refine vr_iinc (pc := 105) hc dX9_spoil_105 (1 : Int32) (by decide) rfl (by decide) rfl ?_
    refine vr_goto (pc := 108) hc 51 dX9_spoil_108 (by decide) ?_
    exact vz_sub (hk51 x2 x3 xs0 (x5 + (1 : Int32)) σ  h) (vz_sb1 rfl (vz_sb1 rfl (vz_sb1 rfl (vz_sb1 rfl (vz_sb1 rfl vz_sb0)))))
  · rw [if_neg hb14] at h
    refine vr_iload (pc := 98) hc dX9_spoil_98 rfl ?_
    refine vr_goto (pc := 100) hc 104 dX9_spoil_100 (by decide) ?_
    refine vr_istore_n (pc := 104) hc dX9_spoil_104 (by decide) rfl ?_
    refine vr_iinc (pc := 105) hc dX9_spoil_105 (1 : Int32) (by decide) rfl (by decide) rfl ?_
    refine vr_goto (pc := 108) hc 51 dX9_spoil_108 (by decide) ?_
    exact vz_sub (hk51 x2 x6 xs0 (x5 + (1 : Int32)) σ  h) (vz_sb1 rfl (vz_sb1 rfl (vz_sb1 rfl (vz_sb1 rfl (vz_sb1 rfl vz_sb0)))))
def f_X9_spoil_51 : Nat → Int32 → Int32 → Int32 → Int32 → vz_I → Option (Int32 × vz_I)
  | 0, _, _, _, _, _ => none
  | n + 1, x2, x3, x4, x5, σ => if (60 : Int32) ≤ x5 then if x2 = 0 then some (x4, σ) else some (x3, σ) else if vz_in (284 : Int32) 305 then vz_b2 (f_X9_pairsOn (244 : Int32) (vz_up σ 109 (284 : Int32).toNatClampNeg x5)) (fun v11 σ12 => if x3 ≤ v11 then f_X9_spoil_90 (f_X9_spoil_51 n) x2 x3 x5 v11 x4 σ12 else f_X9_spoil_90 (f_X9_spoil_51 n) x2 x3 x5 v11 x5 σ12) else none
theorem f_X9_spoil_51_s (n : Nat) (x2 : Int32) (x3 : Int32) (x4 : Int32) (x5 : Int32) (σ : vz_I) : f_X9_spoil_51  (n + 1) x2 x3 x4 x5 σ = if (60 : Int32) ≤ x5 then if x2 = 0 then some (x4, σ) else some (x3, σ) else if vz_in (284 : Int32) 305 then vz_b2 (f_X9_pairsOn (244 : Int32) (vz_up σ 109 (284 : Int32).toNatClampNeg x5)) (fun v11 σ12 => if x3 ≤ v11 then f_X9_spoil_90 (f_X9_spoil_51 n) x2 x3 x5 v11 x4 σ12 else f_X9_spoil_90 (f_X9_spoil_51 n) x2 x3 x5 v11 x5 σ12) else none := rfl
set_option maxRecDepth 20000 in
set_option maxHeartbeats 1000000 in
theorem wn_X9_spoil_51 (z : vz_Z) (μ : vz_M) (hc : vz_C z μ cX9_spoil RX9 5 7) {r : Int32} {σ' : vz_I} (hret : ∀ (pc : Nat) (L : vz_L), vz_ret cX9_spoil (some .int) pc (some (.int r)) → vz_V z μ 0 0 pc L ((some (.int r)) : Option Value).toList vz_G0 σ' vz_N0) : ∀ (n : Nat) (x2 : Int32) (x3 : Int32) (x4 : Int32) (x5 : Int32) (σ : vz_I)  (h : f_X9_spoil_51  n x2 x3 x4 x5 σ = some (r, σ')), vz_V z μ 0 0 51 [(0, some (.ref 108)), (2, some (.int x2)), (3, some (.int x3)), (4, some (.int x4)), (5, some (.int x5))] [] vz_G0 σ vz_N0 := by
  intro n
  induction n with
  | zero =>
    intro x2 x3 x4 x5 σ h
    cases h
  | succ n ih =>
    intro x2 x3 x4 x5 σ h
    rw [f_X9_spoil_51_s] at h
    refine vr_iload (pc := 51) hc dX9_spoil_51 rfl ?_
    refine vr_bipush (pc := 53) hc dX9_spoil_53 (60 : Int32) (by decide) ?_
    refine vr_icmp_ge (pc := 55) hc 111 dX9_spoil_55 (by decide) (fun hb7 => ?_) (fun hb7 => ?_)
    · rw [if_pos hb7] at h
      refine vr_iload_n (pc := 111) hc dX9_spoil_111 rfl ?_
      refine vr_if_ne (pc := 112) hc 120 dX9_spoil_112 (by decide) (fun hb8 => ?_) (fun hb8 => ?_)
      · rw [if_neg hb8] at h
        refine vr_iload_n (pc := 120) hc dX9_spoil_120 rfl ?_
        obtain ⟨rfl, rfl⟩ := vz_in2 h
        exact hret _ _ (vz_ret_i dX9_spoil_121 rfl)
      · rw [if_pos hb8] at h
        refine vr_iload (pc := 115) hc dX9_spoil_115 rfl ?_
        refine vr_goto (pc := 117) hc 121 dX9_spoil_117 (by decide) ?_
        obtain ⟨rfl, rfl⟩ := vz_in2 h
        exact hret _ _ (vz_ret_i dX9_spoil_121 rfl)
    · rw [if_neg hb7] at h
      refine vr_aload_n (pc := 58) hc dX9_spoil_58 rfl ?_
      refine vr_getR (pc := 59) hc dX9_spoil_59 fl_X9_7 gc_108 (gr_9_0 gc_108).1 ?_
      refine vr_sipush (pc := 62) hc dX9_spoil_62 (284 : Int32) (by decide) ?_
      refine vr_iload (pc := 65) hc dX9_spoil_65 rfl ?_
      have hb9 := vz_ifp h
      rw [if_pos hb9] at h
      refine vr_iast (pc := 67) hc 305 dX9_spoil_67 ((gr_9_0 gc_108).2.1) ((gr_9_0 gc_108).2.2) (vz_in_vp hb9) ?_
      refine vr_aload_n (pc := 68) hc dX9_spoil_68 rfl ?_
      refine vr_sipush (pc := 69) hc dX9_spoil_69 (244 : Int32) (by decide) ?_
      obtain ⟨v11, σ12, he10, h⟩ := vz_b2e h
      refine vr_cVi (pc := 72) hc dX9_spoil_72 mt_X9_pairsOn ml_X9_195 gc_108 (w_X9_pairsOn z μ.2.1 (244 : Int32) (vz_up σ 109 (284 : Int32).toNatClampNeg x5) he10) rfl (by decide) rfl (Nat.le_of_ble_eq_true rfl) ?_
      refine vr_istore (pc := 75) hc dX9_spoil_75 (by decide) rfl ?_
      refine vr_iload (pc := 77) hc dX9_spoil_77 rfl ?_
      refine vr_iload_n (pc := 79) hc dX9_spoil_79 rfl ?_
      refine vr_icmp_ge (pc := 80) hc 88 dX9_spoil_80 (by decide) (fun hb13 => ?_) (fun hb13 => ?_)
      · rw [if_pos hb13] at h
        refine vr_iload (pc := 88) hc dX9_spoil_88 rfl ?_
        exact vz_sub (wn_X9_spoil_90 z μ hc hret (f_X9_spoil_51 n) ih x2 x3 x5 v11 x4 σ12 h) (vz_sb1 rfl (vz_sb1 rfl (vz_sb1 rfl (vz_sb1 rfl (vz_sb1 rfl vz_sb0)))))
      · rw [if_neg hb13] at h
        refine vr_iload (pc := 83) hc dX9_spoil_83 rfl ?_
        refine vr_goto (pc := 85) hc 90 dX9_spoil_85 (by decide) ?_
        exact vz_sub (wn_X9_spoil_90 z μ hc hret (f_X9_spoil_51 n) ih x2 x3 x5 v11 x5 σ12 h) (vz_sb1 rfl (vz_sb1 rfl (vz_sb1 rfl (vz_sb1 rfl (vz_sb1 rfl vz_sb0)))))
def f_X9_spoil (x1 : Int32) (x2 : Int32) (σ : vz_I) : Option (Int32 × vz_I) := if (f_X9_in x1.toInt64 (1 : Int64) (59 : Int64)) = 0 then some ((-1 : Int32), σ) else if (f_X9_in x2.toInt64 (0 : Int64) (1 : Int64)) = 0 then some ((-1 : Int32), σ) else vz_b1 (f_X9_copies (0 : Int32) (244 : Int32) σ) (fun σ5 => if vz_in (285 : Int32) 305 then f_X9_spoil_51 vz_fu x2 (1000 : Int32) (0 : Int32) (0 : Int32) (vz_up σ5 109 (285 : Int32).toNatClampNeg x1) else none)
set_option maxRecDepth 20000 in
set_option maxHeartbeats 1000000 in
theorem w_X9_spoil (z : vz_Z) (l : Launch) (x1 : Int32) (x2 : Int32) (σ : vz_I)  {r : Int32} {σ' : vz_I} (h : f_X9_spoil x1 x2 σ = some (r, σ')) : vz_Con z l 5 yX9_spoil cX9_spoil 7 (some .int) [.ref 108, .int x1, .int x2] vz_G0 σ vz_N0 (some (.int r)) vz_G0 σ' vz_N0 0 0 := by
  refine vz_con (by decide) (Nat.le_of_ble_eq_true rfl) (fun μ hc hl hcap hret => ?_)
  subst hl
  unfold f_X9_spoil at h
  refine vr_iload_n (pc := 0) hc dX9_spoil_0 rfl ?_
  refine vr_i2l (pc := 1) hc dX9_spoil_1 ?_
  refine vr_lconst (pc := 2) hc dX9_spoil_2 (1 : Int64) (by decide) ?_
  refine vr_ldc2 (pc := 3) hc dX9_spoil_3 (59 : Int64) cl_X9_161 ?_
  refine vr_cSi (pc := 6) hc dX9_spoil_6 mt_X9_in sx_X9_in ml_X9_55  (w_X9_in z μ.2.1 x1.toInt64 (1 : Int64) (59 : Int64) σ rfl) rfl (by decide) rfl (Nat.le_of_ble_eq_true rfl) ?_
  refine vr_if_eq (pc := 9) hc 22 dX9_spoil_9 (by decide) (fun hb1 => ?_) (fun hb1 => ?_)
  · rw [if_pos hb1] at h
    refine vr_iconst (pc := 22) hc dX9_spoil_22 (-1 : Int32) (by decide) ?_
    obtain ⟨rfl, rfl⟩ := vz_in2 h
    exact hret _ _ (vz_ret_i dX9_spoil_23 rfl)
  · rw [if_neg hb1] at h
    refine vr_iload_n (pc := 12) hc dX9_spoil_12 rfl ?_
    refine vr_i2l (pc := 13) hc dX9_spoil_13 ?_
    refine vr_lconst (pc := 14) hc dX9_spoil_14 (0 : Int64) (by decide) ?_
    refine vr_lconst (pc := 15) hc dX9_spoil_15 (1 : Int64) (by decide) ?_
    refine vr_cSi (pc := 16) hc dX9_spoil_16 mt_X9_in sx_X9_in ml_X9_55  (w_X9_in z μ.2.1 x2.toInt64 (0 : Int64) (1 : Int64) σ rfl) rfl (by decide) rfl (Nat.le_of_ble_eq_true rfl) ?_
    refine vr_if_ne (pc := 19) hc 24 dX9_spoil_19 (by decide) (fun hb2 => ?_) (fun hb2 => ?_)
    · rw [if_neg hb2] at h
      refine vr_sipush (pc := 24) hc dX9_spoil_24 (1000 : Int32) (by decide) ?_
      refine vr_istore_n (pc := 27) hc dX9_spoil_27 (by decide) rfl ?_
      refine vr_iconst (pc := 28) hc dX9_spoil_28 (0 : Int32) (by decide) ?_
      refine vr_istore (pc := 29) hc dX9_spoil_29 (by decide) rfl ?_
      refine vr_aload_n (pc := 31) hc dX9_spoil_31 rfl ?_
      refine vr_iconst (pc := 32) hc dX9_spoil_32 (0 : Int32) (by decide) ?_
      refine vr_sipush (pc := 33) hc dX9_spoil_33 (244 : Int32) (by decide) ?_
      obtain ⟨σ5, he3, h⟩ := vz_b1e h
      refine vr_cVv (pc := 36) hc dX9_spoil_36 mt_X9_copies ml_X9_235 gc_108 (w_X9_copies z μ.2.1 (0 : Int32) (244 : Int32) σ he3) rfl (by decide) rfl (Nat.le_of_ble_eq_true rfl) ?_
      refine vr_aload_n (pc := 39) hc dX9_spoil_39 rfl ?_
      refine vr_getR (pc := 40) hc dX9_spoil_40 fl_X9_7 gc_108 (gr_9_0 gc_108).1 ?_
      refine vr_sipush (pc := 43) hc dX9_spoil_43 (285 : Int32) (by decide) ?_
      refine vr_iload_n (pc := 46) hc dX9_spoil_46 rfl ?_
      have hb6 := vz_ifp h
      rw [if_pos hb6] at h
      refine vr_iast (pc := 47) hc 305 dX9_spoil_47 ((gr_9_0 gc_108).2.1) ((gr_9_0 gc_108).2.2) (vz_in_vp hb6) ?_
      refine vr_iconst (pc := 48) hc dX9_spoil_48 (0 : Int32) (by decide) ?_
      refine vr_istore (pc := 49) hc dX9_spoil_49 (by decide) rfl ?_
      exact vz_sub (wn_X9_spoil_51 z μ hc hret vz_fu x2 (1000 : Int32) (0 : Int32) (0 : Int32) (vz_up σ5 109 (285 : Int32).toNatClampNeg x1) h) (vz_sb1 rfl (vz_sb1 rfl (vz_sb1 rfl (vz_sb1 rfl (vz_sb1 rfl vz_sb0)))))
    · rw [if_pos hb2] at h
      refine vr_iconst (pc := 22) hc dX9_spoil_22 (-1 : Int32) (by decide) ?_
      obtain ⟨rfl, rfl⟩ := vz_in2 h
      exact hret _ _ (vz_ret_i dX9_spoil_23 rfl)
-- X9_byHomes: depth 5, effects S=True W=True P=True
def f_X9_byHomes_138 (k35 : Int32 → Int32 → Int32 → Int32 → Int64 → Int64 → Int32 → vz_I → Option (Int64 × vz_I)) (x1 : Int32) (x2 : Int32) (x3 : Int32) (x4 : Int32) (j7 : Int64) (x9 : Int32) (xs0 : Int32) (js1 : Int64) (js2 : Int64) (σ : vz_I) : Option (Int64 × vz_I) := k35 x1 x2 x3 x4 (js2 + (js1 * xs0.toInt64)) j7 (x9 + (1 : Int32)) σ
set_option maxRecDepth 20000 in
set_option maxHeartbeats 1000000 in
theorem wn_X9_byHomes_138 (z : vz_Z) (μ : vz_M) (hc : vz_C z μ cX9_byHomes RX9 5 13) {r : Int64} {σ' : vz_I} (hret : ∀ (pc : Nat) (L : vz_L), vz_ret cX9_byHomes (some .long) pc (some (.long r)) → vz_V z μ 0 0 pc L ((some (.long r)) : Option Value).toList vz_G0 σ' vz_N0) (k35 : Int32 → Int32 → Int32 → Int32 → Int64 → Int64 → Int32 → vz_I → Option (Int64 × vz_I)) (hk35 : ∀ (x1 : Int32) (x2 : Int32) (x3 : Int32) (x4 : Int32) (j5 : Int64) (j7 : Int64) (x9 : Int32) (σ : vz_I), k35 x1 x2 x3 x4 j5 j7 x9 σ = some (r, σ') → vz_V z μ 0 0 35 [(0, some (.ref 108)), (1, some (.int x1)), (2, some (.int x2)), (3, some (.int x3)), (4, some (.int x4)), (5, some (.long j5)), (7, some (.long j7)), (9, some (.int x9))] [] vz_G0 σ vz_N0) (x1 : Int32) (x2 : Int32) (x3 : Int32) (x4 : Int32) (j7 : Int64) (x9 : Int32) (xs0 : Int32) (js1 : Int64) (js2 : Int64) (σ : vz_I)  (h : f_X9_byHomes_138 k35 x1 x2 x3 x4 j7 x9 xs0 js1 js2 σ = some (r, σ')) : vz_V z μ 0 0 138 [(0, some (.ref 108)), (1, some (.int x1)), (2, some (.int x2)), (3, some (.int x3)), (4, some (.int x4)), (7, some (.long j7)), (9, some (.int x9))] [.int xs0, .long js1, .long js2] vz_G0 σ vz_N0 := by
  unfold f_X9_byHomes_138 at h
  refine vr_i2l (pc := 138) hc dX9_byHomes_138 ?_
  refine vr_lmul (pc := 139) hc dX9_byHomes_139 ?_
  refine vr_ladd (pc := 140) hc dX9_byHomes_140 ?_
  refine vr_lstore (pc := 141) hc dX9_byHomes_141 (by decide) rfl ?_
  refine vr_iinc (pc := 143) hc dX9_byHomes_143 (1 : Int32) (by decide) rfl (by decide) rfl ?_
  refine vr_goto (pc := 146) hc 35 dX9_byHomes_146 (by decide) ?_
  exact vz_sub (hk35 x1 x2 x3 x4 (js2 + (js1 * xs0.toInt64)) j7 (x9 + (1 : Int32)) σ  h) (vz_sb1 rfl (vz_sb1 rfl (vz_sb1 rfl (vz_sb1 rfl (vz_sb1 rfl (vz_sb1 rfl (vz_sb1 rfl (vz_sb1 rfl vz_sb0))))))))
def f_X9_byHomes_52 (k35 : Int32 → Int32 → Int32 → Int32 → Int64 → Int64 → Int32 → vz_I → Option (Int64 × vz_I)) : Nat → Int32 → Int32 → Int32 → Int32 → Int64 → Int64 → Int32 → Int64 → Int32 → vz_I → Option (Int64 × vz_I)
  | 0, _, _, _, _, _, _, _, _, _, _ => none
  | n + 1, x1, x2, x3, x4, j5, j7, x9, j10, x12, σ => if (σ 108 1) ≤ x12 then vz_b2 (f_X9_pairsOn (0 : Int32) (vz_up σ 108 18 x9)) (fun v8 σ9 => if x2 = (-4 : Int32) then f_X9_byHomes_138 k35 x1 x2 x3 x4 j7 x9 v8 j10 j5 σ9 else vz_b1 (f_X9_wholeOf x2 x3 σ9) (fun v12 => if (1000 : Int32) ≤ v12 then f_X9_byHomes_138 k35 x1 x2 x3 x4 j7 x9 (0 : Int32) j10 j5 σ9 else f_X9_byHomes_138 k35 x1 x2 x3 x4 j7 x9 (1 : Int32) j10 j5 σ9)) else if ((x9 >>> (x12 &&& 31)) &&& (1 : Int32)) = (1 : Int32) then f_X9_byHomes_52 k35 n x1 x2 x3 x4 j5 j7 x9 (j10 * x1.toInt64) (x12 + (1 : Int32)) σ else f_X9_byHomes_52 k35 n x1 x2 x3 x4 j5 j7 x9 (j10 * (((10 : Int32) - x1).toInt64)) (x12 + (1 : Int32)) σ
theorem f_X9_byHomes_52_s (k35 : Int32 → Int32 → Int32 → Int32 → Int64 → Int64 → Int32 → vz_I → Option (Int64 × vz_I)) (n : Nat) (x1 : Int32) (x2 : Int32) (x3 : Int32) (x4 : Int32) (j5 : Int64) (j7 : Int64) (x9 : Int32) (j10 : Int64) (x12 : Int32) (σ : vz_I) : f_X9_byHomes_52 k35 (n + 1) x1 x2 x3 x4 j5 j7 x9 j10 x12 σ = if (σ 108 1) ≤ x12 then vz_b2 (f_X9_pairsOn (0 : Int32) (vz_up σ 108 18 x9)) (fun v8 σ9 => if x2 = (-4 : Int32) then f_X9_byHomes_138 k35 x1 x2 x3 x4 j7 x9 v8 j10 j5 σ9 else vz_b1 (f_X9_wholeOf x2 x3 σ9) (fun v12 => if (1000 : Int32) ≤ v12 then f_X9_byHomes_138 k35 x1 x2 x3 x4 j7 x9 (0 : Int32) j10 j5 σ9 else f_X9_byHomes_138 k35 x1 x2 x3 x4 j7 x9 (1 : Int32) j10 j5 σ9)) else if ((x9 >>> (x12 &&& 31)) &&& (1 : Int32)) = (1 : Int32) then f_X9_byHomes_52 k35 n x1 x2 x3 x4 j5 j7 x9 (j10 * x1.toInt64) (x12 + (1 : Int32)) σ else f_X9_byHomes_52 k35 n x1 x2 x3 x4 j5 j7 x9 (j10 * (((10 : Int32) - x1).toInt64)) (x12 + (1 : Int32)) σ := rfl
set_option maxRecDepth 20000 in
set_option maxHeartbeats 1000000 in
theorem wn_X9_byHomes_52 (z : vz_Z) (μ : vz_M) (hc : vz_C z μ cX9_byHomes RX9 5 13) {r : Int64} {σ' : vz_I} (hret : ∀ (pc : Nat) (L : vz_L), vz_ret cX9_byHomes (some .long) pc (some (.long r)) → vz_V z μ 0 0 pc L ((some (.long r)) : Option Value).toList vz_G0 σ' vz_N0) (k35 : Int32 → Int32 → Int32 → Int32 → Int64 → Int64 → Int32 → vz_I → Option (Int64 × vz_I)) (hk35 : ∀ (x1 : Int32) (x2 : Int32) (x3 : Int32) (x4 : Int32) (j5 : Int64) (j7 : Int64) (x9 : Int32) (σ : vz_I), k35 x1 x2 x3 x4 j5 j7 x9 σ = some (r, σ') → vz_V z μ 0 0 35 [(0, some (.ref 108)), (1, some (.int x1)), (2, some (.int x2)), (3, some (.int x3)), (4, some (.int x4)), (5, some (.long j5)), (7, some (.long j7)), (9, some (.int x9))] [] vz_G0 σ vz_N0) : ∀ (n : Nat) (x1 : Int32) (x2 : Int32) (x3 : Int32) (x4 : Int32) (j5 : Int64) (j7 : Int64) (x9 : Int32) (j10 : Int64) (x12 : Int32) (σ : vz_I)  (h : f_X9_byHomes_52 k35 n x1 x2 x3 x4 j5 j7 x9 j10 x12 σ = some (r, σ')), vz_V z μ 0 0 52 [(0, some (.ref 108)), (1, some (.int x1)), (2, some (.int x2)), (3, some (.int x3)), (4, some (.int x4)), (5, some (.long j5)), (7, some (.long j7)), (9, some (.int x9)), (10, some (.long j10)), (12, some (.int x12))] [] vz_G0 σ vz_N0 := by
  intro n
  induction n with
  | zero =>
    intro x1 x2 x3 x4 j5 j7 x9 j10 x12 σ h
    cases h
  | succ n ih =>
    intro x1 x2 x3 x4 j5 j7 x9 j10 x12 σ h
    rw [f_X9_byHomes_52_s] at h
    refine vr_iload (pc := 52) hc dX9_byHomes_52 rfl ?_
    refine vr_aload_n (pc := 54) hc dX9_byHomes_54 rfl ?_
    refine vr_getI (pc := 55) hc dX9_byHomes_55 fl_X9_150 gc_108 (gi_9_1 gc_108) ?_
    refine vr_icmp_ge (pc := 58) hc 93 dX9_byHomes_58 (by decide) (fun hb6 => ?_) (fun hb6 => ?_)
    · rw [if_pos hb6] at h
      refine vr_aload_n (pc := 93) hc dX9_byHomes_93 rfl ?_
      refine vr_iload (pc := 94) hc dX9_byHomes_94 rfl ?_
      refine vr_putI (pc := 96) hc dX9_byHomes_96 fl_X9_172 gc_108 (gi_9_18 gc_108) rfl rfl ?_
      refine vr_aload_n (pc := 99) hc dX9_byHomes_99 rfl ?_
      refine vr_iconst (pc := 100) hc dX9_byHomes_100 (0 : Int32) (by decide) ?_
      obtain ⟨v8, σ9, he7, h⟩ := vz_b2e h
      refine vr_cVi (pc := 101) hc dX9_byHomes_101 mt_X9_pairsOn ml_X9_195 gc_108 (w_X9_pairsOn z μ.2.1 (0 : Int32) (vz_up σ 108 18 x9) he7) rfl (by decide) rfl (Nat.le_of_ble_eq_true rfl) ?_
      refine vr_istore (pc := 104) hc dX9_byHomes_104 (by decide) rfl ?_
      refine vr_lload (pc := 106) hc dX9_byHomes_106 rfl ?_
      refine vr_lload (pc := 108) hc dX9_byHomes_108 rfl ?_
      refine vr_iload_n (pc := 110) hc dX9_byHomes_110 rfl ?_
      refine vr_bipush (pc := 111) hc dX9_byHomes_111 (-4 : Int32) (by decide) ?_
      refine vr_icmp_ne (pc := 113) hc 121 dX9_byHomes_113 (by decide) (fun hb10 => ?_) (fun hb10 => ?_)
      · rw [if_neg hb10] at h
        refine vr_aload_n (pc := 121) hc dX9_byHomes_121 rfl ?_
        refine vr_iload_n (pc := 122) hc dX9_byHomes_122 rfl ?_
        refine vr_iload_n (pc := 123) hc dX9_byHomes_123 rfl ?_
        obtain ⟨v12, he11, h⟩ := vz_b1e h
        refine vr_cVi (pc := 124) hc dX9_byHomes_124 mt_X9_wholeOf ml_X9_186 gc_108 (w_X9_wholeOf z μ.2.1 x2 x3 σ9 he11) rfl (by decide) rfl (Nat.le_of_ble_eq_true rfl) ?_
        refine vr_sipush (pc := 127) hc dX9_byHomes_127 (1000 : Int32) (by decide) ?_
        refine vr_icmp_ge (pc := 130) hc 137 dX9_byHomes_130 (by decide) (fun hb14 => ?_) (fun hb14 => ?_)
        · rw [if_pos hb14] at h
          refine vr_iconst (pc := 137) hc dX9_byHomes_137 (0 : Int32) (by decide) ?_
          exact vz_sub (wn_X9_byHomes_138 z μ hc hret k35 hk35 x1 x2 x3 x4 j7 x9 (0 : Int32) j10 j5 σ9 h) (vz_sb1 rfl (vz_sb1 rfl (vz_sb1 rfl (vz_sb1 rfl (vz_sb1 rfl (vz_sb1 rfl (vz_sb1 rfl vz_sb0)))))))
        · rw [if_neg hb14] at h
          refine vr_iconst (pc := 133) hc dX9_byHomes_133 (1 : Int32) (by decide) ?_
          refine vr_goto (pc := 134) hc 138 dX9_byHomes_134 (by decide) ?_
          exact vz_sub (wn_X9_byHomes_138 z μ hc hret k35 hk35 x1 x2 x3 x4 j7 x9 (1 : Int32) j10 j5 σ9 h) (vz_sb1 rfl (vz_sb1 rfl (vz_sb1 rfl (vz_sb1 rfl (vz_sb1 rfl (vz_sb1 rfl (vz_sb1 rfl vz_sb0)))))))
      · rw [if_pos hb10] at h
        refine vr_iload (pc := 116) hc dX9_byHomes_116 rfl ?_
        refine vr_goto (pc := 118) hc 138 dX9_byHomes_118 (by decide) ?_
        exact vz_sub (wn_X9_byHomes_138 z μ hc hret k35 hk35 x1 x2 x3 x4 j7 x9 v8 j10 j5 σ9 h) (vz_sb1 rfl (vz_sb1 rfl (vz_sb1 rfl (vz_sb1 rfl (vz_sb1 rfl (vz_sb1 rfl (vz_sb1 rfl vz_sb0)))))))
    · rw [if_neg hb6] at h
      refine vr_lload (pc := 61) hc dX9_byHomes_61 rfl ?_
      refine vr_iload (pc := 63) hc dX9_byHomes_63 rfl ?_
      refine vr_iload (pc := 65) hc dX9_byHomes_65 rfl ?_
      refine vr_ishr (pc := 67) hc dX9_byHomes_67 ?_
      refine vr_iconst (pc := 68) hc dX9_byHomes_68 (1 : Int32) (by decide) ?_
      refine vr_iand (pc := 69) hc dX9_byHomes_69 ?_
      refine vr_iconst (pc := 70) hc dX9_byHomes_70 (1 : Int32) (by decide) ?_
      refine vr_icmp_ne (pc := 71) hc 79 dX9_byHomes_71 (by decide) (fun hb15 => ?_) (fun hb15 => ?_)
      · rw [if_neg hb15] at h
        refine vr_bipush (pc := 79) hc dX9_byHomes_79 (10 : Int32) (by decide) ?_
        refine vr_iload_n (pc := 81) hc dX9_byHomes_81 rfl ?_
        refine vr_isub (pc := 82) hc dX9_byHomes_82 ?_
        refine vr_i2l (pc := 83) hc dX9_byHomes_83 ?_
        refine vr_lmul (pc := 84) hc dX9_byHomes_84 ?_
        refine vr_lstore (pc := 85) hc dX9_byHomes_85 (by decide) rfl ?_
        refine vr_iinc (pc := 87) hc dX9_byHomes_87 (1 : Int32) (by decide) rfl (by decide) rfl ?_
        refine vr_goto (pc := 90) hc 52 dX9_byHomes_90 (by decide) ?_
        exact vz_sub (ih x1 x2 x3 x4 j5 j7 x9 (j10 * (((10 : Int32) - x1).toInt64)) (x12 + (1 : Int32)) σ  h) (vz_sb1 rfl (vz_sb1 rfl (vz_sb1 rfl (vz_sb1 rfl (vz_sb1 rfl (vz_sb1 rfl (vz_sb1 rfl (vz_sb1 rfl (vz_sb1 rfl (vz_sb1 rfl vz_sb0))))))))))
      · rw [if_pos hb15] at h
        refine vr_iload_n (pc := 74) hc dX9_byHomes_74 rfl ?_
        refine vr_i2l (pc := 75) hc dX9_byHomes_75 ?_
        refine vr_goto (pc := 76) hc 84 dX9_byHomes_76 (by decide) ?_
        refine vr_lmul (pc := 84) hc dX9_byHomes_84 ?_
        refine vr_lstore (pc := 85) hc dX9_byHomes_85 (by decide) rfl ?_
        refine vr_iinc (pc := 87) hc dX9_byHomes_87 (1 : Int32) (by decide) rfl (by decide) rfl ?_
        refine vr_goto (pc := 90) hc 52 dX9_byHomes_90 (by decide) ?_
        exact vz_sub (ih x1 x2 x3 x4 j5 j7 x9 (j10 * x1.toInt64) (x12 + (1 : Int32)) σ  h) (vz_sb1 rfl (vz_sb1 rfl (vz_sb1 rfl (vz_sb1 rfl (vz_sb1 rfl (vz_sb1 rfl (vz_sb1 rfl (vz_sb1 rfl (vz_sb1 rfl (vz_sb1 rfl vz_sb0))))))))))
def f_X9_byHomes_35 : Nat → Int32 → Int32 → Int32 → Int32 → Int64 → Int64 → Int32 → vz_I → Option (Int64 × vz_I)
  | 0, _, _, _, _, _, _, _, _ => none
  | n + 1, x1, x2, x3, x4, j5, j7, x9, σ => if ((1 : Int32) <<< ((σ 108 1) &&& 31)) ≤ x9 then vz_b1 (f_X9_lowest j5 j7 x4) (fun v4 => some (v4, vz_up σ 108 18 (0 : Int32))) else f_X9_byHomes_52 (f_X9_byHomes_35 n) vz_fu x1 x2 x3 x4 j5 j7 x9 (1 : Int64) (0 : Int32) σ
theorem f_X9_byHomes_35_s (n : Nat) (x1 : Int32) (x2 : Int32) (x3 : Int32) (x4 : Int32) (j5 : Int64) (j7 : Int64) (x9 : Int32) (σ : vz_I) : f_X9_byHomes_35  (n + 1) x1 x2 x3 x4 j5 j7 x9 σ = if ((1 : Int32) <<< ((σ 108 1) &&& 31)) ≤ x9 then vz_b1 (f_X9_lowest j5 j7 x4) (fun v4 => some (v4, vz_up σ 108 18 (0 : Int32))) else f_X9_byHomes_52 (f_X9_byHomes_35 n) vz_fu x1 x2 x3 x4 j5 j7 x9 (1 : Int64) (0 : Int32) σ := rfl
set_option maxRecDepth 20000 in
set_option maxHeartbeats 1000000 in
theorem wn_X9_byHomes_35 (z : vz_Z) (μ : vz_M) (hc : vz_C z μ cX9_byHomes RX9 5 13) {r : Int64} {σ' : vz_I} (hret : ∀ (pc : Nat) (L : vz_L), vz_ret cX9_byHomes (some .long) pc (some (.long r)) → vz_V z μ 0 0 pc L ((some (.long r)) : Option Value).toList vz_G0 σ' vz_N0) : ∀ (n : Nat) (x1 : Int32) (x2 : Int32) (x3 : Int32) (x4 : Int32) (j5 : Int64) (j7 : Int64) (x9 : Int32) (σ : vz_I)  (h : f_X9_byHomes_35  n x1 x2 x3 x4 j5 j7 x9 σ = some (r, σ')), vz_V z μ 0 0 35 [(0, some (.ref 108)), (1, some (.int x1)), (2, some (.int x2)), (3, some (.int x3)), (4, some (.int x4)), (5, some (.long j5)), (7, some (.long j7)), (9, some (.int x9))] [] vz_G0 σ vz_N0 := by
  intro n
  induction n with
  | zero =>
    intro x1 x2 x3 x4 j5 j7 x9 σ h
    cases h
  | succ n ih =>
    intro x1 x2 x3 x4 j5 j7 x9 σ h
    rw [f_X9_byHomes_35_s] at h
    refine vr_iload (pc := 35) hc dX9_byHomes_35 rfl ?_
    refine vr_iconst (pc := 37) hc dX9_byHomes_37 (1 : Int32) (by decide) ?_
    refine vr_aload_n (pc := 38) hc dX9_byHomes_38 rfl ?_
    refine vr_getI (pc := 39) hc dX9_byHomes_39 fl_X9_150 gc_108 (gi_9_1 gc_108) ?_
    refine vr_ishl (pc := 42) hc dX9_byHomes_42 ?_
    refine vr_icmp_ge (pc := 43) hc 149 dX9_byHomes_43 (by decide) (fun hb2 => ?_) (fun hb2 => ?_)
    · rw [if_pos hb2] at h
      refine vr_aload_n (pc := 149) hc dX9_byHomes_149 rfl ?_
      refine vr_iconst (pc := 150) hc dX9_byHomes_150 (0 : Int32) (by decide) ?_
      refine vr_putI (pc := 151) hc dX9_byHomes_151 fl_X9_172 gc_108 (gi_9_18 gc_108) rfl rfl ?_
      refine vr_lload (pc := 154) hc dX9_byHomes_154 rfl ?_
      refine vr_lload (pc := 156) hc dX9_byHomes_156 rfl ?_
      refine vr_iload (pc := 158) hc dX9_byHomes_158 rfl ?_
      obtain ⟨v4, he3, h⟩ := vz_b1e h
      refine vr_cSj (pc := 160) hc dX9_byHomes_160 mt_X9_lowest sx_X9_lowest ml_X9_244  (w_X9_lowest z μ.2.1 j5 j7 x4 (vz_up σ 108 18 (0 : Int32)) he3) rfl (by decide) rfl (Nat.le_of_ble_eq_true rfl) ?_
      obtain ⟨rfl, rfl⟩ := vz_in2 h
      exact hret _ _ (vz_ret_l dX9_byHomes_163)
    · rw [if_neg hb2] at h
      refine vr_lconst (pc := 46) hc dX9_byHomes_46 (1 : Int64) (by decide) ?_
      refine vr_lstore (pc := 47) hc dX9_byHomes_47 (by decide) rfl ?_
      refine vr_iconst (pc := 49) hc dX9_byHomes_49 (0 : Int32) (by decide) ?_
      refine vr_istore (pc := 50) hc dX9_byHomes_50 (by decide) rfl ?_
      exact vz_sub (wn_X9_byHomes_52 z μ hc hret (f_X9_byHomes_35 n) ih vz_fu x1 x2 x3 x4 j5 j7 x9 (1 : Int64) (0 : Int32) σ h) (vz_sb1 rfl (vz_sb1 rfl (vz_sb1 rfl (vz_sb1 rfl (vz_sb1 rfl (vz_sb1 rfl (vz_sb1 rfl (vz_sb1 rfl (vz_sb1 rfl (vz_sb1 rfl vz_sb0))))))))))
def f_X9_byHomes_9 : Nat → Int32 → Int32 → Int32 → Int32 → Int64 → Int64 → Int32 → vz_I → Option (Int64 × vz_I)
  | 0, _, _, _, _, _, _, _, _ => none
  | n + 1, x1, x2, x3, x4, j5, j7, x9, σ => if (σ 108 1) ≤ x9 then f_X9_byHomes_35 vz_fu x1 x2 x3 x4 j5 j7 (0 : Int32) σ else f_X9_byHomes_9 n x1 x2 x3 x4 j5 (j7 * (10 : Int64)) (x9 + (1 : Int32)) σ
theorem f_X9_byHomes_9_s (n : Nat) (x1 : Int32) (x2 : Int32) (x3 : Int32) (x4 : Int32) (j5 : Int64) (j7 : Int64) (x9 : Int32) (σ : vz_I) : f_X9_byHomes_9  (n + 1) x1 x2 x3 x4 j5 j7 x9 σ = if (σ 108 1) ≤ x9 then f_X9_byHomes_35 vz_fu x1 x2 x3 x4 j5 j7 (0 : Int32) σ else f_X9_byHomes_9 n x1 x2 x3 x4 j5 (j7 * (10 : Int64)) (x9 + (1 : Int32)) σ := rfl
set_option maxRecDepth 20000 in
set_option maxHeartbeats 1000000 in
theorem wn_X9_byHomes_9 (z : vz_Z) (μ : vz_M) (hc : vz_C z μ cX9_byHomes RX9 5 13) {r : Int64} {σ' : vz_I} (hret : ∀ (pc : Nat) (L : vz_L), vz_ret cX9_byHomes (some .long) pc (some (.long r)) → vz_V z μ 0 0 pc L ((some (.long r)) : Option Value).toList vz_G0 σ' vz_N0) : ∀ (n : Nat) (x1 : Int32) (x2 : Int32) (x3 : Int32) (x4 : Int32) (j5 : Int64) (j7 : Int64) (x9 : Int32) (σ : vz_I)  (h : f_X9_byHomes_9  n x1 x2 x3 x4 j5 j7 x9 σ = some (r, σ')), vz_V z μ 0 0 9 [(0, some (.ref 108)), (1, some (.int x1)), (2, some (.int x2)), (3, some (.int x3)), (4, some (.int x4)), (5, some (.long j5)), (7, some (.long j7)), (9, some (.int x9))] [] vz_G0 σ vz_N0 := by
  intro n
  induction n with
  | zero =>
    intro x1 x2 x3 x4 j5 j7 x9 σ h
    cases h
  | succ n ih =>
    intro x1 x2 x3 x4 j5 j7 x9 σ h
    rw [f_X9_byHomes_9_s] at h
    refine vr_iload (pc := 9) hc dX9_byHomes_9 rfl ?_
    refine vr_aload_n (pc := 11) hc dX9_byHomes_11 rfl ?_
    refine vr_getI (pc := 12) hc dX9_byHomes_12 fl_X9_150 gc_108 (gi_9_1 gc_108) ?_
    refine vr_icmp_ge (pc := 15) hc 32 dX9_byHomes_15 (by decide) (fun hb1 => ?_) (fun hb1 => ?_)
    · rw [if_pos hb1] at h
      refine vr_iconst (pc := 32) hc dX9_byHomes_32 (0 : Int32) (by decide) ?_
      refine vr_istore (pc := 33) hc dX9_byHomes_33 (by decide) rfl ?_
      exact vz_sub (wn_X9_byHomes_35 z μ hc hret vz_fu x1 x2 x3 x4 j5 j7 (0 : Int32) σ h) (vz_sb1 rfl (vz_sb1 rfl (vz_sb1 rfl (vz_sb1 rfl (vz_sb1 rfl (vz_sb1 rfl (vz_sb1 rfl (vz_sb1 rfl vz_sb0))))))))
    · rw [if_neg hb1] at h
      refine vr_lload (pc := 18) hc dX9_byHomes_18 rfl ?_
      refine vr_ldc2 (pc := 20) hc dX9_byHomes_20 (10 : Int64) cl_X9_242 ?_
      refine vr_lmul (pc := 23) hc dX9_byHomes_23 ?_
      refine vr_lstore (pc := 24) hc dX9_byHomes_24 (by decide) rfl ?_
      refine vr_iinc (pc := 26) hc dX9_byHomes_26 (1 : Int32) (by decide) rfl (by decide) rfl ?_
      refine vr_goto (pc := 29) hc 9 dX9_byHomes_29 (by decide) ?_
      exact vz_sub (ih x1 x2 x3 x4 j5 (j7 * (10 : Int64)) (x9 + (1 : Int32)) σ  h) (vz_sb1 rfl (vz_sb1 rfl (vz_sb1 rfl (vz_sb1 rfl (vz_sb1 rfl (vz_sb1 rfl (vz_sb1 rfl (vz_sb1 rfl vz_sb0))))))))
def f_X9_byHomes (x1 : Int32) (x2 : Int32) (x3 : Int32) (x4 : Int32) (σ : vz_I) : Option (Int64 × vz_I) := f_X9_byHomes_9 vz_fu x1 x2 x3 x4 (0 : Int64) (1 : Int64) (0 : Int32) σ
set_option maxRecDepth 20000 in
set_option maxHeartbeats 1000000 in
theorem w_X9_byHomes (z : vz_Z) (l : Launch) (x1 : Int32) (x2 : Int32) (x3 : Int32) (x4 : Int32) (σ : vz_I)  {r : Int64} {σ' : vz_I} (h : f_X9_byHomes x1 x2 x3 x4 σ = some (r, σ')) : vz_Con z l 5 yX9_byHomes cX9_byHomes 13 (some .long) [.ref 108, .int x1, .int x2, .int x3, .int x4] vz_G0 σ vz_N0 (some (.long r)) vz_G0 σ' vz_N0 0 0 := by
  refine vz_con (by decide) (Nat.le_of_ble_eq_true rfl) (fun μ hc hl hcap hret => ?_)
  subst hl
  unfold f_X9_byHomes at h
  refine vr_lconst (pc := 0) hc dX9_byHomes_0 (0 : Int64) (by decide) ?_
  refine vr_lstore (pc := 1) hc dX9_byHomes_1 (by decide) rfl ?_
  refine vr_lconst (pc := 3) hc dX9_byHomes_3 (1 : Int64) (by decide) ?_
  refine vr_lstore (pc := 4) hc dX9_byHomes_4 (by decide) rfl ?_
  refine vr_iconst (pc := 6) hc dX9_byHomes_6 (0 : Int32) (by decide) ?_
  refine vr_istore (pc := 7) hc dX9_byHomes_7 (by decide) rfl ?_
  exact vz_sub (wn_X9_byHomes_9 z μ hc hret vz_fu x1 x2 x3 x4 (0 : Int64) (1 : Int64) (0 : Int32) σ h) (vz_sb1 rfl (vz_sb1 rfl (vz_sb1 rfl (vz_sb1 rfl (vz_sb1 rfl (vz_sb1 rfl (vz_sb1 rfl (vz_sb1 rfl vz_sb0))))))))
-- X9_kindsOf: depth 5, effects S=True W=True P=True
def f_X9_kindsOf_51 (k12 : Int32 → Int32 → Int32 → vz_I → Option (Int32 × vz_I)) : Nat → Int32 → Int32 → Int32 → Int32 → vz_I → Option (Int32 × vz_I)
  | 0, _, _, _, _, _ => none
  | n + 1, x1, x2, x3, x4, σ => if (σ 108 2) ≤ x4 then k12 x1 x2 (x3 + (1 : Int32)) σ else if vz_in ((4 : Int32) + x1) 305 then vz_b1 (f_X9_wholeOf x4 (σ 109 ((4 : Int32) + x1).toNatClampNeg) σ) (fun v13 => if vz_in (((4 : Int32) * x3) + x4) 16 then f_X9_kindsOf_51 k12 n x1 x2 x3 (x4 + (1 : Int32)) (vz_up σ 118 (((4 : Int32) * x3) + x4).toNatClampNeg v13) else none) else none
theorem f_X9_kindsOf_51_s (k12 : Int32 → Int32 → Int32 → vz_I → Option (Int32 × vz_I)) (n : Nat) (x1 : Int32) (x2 : Int32) (x3 : Int32) (x4 : Int32) (σ : vz_I) : f_X9_kindsOf_51 k12 (n + 1) x1 x2 x3 x4 σ = if (σ 108 2) ≤ x4 then k12 x1 x2 (x3 + (1 : Int32)) σ else if vz_in ((4 : Int32) + x1) 305 then vz_b1 (f_X9_wholeOf x4 (σ 109 ((4 : Int32) + x1).toNatClampNeg) σ) (fun v13 => if vz_in (((4 : Int32) * x3) + x4) 16 then f_X9_kindsOf_51 k12 n x1 x2 x3 (x4 + (1 : Int32)) (vz_up σ 118 (((4 : Int32) * x3) + x4).toNatClampNeg v13) else none) else none := rfl
set_option maxRecDepth 20000 in
set_option maxHeartbeats 1000000 in
theorem wn_X9_kindsOf_51 (z : vz_Z) (μ : vz_M) (hc : vz_C z μ cX9_kindsOf RX9 5 5) {r : Int32} {σ' : vz_I} (hret : ∀ (pc : Nat) (L : vz_L), vz_ret cX9_kindsOf (some .int) pc (some (.int r)) → vz_V z μ 0 0 pc L ((some (.int r)) : Option Value).toList vz_G0 σ' vz_N0) (k12 : Int32 → Int32 → Int32 → vz_I → Option (Int32 × vz_I)) (hk12 : ∀ (x1 : Int32) (x2 : Int32) (x3 : Int32) (σ : vz_I), k12 x1 x2 x3 σ = some (r, σ') → vz_V z μ 0 0 12 [(0, some (.ref 108)), (1, some (.int x1)), (2, some (.int x2)), (3, some (.int x3))] [] vz_G0 σ vz_N0) : ∀ (n : Nat) (x1 : Int32) (x2 : Int32) (x3 : Int32) (x4 : Int32) (σ : vz_I)  (h : f_X9_kindsOf_51 k12 n x1 x2 x3 x4 σ = some (r, σ')), vz_V z μ 0 0 51 [(0, some (.ref 108)), (1, some (.int x1)), (2, some (.int x2)), (3, some (.int x3)), (4, some (.int x4))] [] vz_G0 σ vz_N0 := by
  intro n
  induction n with
  | zero =>
    intro x1 x2 x3 x4 σ h
    cases h
  | succ n ih =>
    intro x1 x2 x3 x4 σ h
    rw [f_X9_kindsOf_51_s] at h
    refine vr_iload (pc := 51) hc dX9_kindsOf_51 rfl ?_
    refine vr_aload_n (pc := 53) hc dX9_kindsOf_53 rfl ?_
    refine vr_getI (pc := 54) hc dX9_kindsOf_54 fl_X9_153 gc_108 (gi_9_2 gc_108) ?_
    refine vr_icmp_ge (pc := 57) hc 91 dX9_kindsOf_57 (by decide) (fun hb10 => ?_) (fun hb10 => ?_)
    · rw [if_pos hb10] at h
      refine vr_iinc (pc := 91) hc dX9_kindsOf_91 (1 : Int32) (by decide) rfl (by decide) rfl ?_
      refine vr_goto (pc := 94) hc 12 dX9_kindsOf_94 (by decide) ?_
      exact vz_sub (hk12 x1 x2 (x3 + (1 : Int32)) σ  h) (vz_sb1 rfl (vz_sb1 rfl (vz_sb1 rfl (vz_sb1 rfl vz_sb0))))
    · rw [if_neg hb10] at h
      refine vr_aload_n (pc := 60) hc dX9_kindsOf_60 rfl ?_
      refine vr_getR (pc := 61) hc dX9_kindsOf_61 fl_X9_37 gc_108 (gr_9_25 gc_108).1 ?_
      refine vr_iconst (pc := 64) hc dX9_kindsOf_64 (4 : Int32) (by decide) ?_
      refine vr_iload_n (pc := 65) hc dX9_kindsOf_65 rfl ?_
      refine vr_imul (pc := 66) hc dX9_kindsOf_66 ?_
      refine vr_iload (pc := 67) hc dX9_kindsOf_67 rfl ?_
      refine vr_iadd (pc := 69) hc dX9_kindsOf_69 ?_
      refine vr_aload_n (pc := 70) hc dX9_kindsOf_70 rfl ?_
      refine vr_iload (pc := 71) hc dX9_kindsOf_71 rfl ?_
      refine vr_aload_n (pc := 73) hc dX9_kindsOf_73 rfl ?_
      refine vr_getR (pc := 74) hc dX9_kindsOf_74 fl_X9_7 gc_108 (gr_9_0 gc_108).1 ?_
      refine vr_iconst (pc := 77) hc dX9_kindsOf_77 (4 : Int32) (by decide) ?_
      refine vr_iload_n (pc := 78) hc dX9_kindsOf_78 rfl ?_
      refine vr_iadd (pc := 79) hc dX9_kindsOf_79 ?_
      have hb11 := vz_ifp h
      rw [if_pos hb11] at h
      refine vr_iald (pc := 80) hc 305 dX9_kindsOf_80 ((gr_9_0 gc_108).2.1) ((gr_9_0 gc_108).2.2) (vz_in_vp hb11) ?_
      obtain ⟨v13, he12, h⟩ := vz_b1e h
      refine vr_cVi (pc := 81) hc dX9_kindsOf_81 mt_X9_wholeOf ml_X9_186 gc_108 (w_X9_wholeOf z μ.2.1 x4 (σ 109 ((4 : Int32) + x1).toNatClampNeg) σ he12) rfl (by decide) rfl (Nat.le_of_ble_eq_true rfl) ?_
      have hb15 := vz_ifp h
      rw [if_pos hb15] at h
      refine vr_iast (pc := 84) hc 16 dX9_kindsOf_84 ((gr_9_25 gc_108).2.1) ((gr_9_25 gc_108).2.2) (vz_in_vp hb15) ?_
      refine vr_iinc (pc := 85) hc dX9_kindsOf_85 (1 : Int32) (by decide) rfl (by decide) rfl ?_
      refine vr_goto (pc := 88) hc 51 dX9_kindsOf_88 (by decide) ?_
      exact vz_sub (ih x1 x2 x3 (x4 + (1 : Int32)) (vz_up σ 118 (((4 : Int32) * x3) + x4).toNatClampNeg v13)  h) (vz_sb1 rfl (vz_sb1 rfl (vz_sb1 rfl (vz_sb1 rfl (vz_sb1 rfl vz_sb0)))))
def f_X9_kindsOf_46 (k12 : Int32 → Int32 → Int32 → vz_I → Option (Int32 × vz_I)) (x1 : Int32) (x3 : Int32) (xs0 : Int32) (xs1 : Int32) (σ : vz_I) : Option (Int32 × vz_I) := f_X9_kindsOf_51 k12 vz_fu x1 (xs1 ||| xs0) x3 (0 : Int32) σ
set_option maxRecDepth 20000 in
set_option maxHeartbeats 1000000 in
theorem wn_X9_kindsOf_46 (z : vz_Z) (μ : vz_M) (hc : vz_C z μ cX9_kindsOf RX9 5 5) {r : Int32} {σ' : vz_I} (hret : ∀ (pc : Nat) (L : vz_L), vz_ret cX9_kindsOf (some .int) pc (some (.int r)) → vz_V z μ 0 0 pc L ((some (.int r)) : Option Value).toList vz_G0 σ' vz_N0) (k12 : Int32 → Int32 → Int32 → vz_I → Option (Int32 × vz_I)) (hk12 : ∀ (x1 : Int32) (x2 : Int32) (x3 : Int32) (σ : vz_I), k12 x1 x2 x3 σ = some (r, σ') → vz_V z μ 0 0 12 [(0, some (.ref 108)), (1, some (.int x1)), (2, some (.int x2)), (3, some (.int x3))] [] vz_G0 σ vz_N0) (x1 : Int32) (x3 : Int32) (xs0 : Int32) (xs1 : Int32) (σ : vz_I)  (h : f_X9_kindsOf_46 k12 x1 x3 xs0 xs1 σ = some (r, σ')) : vz_V z μ 0 0 46 [(0, some (.ref 108)), (1, some (.int x1)), (3, some (.int x3))] [.int xs0, .int xs1] vz_G0 σ vz_N0 := by
  unfold f_X9_kindsOf_46 at h
  refine vr_ior (pc := 46) hc dX9_kindsOf_46 ?_
  refine vr_istore_n (pc := 47) hc dX9_kindsOf_47 (by decide) rfl ?_
  refine vr_iconst (pc := 48) hc dX9_kindsOf_48 (0 : Int32) (by decide) ?_
  refine vr_istore (pc := 49) hc dX9_kindsOf_49 (by decide) rfl ?_
  exact vz_sub (wn_X9_kindsOf_51 z μ hc hret k12 hk12 vz_fu x1 (xs1 ||| xs0) x3 (0 : Int32) σ h) (vz_sb1 rfl (vz_sb1 rfl (vz_sb1 rfl (vz_sb1 rfl (vz_sb1 rfl vz_sb0)))))
def f_X9_kindsOf_12 : Nat → Int32 → Int32 → Int32 → vz_I → Option (Int32 × vz_I)
  | 0, _, _, _, _ => none
  | n + 1, x1, x2, x3, σ => if (4 : Int32) ≤ x3 then some (x2, σ) else if vz_in ((244 : Int32) + x1) 305 then vz_b2 (f_X9_isAsSeen (244 : Int32) (vz_up σ 109 ((244 : Int32) + x1).toNatClampNeg x3)) (fun v7 σ8 => if v7 = 0 then f_X9_kindsOf_46 (f_X9_kindsOf_12 n) x1 x3 (0 : Int32) x2 σ8 else f_X9_kindsOf_46 (f_X9_kindsOf_12 n) x1 x3 ((1 : Int32) <<< (x3 &&& 31)) x2 σ8) else none
theorem f_X9_kindsOf_12_s (n : Nat) (x1 : Int32) (x2 : Int32) (x3 : Int32) (σ : vz_I) : f_X9_kindsOf_12  (n + 1) x1 x2 x3 σ = if (4 : Int32) ≤ x3 then some (x2, σ) else if vz_in ((244 : Int32) + x1) 305 then vz_b2 (f_X9_isAsSeen (244 : Int32) (vz_up σ 109 ((244 : Int32) + x1).toNatClampNeg x3)) (fun v7 σ8 => if v7 = 0 then f_X9_kindsOf_46 (f_X9_kindsOf_12 n) x1 x3 (0 : Int32) x2 σ8 else f_X9_kindsOf_46 (f_X9_kindsOf_12 n) x1 x3 ((1 : Int32) <<< (x3 &&& 31)) x2 σ8) else none := rfl
set_option maxRecDepth 20000 in
set_option maxHeartbeats 1000000 in
theorem wn_X9_kindsOf_12 (z : vz_Z) (μ : vz_M) (hc : vz_C z μ cX9_kindsOf RX9 5 5) {r : Int32} {σ' : vz_I} (hret : ∀ (pc : Nat) (L : vz_L), vz_ret cX9_kindsOf (some .int) pc (some (.int r)) → vz_V z μ 0 0 pc L ((some (.int r)) : Option Value).toList vz_G0 σ' vz_N0) : ∀ (n : Nat) (x1 : Int32) (x2 : Int32) (x3 : Int32) (σ : vz_I)  (h : f_X9_kindsOf_12  n x1 x2 x3 σ = some (r, σ')), vz_V z μ 0 0 12 [(0, some (.ref 108)), (1, some (.int x1)), (2, some (.int x2)), (3, some (.int x3))] [] vz_G0 σ vz_N0 := by
  intro n
  induction n with
  | zero =>
    intro x1 x2 x3 σ h
    cases h
  | succ n ih =>
    intro x1 x2 x3 σ h
    rw [f_X9_kindsOf_12_s] at h
    refine vr_iload_n (pc := 12) hc dX9_kindsOf_12 rfl ?_
    refine vr_iconst (pc := 13) hc dX9_kindsOf_13 (4 : Int32) (by decide) ?_
    refine vr_icmp_ge (pc := 14) hc 97 dX9_kindsOf_14 (by decide) (fun hb4 => ?_) (fun hb4 => ?_)
    · rw [if_pos hb4] at h
      refine vr_iload_n (pc := 97) hc dX9_kindsOf_97 rfl ?_
      obtain ⟨rfl, rfl⟩ := vz_in2 h
      exact hret _ _ (vz_ret_i dX9_kindsOf_98 rfl)
    · rw [if_neg hb4] at h
      refine vr_aload_n (pc := 17) hc dX9_kindsOf_17 rfl ?_
      refine vr_getR (pc := 18) hc dX9_kindsOf_18 fl_X9_7 gc_108 (gr_9_0 gc_108).1 ?_
      refine vr_sipush (pc := 21) hc dX9_kindsOf_21 (244 : Int32) (by decide) ?_
      refine vr_iload_n (pc := 24) hc dX9_kindsOf_24 rfl ?_
      refine vr_iadd (pc := 25) hc dX9_kindsOf_25 ?_
      refine vr_iload_n (pc := 26) hc dX9_kindsOf_26 rfl ?_
      have hb5 := vz_ifp h
      rw [if_pos hb5] at h
      refine vr_iast (pc := 27) hc 305 dX9_kindsOf_27 ((gr_9_0 gc_108).2.1) ((gr_9_0 gc_108).2.2) (vz_in_vp hb5) ?_
      refine vr_iload_n (pc := 28) hc dX9_kindsOf_28 rfl ?_
      refine vr_aload_n (pc := 29) hc dX9_kindsOf_29 rfl ?_
      refine vr_sipush (pc := 30) hc dX9_kindsOf_30 (244 : Int32) (by decide) ?_
      obtain ⟨v7, σ8, he6, h⟩ := vz_b2e h
      refine vr_cVi (pc := 33) hc dX9_kindsOf_33 mt_X9_isAsSeen ml_X9_254 gc_108 (w_X9_isAsSeen z μ.2.1 (244 : Int32) (vz_up σ 109 ((244 : Int32) + x1).toNatClampNeg x3) he6) rfl (by decide) rfl (Nat.le_of_ble_eq_true rfl) ?_
      refine vr_if_eq (pc := 36) hc 45 dX9_kindsOf_36 (by decide) (fun hb9 => ?_) (fun hb9 => ?_)
      · rw [if_pos hb9] at h
        refine vr_iconst (pc := 45) hc dX9_kindsOf_45 (0 : Int32) (by decide) ?_
        exact vz_sub (wn_X9_kindsOf_46 z μ hc hret (f_X9_kindsOf_12 n) ih x1 x3 (0 : Int32) x2 σ8 h) (vz_sb1 rfl (vz_sb1 rfl (vz_sb1 rfl vz_sb0)))
      · rw [if_neg hb9] at h
        refine vr_iconst (pc := 39) hc dX9_kindsOf_39 (1 : Int32) (by decide) ?_
        refine vr_iload_n (pc := 40) hc dX9_kindsOf_40 rfl ?_
        refine vr_ishl (pc := 41) hc dX9_kindsOf_41 ?_
        refine vr_goto (pc := 42) hc 46 dX9_kindsOf_42 (by decide) ?_
        exact vz_sub (wn_X9_kindsOf_46 z μ hc hret (f_X9_kindsOf_12 n) ih x1 x3 ((1 : Int32) <<< (x3 &&& 31)) x2 σ8 h) (vz_sb1 rfl (vz_sb1 rfl (vz_sb1 rfl vz_sb0)))
def f_X9_kindsOf (x1 : Int32) (σ : vz_I) : Option (Int32 × vz_I) := vz_b1 (f_X9_copies (0 : Int32) (244 : Int32) σ) (fun σ3 => f_X9_kindsOf_12 vz_fu x1 (0 : Int32) (0 : Int32) σ3)
set_option maxRecDepth 20000 in
set_option maxHeartbeats 1000000 in
theorem w_X9_kindsOf (z : vz_Z) (l : Launch) (x1 : Int32) (σ : vz_I)  {r : Int32} {σ' : vz_I} (h : f_X9_kindsOf x1 σ = some (r, σ')) : vz_Con z l 5 yX9_kindsOf cX9_kindsOf 5 (some .int) [.ref 108, .int x1] vz_G0 σ vz_N0 (some (.int r)) vz_G0 σ' vz_N0 0 0 := by
  refine vz_con (by decide) (Nat.le_of_ble_eq_true rfl) (fun μ hc hl hcap hret => ?_)
  subst hl
  unfold f_X9_kindsOf at h
  refine vr_iconst (pc := 0) hc dX9_kindsOf_0 (0 : Int32) (by decide) ?_
  refine vr_istore_n (pc := 1) hc dX9_kindsOf_1 (by decide) rfl ?_
  refine vr_aload_n (pc := 2) hc dX9_kindsOf_2 rfl ?_
  refine vr_iconst (pc := 3) hc dX9_kindsOf_3 (0 : Int32) (by decide) ?_
  refine vr_sipush (pc := 4) hc dX9_kindsOf_4 (244 : Int32) (by decide) ?_
  obtain ⟨σ3, he1, h⟩ := vz_b1e h
  refine vr_cVv (pc := 7) hc dX9_kindsOf_7 mt_X9_copies ml_X9_235 gc_108 (w_X9_copies z μ.2.1 (0 : Int32) (244 : Int32) σ he1) rfl (by decide) rfl (Nat.le_of_ble_eq_true rfl) ?_
  refine vr_iconst (pc := 10) hc dX9_kindsOf_10 (0 : Int32) (by decide) ?_
  refine vr_istore_n (pc := 11) hc dX9_kindsOf_11 (by decide) rfl ?_
  exact vz_sub (wn_X9_kindsOf_12 z μ hc hret vz_fu x1 (0 : Int32) (0 : Int32) σ3 h) (vz_sb1 rfl (vz_sb1 rfl (vz_sb1 rfl (vz_sb1 rfl vz_sb0))))
-- X9_news: depth 5, effects S=True W=True P=True
def f_X9_news_22 : Nat → Int32 → Int32 → Int32 → vz_I → Option (Int32 × vz_I)
  | 0, _, _, _, _ => none
  | n + 1, x1, x2, x3, σ => if (10 : Int32) ≤ x3 then some (x2, σ) else if vz_in ((248 : Int32) + x1) 305 then vz_b2 (f_X9_isAsSeen (244 : Int32) (vz_up σ 109 ((248 : Int32) + x1).toNatClampNeg x3)) (fun v8 σ9 => if v8 = 0 then f_X9_news_22 n x1 (x2 ||| (0 : Int32)) (x3 + (1 : Int32)) σ9 else f_X9_news_22 n x1 (x2 ||| ((1 : Int32) <<< (x3 &&& 31))) (x3 + (1 : Int32)) σ9) else none
theorem f_X9_news_22_s (n : Nat) (x1 : Int32) (x2 : Int32) (x3 : Int32) (σ : vz_I) : f_X9_news_22  (n + 1) x1 x2 x3 σ = if (10 : Int32) ≤ x3 then some (x2, σ) else if vz_in ((248 : Int32) + x1) 305 then vz_b2 (f_X9_isAsSeen (244 : Int32) (vz_up σ 109 ((248 : Int32) + x1).toNatClampNeg x3)) (fun v8 σ9 => if v8 = 0 then f_X9_news_22 n x1 (x2 ||| (0 : Int32)) (x3 + (1 : Int32)) σ9 else f_X9_news_22 n x1 (x2 ||| ((1 : Int32) <<< (x3 &&& 31))) (x3 + (1 : Int32)) σ9) else none := rfl
set_option maxRecDepth 20000 in
set_option maxHeartbeats 1000000 in
theorem wn_X9_news_22 (z : vz_Z) (μ : vz_M) (hc : vz_C z μ cX9_news RX9 5 4) {r : Int32} {σ' : vz_I} (hret : ∀ (pc : Nat) (L : vz_L), vz_ret cX9_news (some .int) pc (some (.int r)) → vz_V z μ 0 0 pc L ((some (.int r)) : Option Value).toList vz_G0 σ' vz_N0) : ∀ (n : Nat) (x1 : Int32) (x2 : Int32) (x3 : Int32) (σ : vz_I)  (h : f_X9_news_22  n x1 x2 x3 σ = some (r, σ')), vz_V z μ 0 0 22 [(0, some (.ref 108)), (1, some (.int x1)), (2, some (.int x2)), (3, some (.int x3))] [] vz_G0 σ vz_N0 := by
  intro n
  induction n with
  | zero =>
    intro x1 x2 x3 σ h
    cases h
  | succ n ih =>
    intro x1 x2 x3 σ h
    rw [f_X9_news_22_s] at h
    refine vr_iload_n (pc := 22) hc dX9_news_22 rfl ?_
    refine vr_bipush (pc := 23) hc dX9_news_23 (10 : Int32) (by decide) ?_
    refine vr_icmp_ge (pc := 25) hc 65 dX9_news_25 (by decide) (fun hb5 => ?_) (fun hb5 => ?_)
    · rw [if_pos hb5] at h
      refine vr_iload_n (pc := 65) hc dX9_news_65 rfl ?_
      obtain ⟨rfl, rfl⟩ := vz_in2 h
      exact hret _ _ (vz_ret_i dX9_news_66 rfl)
    · rw [if_neg hb5] at h
      refine vr_aload_n (pc := 28) hc dX9_news_28 rfl ?_
      refine vr_getR (pc := 29) hc dX9_news_29 fl_X9_7 gc_108 (gr_9_0 gc_108).1 ?_
      refine vr_sipush (pc := 32) hc dX9_news_32 (248 : Int32) (by decide) ?_
      refine vr_iload_n (pc := 35) hc dX9_news_35 rfl ?_
      refine vr_iadd (pc := 36) hc dX9_news_36 ?_
      refine vr_iload_n (pc := 37) hc dX9_news_37 rfl ?_
      have hb6 := vz_ifp h
      rw [if_pos hb6] at h
      refine vr_iast (pc := 38) hc 305 dX9_news_38 ((gr_9_0 gc_108).2.1) ((gr_9_0 gc_108).2.2) (vz_in_vp hb6) ?_
      refine vr_iload_n (pc := 39) hc dX9_news_39 rfl ?_
      refine vr_aload_n (pc := 40) hc dX9_news_40 rfl ?_
      refine vr_sipush (pc := 41) hc dX9_news_41 (244 : Int32) (by decide) ?_
      obtain ⟨v8, σ9, he7, h⟩ := vz_b2e h
      refine vr_cVi (pc := 44) hc dX9_news_44 mt_X9_isAsSeen ml_X9_254 gc_108 (w_X9_isAsSeen z μ.2.1 (244 : Int32) (vz_up σ 109 ((248 : Int32) + x1).toNatClampNeg x3) he7) rfl (by decide) rfl (Nat.le_of_ble_eq_true rfl) ?_
      refine vr_if_eq (pc := 47) hc 56 dX9_news_47 (by decide) (fun hb10 => ?_) (fun hb10 => ?_)
      · rw [if_pos hb10] at h
        refine vr_iconst (pc := 56) hc dX9_news_56 (0 : Int32) (by decide) ?_
        refine vr_ior (pc := 57) hc dX9_news_57 ?_
        refine vr_istore_n (pc := 58) hc dX9_news_58 (by decide) rfl ?_
        refine vr_iinc (pc := 59) hc dX9_news_59 (1 : Int32) (by decide) rfl (by decide) rfl ?_
        refine vr_goto (pc := 62) hc 22 dX9_news_62 (by decide) ?_
        exact vz_sub (ih x1 (x2 ||| (0 : Int32)) (x3 + (1 : Int32)) σ9  h) (vz_sb1 rfl (vz_sb1 rfl (vz_sb1 rfl (vz_sb1 rfl vz_sb0))))
      · rw [if_neg hb10] at h
        refine vr_iconst (pc := 50) hc dX9_news_50 (1 : Int32) (by decide) ?_
        refine vr_iload_n (pc := 51) hc dX9_news_51 rfl ?_
        refine vr_ishl (pc := 52) hc dX9_news_52 ?_
        refine vr_goto (pc := 53) hc 57 dX9_news_53 (by decide) ?_
        refine vr_ior (pc := 57) hc dX9_news_57 ?_
        refine vr_istore_n (pc := 58) hc dX9_news_58 (by decide) rfl ?_
        refine vr_iinc (pc := 59) hc dX9_news_59 (1 : Int32) (by decide) rfl (by decide) rfl ?_
        refine vr_goto (pc := 62) hc 22 dX9_news_62 (by decide) ?_
        exact vz_sub (ih x1 (x2 ||| ((1 : Int32) <<< (x3 &&& 31))) (x3 + (1 : Int32)) σ9  h) (vz_sb1 rfl (vz_sb1 rfl (vz_sb1 rfl (vz_sb1 rfl vz_sb0))))
def f_X9_news (x1 : Int32) (σ : vz_I) : Option (Int32 × vz_I) := if (f_X9_isMan x1 σ) = 0 then some ((-1 : Int32), σ) else vz_b1 (f_X9_copies (0 : Int32) (244 : Int32) σ) (fun σ4 => f_X9_news_22 vz_fu x1 (0 : Int32) (0 : Int32) σ4)
set_option maxRecDepth 20000 in
set_option maxHeartbeats 1000000 in
theorem w_X9_news (z : vz_Z) (l : Launch) (x1 : Int32) (σ : vz_I)  {r : Int32} {σ' : vz_I} (h : f_X9_news x1 σ = some (r, σ')) : vz_Con z l 5 yX9_news cX9_news 4 (some .int) [.ref 108, .int x1] vz_G0 σ vz_N0 (some (.int r)) vz_G0 σ' vz_N0 0 0 := by
  refine vz_con (by decide) (Nat.le_of_ble_eq_true rfl) (fun μ hc hl hcap hret => ?_)
  subst hl
  unfold f_X9_news at h
  refine vr_aload_n (pc := 0) hc dX9_news_0 rfl ?_
  refine vr_iload_n (pc := 1) hc dX9_news_1 rfl ?_
  refine vr_cVi (pc := 2) hc dX9_news_2 mt_X9_isMan ml_X9_198 gc_108 (w_X9_isMan z μ.2.1 x1 σ rfl) rfl (by decide) rfl (Nat.le_of_ble_eq_true rfl) ?_
  refine vr_if_ne (pc := 5) hc 10 dX9_news_5 (by decide) (fun hb1 => ?_) (fun hb1 => ?_)
  · rw [if_neg hb1] at h
    refine vr_iconst (pc := 10) hc dX9_news_10 (0 : Int32) (by decide) ?_
    refine vr_istore_n (pc := 11) hc dX9_news_11 (by decide) rfl ?_
    refine vr_aload_n (pc := 12) hc dX9_news_12 rfl ?_
    refine vr_iconst (pc := 13) hc dX9_news_13 (0 : Int32) (by decide) ?_
    refine vr_sipush (pc := 14) hc dX9_news_14 (244 : Int32) (by decide) ?_
    obtain ⟨σ4, he2, h⟩ := vz_b1e h
    refine vr_cVv (pc := 17) hc dX9_news_17 mt_X9_copies ml_X9_235 gc_108 (w_X9_copies z μ.2.1 (0 : Int32) (244 : Int32) σ he2) rfl (by decide) rfl (Nat.le_of_ble_eq_true rfl) ?_
    refine vr_iconst (pc := 20) hc dX9_news_20 (0 : Int32) (by decide) ?_
    refine vr_istore_n (pc := 21) hc dX9_news_21 (by decide) rfl ?_
    exact vz_sub (wn_X9_news_22 z μ hc hret vz_fu x1 (0 : Int32) (0 : Int32) σ4 h) (vz_sb1 rfl (vz_sb1 rfl (vz_sb1 rfl (vz_sb1 rfl vz_sb0))))
  · rw [if_pos hb1] at h
    refine vr_iconst (pc := 8) hc dX9_news_8 (-1 : Int32) (by decide) ?_
    obtain ⟨rfl, rfl⟩ := vz_in2 h
    exact hret _ _ (vz_ret_i dX9_news_9 rfl)
-- X9_drift: depth 5, effects S=True W=True P=True
def f_X9_drift_54 : Nat → Int32 → Int32 → Int32 → Int32 → Int32 → Int32 → vz_I → Option (Int32 × vz_I)
  | 0, _, _, _, _, _, _, _ => none
  | n + 1, x2, x3, x4, x5, x6, x7, σ => if x2 ≤ x7 then if x3 = 0 then some (x5, σ) else some (x6, σ) else vz_let ((((x4 * (1103515245 : Int32)) + (12345 : Int32)) >>> ((16 : Int32) &&& 31)) &&& (32767 : Int32)) (fun x9 => if (σ 108 1) = 0 then none else if vz_in ((252 : Int32) + (x9 - x9 / (σ 108 1) * (σ 108 1))) 305 then if (σ 109 ((252 : Int32) + (x9 - x9 / (σ 108 1) * (σ 108 1))).toNatClampNeg) = 0 then none else vz_b1 (f_X9_shiftsOn (244 : Int32) (x9 - x9 / (σ 108 1) * (σ 108 1)) ((x9 / (4 : Int32)) - (x9 / (4 : Int32)) / (σ 109 ((252 : Int32) + (x9 - x9 / (σ 108 1) * (σ 108 1))).toNatClampNeg) * (σ 109 ((252 : Int32) + (x9 - x9 / (σ 108 1) * (σ 108 1))).toNatClampNeg)) σ) (fun σ16 => if vz_in (284 : Int32) 305 then vz_let (vz_up σ16 109 (284 : Int32).toNatClampNeg ((x9 / (16 : Int32)) - (x9 / (16 : Int32)) / (60 : Int32) * (60 : Int32))) (fun σ18 => if vz_in (285 : Int32) 305 then vz_b2 (f_X9_pairsOn (244 : Int32) (vz_up σ18 109 (285 : Int32).toNatClampNeg (10 : Int32))) (fun v22 σ23 => f_X9_drift_54 n x2 x3 ((x4 * (1103515245 : Int32)) + (12345 : Int32)) (x5 + v22) v22 (x7 + (1 : Int32)) σ23) else none) else none) else none)
theorem f_X9_drift_54_s (n : Nat) (x2 : Int32) (x3 : Int32) (x4 : Int32) (x5 : Int32) (x6 : Int32) (x7 : Int32) (σ : vz_I) : f_X9_drift_54  (n + 1) x2 x3 x4 x5 x6 x7 σ = if x2 ≤ x7 then if x3 = 0 then some (x5, σ) else some (x6, σ) else vz_let ((((x4 * (1103515245 : Int32)) + (12345 : Int32)) >>> ((16 : Int32) &&& 31)) &&& (32767 : Int32)) (fun x9 => if (σ 108 1) = 0 then none else if vz_in ((252 : Int32) + (x9 - x9 / (σ 108 1) * (σ 108 1))) 305 then if (σ 109 ((252 : Int32) + (x9 - x9 / (σ 108 1) * (σ 108 1))).toNatClampNeg) = 0 then none else vz_b1 (f_X9_shiftsOn (244 : Int32) (x9 - x9 / (σ 108 1) * (σ 108 1)) ((x9 / (4 : Int32)) - (x9 / (4 : Int32)) / (σ 109 ((252 : Int32) + (x9 - x9 / (σ 108 1) * (σ 108 1))).toNatClampNeg) * (σ 109 ((252 : Int32) + (x9 - x9 / (σ 108 1) * (σ 108 1))).toNatClampNeg)) σ) (fun σ16 => if vz_in (284 : Int32) 305 then vz_let (vz_up σ16 109 (284 : Int32).toNatClampNeg ((x9 / (16 : Int32)) - (x9 / (16 : Int32)) / (60 : Int32) * (60 : Int32))) (fun σ18 => if vz_in (285 : Int32) 305 then vz_b2 (f_X9_pairsOn (244 : Int32) (vz_up σ18 109 (285 : Int32).toNatClampNeg (10 : Int32))) (fun v22 σ23 => f_X9_drift_54 n x2 x3 ((x4 * (1103515245 : Int32)) + (12345 : Int32)) (x5 + v22) v22 (x7 + (1 : Int32)) σ23) else none) else none) else none) := rfl
set_option maxRecDepth 20000 in
set_option maxHeartbeats 1000000 in
theorem wn_X9_drift_54 (z : vz_Z) (μ : vz_M) (hc : vz_C z μ cX9_drift RX9 5 10) {r : Int32} {σ' : vz_I} (hret : ∀ (pc : Nat) (L : vz_L), vz_ret cX9_drift (some .int) pc (some (.int r)) → vz_V z μ 0 0 pc L ((some (.int r)) : Option Value).toList vz_G0 σ' vz_N0) : ∀ (n : Nat) (x2 : Int32) (x3 : Int32) (x4 : Int32) (x5 : Int32) (x6 : Int32) (x7 : Int32) (σ : vz_I)  (h : f_X9_drift_54  n x2 x3 x4 x5 x6 x7 σ = some (r, σ')), vz_V z μ 0 0 54 [(0, some (.ref 108)), (2, some (.int x2)), (3, some (.int x3)), (4, some (.int x4)), (5, some (.int x5)), (6, some (.int x6)), (7, some (.int x7))] [] vz_G0 σ vz_N0 := by
  intro n
  induction n with
  | zero =>
    intro x2 x3 x4 x5 x6 x7 σ h
    cases h
  | succ n ih =>
    intro x2 x3 x4 x5 x6 x7 σ h
    rw [f_X9_drift_54_s] at h
    refine vr_iload (pc := 54) hc dX9_drift_54 rfl ?_
    refine vr_iload_n (pc := 56) hc dX9_drift_56 rfl ?_
    refine vr_icmp_ge (pc := 57) hc 165 dX9_drift_57 (by decide) (fun hb7 => ?_) (fun hb7 => ?_)
    · rw [if_pos hb7] at h
      refine vr_iload_n (pc := 165) hc dX9_drift_165 rfl ?_
      refine vr_if_ne (pc := 166) hc 174 dX9_drift_166 (by decide) (fun hb8 => ?_) (fun hb8 => ?_)
      · rw [if_neg hb8] at h
        refine vr_iload (pc := 174) hc dX9_drift_174 rfl ?_
        obtain ⟨rfl, rfl⟩ := vz_in2 h
        exact hret _ _ (vz_ret_i dX9_drift_176 rfl)
      · rw [if_pos hb8] at h
        refine vr_iload (pc := 169) hc dX9_drift_169 rfl ?_
        refine vr_goto (pc := 171) hc 176 dX9_drift_171 (by decide) ?_
        obtain ⟨rfl, rfl⟩ := vz_in2 h
        exact hret _ _ (vz_ret_i dX9_drift_176 rfl)
    · rw [if_neg hb7] at h
      refine vr_iload (pc := 60) hc dX9_drift_60 rfl ?_
      refine vr_ldcw (pc := 62) hc dX9_drift_62 (1103515245 : Int32) cs_X9_262 ?_
      refine vr_imul (pc := 65) hc dX9_drift_65 ?_
      refine vr_sipush (pc := 66) hc dX9_drift_66 (12345 : Int32) (by decide) ?_
      refine vr_iadd (pc := 69) hc dX9_drift_69 ?_
      refine vr_istore (pc := 70) hc dX9_drift_70 (by decide) rfl ?_
      refine vr_iload (pc := 72) hc dX9_drift_72 rfl ?_
      refine vr_bipush (pc := 74) hc dX9_drift_74 (16 : Int32) (by decide) ?_
      refine vr_ishr (pc := 76) hc dX9_drift_76 ?_
      refine vr_sipush (pc := 77) hc dX9_drift_77 (32767 : Int32) (by decide) ?_
      refine vr_iand (pc := 80) hc dX9_drift_80 ?_
      obtain ⟨x9, hx10⟩ : ∃ x, x = (((x4 * (1103515245 : Int32)) + (12345 : Int32)) >>> ((16 : Int32) &&& 31)) &&& (32767 : Int32) := ⟨_, rfl⟩
      rw [← hx10] at h ⊢
      rw [vz_let_e] at h
      refine vr_istore (pc := 81) hc dX9_drift_81 (by decide) rfl ?_
      refine vr_iload (pc := 83) hc dX9_drift_83 rfl ?_
      refine vr_aload_n (pc := 85) hc dX9_drift_85 rfl ?_
      refine vr_getI (pc := 86) hc dX9_drift_86 fl_X9_150 gc_108 (gi_9_1 gc_108) ?_
      have hb11 : ¬ (σ 108 1) = 0 := vz_if0 h
      rw [if_neg hb11] at h
      refine vr_irem (pc := 89) hc dX9_drift_89 hb11 ?_
      refine vr_istore (pc := 90) hc dX9_drift_90 (by decide) rfl ?_
      refine vr_aload_n (pc := 92) hc dX9_drift_92 rfl ?_
      refine vr_sipush (pc := 93) hc dX9_drift_93 (244 : Int32) (by decide) ?_
      refine vr_iload (pc := 96) hc dX9_drift_96 rfl ?_
      refine vr_iload (pc := 98) hc dX9_drift_98 rfl ?_
      refine vr_iconst (pc := 100) hc dX9_drift_100 (4 : Int32) (by decide) ?_
      refine vr_idiv (pc := 101) hc dX9_drift_101 (by decide) ?_
      refine vr_aload_n (pc := 102) hc dX9_drift_102 rfl ?_
      refine vr_getR (pc := 103) hc dX9_drift_103 fl_X9_7 gc_108 (gr_9_0 gc_108).1 ?_
      refine vr_sipush (pc := 106) hc dX9_drift_106 (252 : Int32) (by decide) ?_
      refine vr_iload (pc := 109) hc dX9_drift_109 rfl ?_
      refine vr_iadd (pc := 111) hc dX9_drift_111 ?_
      have hb12 := vz_ifp h
      rw [if_pos hb12] at h
      refine vr_iald (pc := 112) hc 305 dX9_drift_112 ((gr_9_0 gc_108).2.1) ((gr_9_0 gc_108).2.2) (vz_in_vp hb12) ?_
      have hb13 : ¬ (σ 109 ((252 : Int32) + (x9 - x9 / (σ 108 1) * (σ 108 1))).toNatClampNeg) = 0 := vz_if0 h
      rw [if_neg hb13] at h
      refine vr_irem (pc := 113) hc dX9_drift_113 hb13 ?_
      obtain ⟨σ16, he14, h⟩ := vz_b1e h
      refine vr_cVv (pc := 114) hc dX9_drift_114 mt_X9_shiftsOn ml_X9_218 gc_108 (w_X9_shiftsOn z μ.2.1 (244 : Int32) (x9 - x9 / (σ 108 1) * (σ 108 1)) ((x9 / (4 : Int32)) - (x9 / (4 : Int32)) / (σ 109 ((252 : Int32) + (x9 - x9 / (σ 108 1) * (σ 108 1))).toNatClampNeg) * (σ 109 ((252 : Int32) + (x9 - x9 / (σ 108 1) * (σ 108 1))).toNatClampNeg)) σ he14) rfl (by decide) rfl (Nat.le_of_ble_eq_true rfl) ?_
      refine vr_aload_n (pc := 117) hc dX9_drift_117 rfl ?_
      refine vr_getR (pc := 118) hc dX9_drift_118 fl_X9_7 gc_108 (gr_9_0 gc_108).1 ?_
      refine vr_sipush (pc := 121) hc dX9_drift_121 (284 : Int32) (by decide) ?_
      refine vr_iload (pc := 124) hc dX9_drift_124 rfl ?_
      refine vr_bipush (pc := 126) hc dX9_drift_126 (16 : Int32) (by decide) ?_
      refine vr_idiv (pc := 128) hc dX9_drift_128 (by decide) ?_
      refine vr_bipush (pc := 129) hc dX9_drift_129 (60 : Int32) (by decide) ?_
      refine vr_irem (pc := 131) hc dX9_drift_131 (by decide) ?_
      have hb17 := vz_ifp h
      rw [if_pos hb17] at h
      refine vr_iast (pc := 132) hc 305 dX9_drift_132 ((gr_9_0 gc_108).2.1) ((gr_9_0 gc_108).2.2) (vz_in_vp hb17) ?_
      obtain ⟨σ18, hσ19⟩ : ∃ x, x = vz_up σ16 109 (284 : Int32).toNatClampNeg ((x9 / (16 : Int32)) - (x9 / (16 : Int32)) / (60 : Int32) * (60 : Int32)) := ⟨_, rfl⟩
      rw [← hσ19] at h ⊢
      rw [vz_let_e] at h
      refine vr_aload_n (pc := 133) hc dX9_drift_133 rfl ?_
      refine vr_getR (pc := 134) hc dX9_drift_134 fl_X9_7 gc_108 (gr_9_0 gc_108).1 ?_
      refine vr_sipush (pc := 137) hc dX9_drift_137 (285 : Int32) (by decide) ?_
      refine vr_bipush (pc := 140) hc dX9_drift_140 (10 : Int32) (by decide) ?_
      have hb20 := vz_ifp h
      rw [if_pos hb20] at h
      refine vr_iast (pc := 142) hc 305 dX9_drift_142 ((gr_9_0 gc_108).2.1) ((gr_9_0 gc_108).2.2) (vz_in_vp hb20) ?_
      refine vr_aload_n (pc := 143) hc dX9_drift_143 rfl ?_
      refine vr_sipush (pc := 144) hc dX9_drift_144 (244 : Int32) (by decide) ?_
      obtain ⟨v22, σ23, he21, h⟩ := vz_b2e h
      refine vr_cVi (pc := 147) hc dX9_drift_147 mt_X9_pairsOn ml_X9_195 gc_108 (w_X9_pairsOn z μ.2.1 (244 : Int32) (vz_up σ18 109 (285 : Int32).toNatClampNeg (10 : Int32)) he21) rfl (by decide) rfl (Nat.le_of_ble_eq_true rfl) ?_
      refine vr_istore (pc := 150) hc dX9_drift_150 (by decide) rfl ?_
      refine vr_iload (pc := 152) hc dX9_drift_152 rfl ?_
      refine vr_iload (pc := 154) hc dX9_drift_154 rfl ?_
      refine vr_iadd (pc := 156) hc dX9_drift_156 ?_
      refine vr_istore (pc := 157) hc dX9_drift_157 (by decide) rfl ?_
      refine vr_iinc (pc := 159) hc dX9_drift_159 (1 : Int32) (by decide) rfl (by decide) rfl ?_
      refine vr_goto (pc := 162) hc 54 dX9_drift_162 (by decide) ?_
      exact vz_sub (ih x2 x3 ((x4 * (1103515245 : Int32)) + (12345 : Int32)) (x5 + v22) v22 (x7 + (1 : Int32)) σ23  h) (vz_sb1 rfl (vz_sb1 rfl (vz_sb1 rfl (vz_sb1 rfl (vz_sb1 rfl (vz_sb1 rfl (vz_sb1 rfl vz_sb0)))))))
def f_X9_drift (x1 : Int32) (x2 : Int32) (x3 : Int32) (σ : vz_I) : Option (Int32 × vz_I) := if (f_X9_in x2.toInt64 (1 : Int64) (60 : Int64)) = 0 then some ((-1 : Int32), σ) else if (f_X9_in x3.toInt64 (0 : Int64) (1 : Int64)) = 0 then some ((-1 : Int32), σ) else if (σ 108 1) = 0 then some ((-2 : Int32), σ) else vz_b1 (f_X9_copies (0 : Int32) (244 : Int32) σ) (fun σ6 => f_X9_drift_54 vz_fu x2 x3 x1 (0 : Int32) (0 : Int32) (0 : Int32) σ6)
set_option maxRecDepth 20000 in
set_option maxHeartbeats 1000000 in
theorem w_X9_drift (z : vz_Z) (l : Launch) (x1 : Int32) (x2 : Int32) (x3 : Int32) (σ : vz_I)  {r : Int32} {σ' : vz_I} (h : f_X9_drift x1 x2 x3 σ = some (r, σ')) : vz_Con z l 5 yX9_drift cX9_drift 10 (some .int) [.ref 108, .int x1, .int x2, .int x3] vz_G0 σ vz_N0 (some (.int r)) vz_G0 σ' vz_N0 0 0 := by
  refine vz_con (by decide) (Nat.le_of_ble_eq_true rfl) (fun μ hc hl hcap hret => ?_)
  subst hl
  unfold f_X9_drift at h
  refine vr_iload_n (pc := 0) hc dX9_drift_0 rfl ?_
  refine vr_i2l (pc := 1) hc dX9_drift_1 ?_
  refine vr_lconst (pc := 2) hc dX9_drift_2 (1 : Int64) (by decide) ?_
  refine vr_ldc2 (pc := 3) hc dX9_drift_3 (60 : Int64) cl_X9_260 ?_
  refine vr_cSi (pc := 6) hc dX9_drift_6 mt_X9_in sx_X9_in ml_X9_55  (w_X9_in z μ.2.1 x2.toInt64 (1 : Int64) (60 : Int64) σ rfl) rfl (by decide) rfl (Nat.le_of_ble_eq_true rfl) ?_
  refine vr_if_eq (pc := 9) hc 22 dX9_drift_9 (by decide) (fun hb1 => ?_) (fun hb1 => ?_)
  · rw [if_pos hb1] at h
    refine vr_iconst (pc := 22) hc dX9_drift_22 (-1 : Int32) (by decide) ?_
    obtain ⟨rfl, rfl⟩ := vz_in2 h
    exact hret _ _ (vz_ret_i dX9_drift_23 rfl)
  · rw [if_neg hb1] at h
    refine vr_iload_n (pc := 12) hc dX9_drift_12 rfl ?_
    refine vr_i2l (pc := 13) hc dX9_drift_13 ?_
    refine vr_lconst (pc := 14) hc dX9_drift_14 (0 : Int64) (by decide) ?_
    refine vr_lconst (pc := 15) hc dX9_drift_15 (1 : Int64) (by decide) ?_
    refine vr_cSi (pc := 16) hc dX9_drift_16 mt_X9_in sx_X9_in ml_X9_55  (w_X9_in z μ.2.1 x3.toInt64 (0 : Int64) (1 : Int64) σ rfl) rfl (by decide) rfl (Nat.le_of_ble_eq_true rfl) ?_
    refine vr_if_ne (pc := 19) hc 24 dX9_drift_19 (by decide) (fun hb2 => ?_) (fun hb2 => ?_)
    · rw [if_neg hb2] at h
      refine vr_aload_n (pc := 24) hc dX9_drift_24 rfl ?_
      refine vr_getI (pc := 25) hc dX9_drift_25 fl_X9_150 gc_108 (gi_9_1 gc_108) ?_
      refine vr_if_ne (pc := 28) hc 34 dX9_drift_28 (by decide) (fun hb3 => ?_) (fun hb3 => ?_)
      · rw [if_neg hb3] at h
        refine vr_aload_n (pc := 34) hc dX9_drift_34 rfl ?_
        refine vr_iconst (pc := 35) hc dX9_drift_35 (0 : Int32) (by decide) ?_
        refine vr_sipush (pc := 36) hc dX9_drift_36 (244 : Int32) (by decide) ?_
        obtain ⟨σ6, he4, h⟩ := vz_b1e h
        refine vr_cVv (pc := 39) hc dX9_drift_39 mt_X9_copies ml_X9_235 gc_108 (w_X9_copies z μ.2.1 (0 : Int32) (244 : Int32) σ he4) rfl (by decide) rfl (Nat.le_of_ble_eq_true rfl) ?_
        refine vr_iload_n (pc := 42) hc dX9_drift_42 rfl ?_
        refine vr_istore (pc := 43) hc dX9_drift_43 (by decide) rfl ?_
        refine vr_iconst (pc := 45) hc dX9_drift_45 (0 : Int32) (by decide) ?_
        refine vr_istore (pc := 46) hc dX9_drift_46 (by decide) rfl ?_
        refine vr_iconst (pc := 48) hc dX9_drift_48 (0 : Int32) (by decide) ?_
        refine vr_istore (pc := 49) hc dX9_drift_49 (by decide) rfl ?_
        refine vr_iconst (pc := 51) hc dX9_drift_51 (0 : Int32) (by decide) ?_
        refine vr_istore (pc := 52) hc dX9_drift_52 (by decide) rfl ?_
        exact vz_sub (wn_X9_drift_54 z μ hc hret vz_fu x2 x3 x1 (0 : Int32) (0 : Int32) (0 : Int32) σ6 h) (vz_sb1 rfl (vz_sb1 rfl (vz_sb1 rfl (vz_sb1 rfl (vz_sb1 rfl (vz_sb1 rfl (vz_sb1 rfl vz_sb0)))))))
      · rw [if_pos hb3] at h
        refine vr_bipush (pc := 31) hc dX9_drift_31 (-2 : Int32) (by decide) ?_
        obtain ⟨rfl, rfl⟩ := vz_in2 h
        exact hret _ _ (vz_ret_i dX9_drift_33 rfl)
    · rw [if_pos hb2] at h
      refine vr_iconst (pc := 22) hc dX9_drift_22 (-1 : Int32) (by decide) ?_
      obtain ⟨rfl, rfl⟩ := vz_in2 h
      exact hret _ _ (vz_ret_i dX9_drift_23 rfl)
