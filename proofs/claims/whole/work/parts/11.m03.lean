-- X7_minutesRead: depth 2, effects S=True W=False P=True
def f_X7_minutesRead_6 : Nat → Nat → Nat → Int32 → Int32 → Int64 → Int32 → vz_I → Option Int64
  | 0, _, _, _, _, _, _, _ => none
  | n + 1, a0, a1, x2, x3, j4, x6, σ => if (σ a0 0) ≤ x6 then some (j4 &&& (f_X7_minutesOf a0 a1 σ)) else if vz_in x6 4 then if (σ (a0 + 5 + 2 * x6.toNatClampNeg) 1) = x3 then if vz_in x6 4 then vz_b1 (f_X0_minutesShown (a0 + 5 + 2 * x6.toNatClampNeg) (σ a1 0) x2 σ) (fun v6 => f_X7_minutesRead_6 n a0 a1 x2 x3 (j4 ||| v6) (x6 + (1 : Int32)) σ) else none else f_X7_minutesRead_6 n a0 a1 x2 x3 j4 (x6 + (1 : Int32)) σ else none
theorem f_X7_minutesRead_6_s (n : Nat) (a0 : Nat) (a1 : Nat) (x2 : Int32) (x3 : Int32) (j4 : Int64) (x6 : Int32) (σ : vz_I) : f_X7_minutesRead_6  (n + 1) a0 a1 x2 x3 j4 x6 σ = if (σ a0 0) ≤ x6 then some (j4 &&& (f_X7_minutesOf a0 a1 σ)) else if vz_in x6 4 then if (σ (a0 + 5 + 2 * x6.toNatClampNeg) 1) = x3 then if vz_in x6 4 then vz_b1 (f_X0_minutesShown (a0 + 5 + 2 * x6.toNatClampNeg) (σ a1 0) x2 σ) (fun v6 => f_X7_minutesRead_6 n a0 a1 x2 x3 (j4 ||| v6) (x6 + (1 : Int32)) σ) else none else f_X7_minutesRead_6 n a0 a1 x2 x3 j4 (x6 + (1 : Int32)) σ else none := rfl
set_option maxRecDepth 20000 in
set_option maxHeartbeats 1000000 in
theorem wn_X7_minutesRead_6 (z : vz_Z) (μ : vz_M) (hc : vz_C z μ cX7_minutesRead RX7 2 7) {r : Int64} (σ : vz_I) (hret : ∀ (pc : Nat) (L : vz_L), vz_ret cX7_minutesRead (some .long) pc (some (.long r)) → vz_V z μ 0 0 pc L ((some (.long r)) : Option Value).toList vz_G0 σ vz_N0) : ∀ (n : Nat) (a0 : Nat) (a1 : Nat) (x2 : Int32) (x3 : Int32) (j4 : Int64) (x6 : Int32) (ha0 : (vz_G0 a0).1 = 7) (ha1 : (vz_G0 a1).1 = 3) (h : f_X7_minutesRead_6  n a0 a1 x2 x3 j4 x6 σ = some r), vz_V z μ 0 0 6 [(0, some (.ref a0)), (1, some (.ref a1)), (2, some (.int x2)), (3, some (.int x3)), (4, some (.long j4)), (6, some (.int x6))] [] vz_G0 σ vz_N0 := by
  intro n
  induction n with
  | zero =>
    intro a0 a1 x2 x3 j4 x6 ha0 ha1 h
    cases h
  | succ n ih =>
    intro a0 a1 x2 x3 j4 x6 ha0 ha1 h
    rw [f_X7_minutesRead_6_s] at h
    refine vr_iload (pc := 6) hc dX7_minutesRead_6 rfl ?_
    refine vr_aload_n (pc := 8) hc dX7_minutesRead_8 rfl ?_
    refine vr_getI (pc := 9) hc dX7_minutesRead_9 fl_X7_32 ha0 (gi_7_0 ha0) ?_
    refine vr_icmp_ge (pc := 12) hc 55 dX7_minutesRead_12 (by decide) (fun hb1 => ?_) (fun hb1 => ?_)
    · rw [if_pos hb1] at h
      refine vr_lload (pc := 55) hc dX7_minutesRead_55 rfl ?_
      refine vr_aload_n (pc := 57) hc dX7_minutesRead_57 rfl ?_
      refine vr_aload_n (pc := 58) hc dX7_minutesRead_58 rfl ?_
      refine vr_cVj (pc := 59) hc dX7_minutesRead_59 mt_X7_minutesOf ml_X7_88 ha0 (w_X7_minutesOf z μ.2.1 a0 a1 σ ha0 ha1 rfl) rfl (by decide) rfl (Nat.le_of_ble_eq_true rfl) ?_
      refine vr_land (pc := 62) hc dX7_minutesRead_62 ?_
      obtain rfl := Option.some.inj h
      exact hret _ _ (vz_ret_l dX7_minutesRead_63)
    · rw [if_neg hb1] at h
      refine vr_aload_n (pc := 15) hc dX7_minutesRead_15 rfl ?_
      refine vr_getR (pc := 16) hc dX7_minutesRead_16 fl_X7_11 ha0 (gr_7_5 ha0).1 ?_
      refine vr_iload (pc := 19) hc dX7_minutesRead_19 rfl ?_
      have hb2 := vz_ifp h
      rw [if_pos hb2] at h
      refine vr_aald (pc := 21) hc 13 4 dX7_minutesRead_21 ((gr_7_5 ha0).2.1) (by decide) (by decide) ((gr_7_5 ha0).2.2) (vz_in_vp hb2) (ge_13 ha0 (vz_in_lt hb2)).1 ?_
      refine vr_getI (pc := 22) hc dX7_minutesRead_22 fl_X7_98 ((ge_13 ha0 (vz_in_lt hb2)).2) (gi_0_1 ((ge_13 ha0 (vz_in_lt hb2)).2)) ?_
      refine vr_iload_n (pc := 25) hc dX7_minutesRead_25 rfl ?_
      refine vr_icmp_ne (pc := 26) hc 49 dX7_minutesRead_26 (by decide) (fun hb3 => ?_) (fun hb3 => ?_)
      · rw [if_neg hb3] at h
        refine vr_iinc (pc := 49) hc dX7_minutesRead_49 (1 : Int32) (by decide) rfl (by decide) rfl ?_
        refine vr_goto (pc := 52) hc 6 dX7_minutesRead_52 (by decide) ?_
        exact vz_sub (ih a0 a1 x2 x3 j4 (x6 + (1 : Int32))  ha0 ha1 h) (vz_sb1 rfl (vz_sb1 rfl (vz_sb1 rfl (vz_sb1 rfl (vz_sb1 rfl (vz_sb1 rfl vz_sb0))))))
      · rw [if_pos hb3] at h
        refine vr_lload (pc := 29) hc dX7_minutesRead_29 rfl ?_
        refine vr_aload_n (pc := 31) hc dX7_minutesRead_31 rfl ?_
        refine vr_getR (pc := 32) hc dX7_minutesRead_32 fl_X7_11 ha0 (gr_7_5 ha0).1 ?_
        refine vr_iload (pc := 35) hc dX7_minutesRead_35 rfl ?_
        have hb4 := vz_ifp h
        rw [if_pos hb4] at h
        refine vr_aald (pc := 37) hc 13 4 dX7_minutesRead_37 ((gr_7_5 ha0).2.1) (by decide) (by decide) ((gr_7_5 ha0).2.2) (vz_in_vp hb4) (ge_13 ha0 (vz_in_lt hb4)).1 ?_
        refine vr_aload_n (pc := 38) hc dX7_minutesRead_38 rfl ?_
        refine vr_getI (pc := 39) hc dX7_minutesRead_39 fl_X7_92 ha1 (gi_3_0 ha1) ?_
        refine vr_iload_n (pc := 42) hc dX7_minutesRead_42 rfl ?_
        obtain ⟨v6, he5, h⟩ := vz_b1e h
        refine vr_cVj (pc := 43) hc dX7_minutesRead_43 mt_X0_minutesShown ml_X7_95 ((ge_13 ha0 (vz_in_lt hb4)).2) (w_X0_minutesShown z μ.2.1 (a0 + 5 + 2 * x6.toNatClampNeg) (σ a1 0) x2 σ ((ge_13 ha0 (vz_in_lt hb4)).2) he5) rfl (by decide) rfl (Nat.le_of_ble_eq_true rfl) ?_
        refine vr_lor (pc := 46) hc dX7_minutesRead_46 ?_
        refine vr_lstore (pc := 47) hc dX7_minutesRead_47 (by decide) rfl ?_
        refine vr_iinc (pc := 49) hc dX7_minutesRead_49 (1 : Int32) (by decide) rfl (by decide) rfl ?_
        refine vr_goto (pc := 52) hc 6 dX7_minutesRead_52 (by decide) ?_
        exact vz_sub (ih a0 a1 x2 x3 (j4 ||| v6) (x6 + (1 : Int32))  ha0 ha1 h) (vz_sb1 rfl (vz_sb1 rfl (vz_sb1 rfl (vz_sb1 rfl (vz_sb1 rfl (vz_sb1 rfl vz_sb0))))))
def f_X7_minutesRead (a0 : Nat) (a1 : Nat) (x2 : Int32) (x3 : Int32) (σ : vz_I) : Option Int64 := f_X7_minutesRead_6 vz_fu a0 a1 x2 x3 (0 : Int64) (0 : Int32) σ
set_option maxRecDepth 20000 in
set_option maxHeartbeats 1000000 in
theorem w_X7_minutesRead (z : vz_Z) (l : Launch) (a0 : Nat) (a1 : Nat) (x2 : Int32) (x3 : Int32) (σ : vz_I) (ha0 : (vz_G0 a0).1 = 7) (ha1 : (vz_G0 a1).1 = 3) {r : Int64} (h : f_X7_minutesRead a0 a1 x2 x3 σ = some r) : vz_Con z l 2 yX7_minutesRead cX7_minutesRead 7 (some .long) [.ref a0, .ref a1, .int x2, .int x3] vz_G0 σ vz_N0 (some (.long r)) vz_G0 σ vz_N0 0 0 := by
  refine vz_con (by decide) (Nat.le_of_ble_eq_true rfl) (fun μ hc hl hcap hret => ?_)
  subst hl
  unfold f_X7_minutesRead at h
  refine vr_lconst (pc := 0) hc dX7_minutesRead_0 (0 : Int64) (by decide) ?_
  refine vr_lstore (pc := 1) hc dX7_minutesRead_1 (by decide) rfl ?_
  refine vr_iconst (pc := 3) hc dX7_minutesRead_3 (0 : Int32) (by decide) ?_
  refine vr_istore (pc := 4) hc dX7_minutesRead_4 (by decide) rfl ?_
  exact vz_sub (wn_X7_minutesRead_6 z μ hc σ hret vz_fu a0 a1 x2 x3 (0 : Int64) (0 : Int32) ha0 ha1 h) (vz_sb1 rfl (vz_sb1 rfl (vz_sb1 rfl (vz_sb1 rfl (vz_sb1 rfl (vz_sb1 rfl vz_sb0))))))
-- X7_driftBy: depth 2, effects S=True W=True P=True
def f_X7_driftBy_46 (a0 : Nat) (x1 : Int32) (σ : vz_I) : Option vz_I := some (f_X7_setRain a0 ((x1 / (16 : Int32)) - (x1 / (16 : Int32)) / (60 : Int32) * (60 : Int32)) (10 : Int32) σ)
set_option maxRecDepth 20000 in
set_option maxHeartbeats 1000000 in
theorem wn_X7_driftBy_46 (z : vz_Z) (μ : vz_M) (hc : vz_C z μ cX7_driftBy RX7 2 3) {σ' : vz_I} (hret : ∀ (pc : Nat) (L : vz_L), vz_ret cX7_driftBy none pc none → vz_V z μ 0 0 pc L (none : Option Value).toList vz_G0 σ' vz_N0) (a0 : Nat) (x1 : Int32) (σ : vz_I) (ha0 : (vz_G0 a0).1 = 7) (h : f_X7_driftBy_46  a0 x1 σ = some σ') : vz_V z μ 0 0 46 [(0, some (.ref a0)), (1, some (.int x1))] [] vz_G0 σ vz_N0 := by
  unfold f_X7_driftBy_46 at h
  refine vr_aload_n (pc := 46) hc dX7_driftBy_46 rfl ?_
  refine vr_iload_n (pc := 47) hc dX7_driftBy_47 rfl ?_
  refine vr_bipush (pc := 48) hc dX7_driftBy_48 (16 : Int32) (by decide) ?_
  refine vr_idiv (pc := 50) hc dX7_driftBy_50 (by decide) ?_
  refine vr_bipush (pc := 51) hc dX7_driftBy_51 (60 : Int32) (by decide) ?_
  refine vr_irem (pc := 53) hc dX7_driftBy_53 (by decide) ?_
  refine vr_bipush (pc := 54) hc dX7_driftBy_54 (10 : Int32) (by decide) ?_
  refine vr_cVv (pc := 56) hc dX7_driftBy_56 mt_X7_setRain ml_X7_42 ha0 (w_X7_setRain z μ.2.1 a0 ((x1 / (16 : Int32)) - (x1 / (16 : Int32)) / (60 : Int32) * (60 : Int32)) (10 : Int32) σ ha0 rfl) rfl (by decide) rfl (Nat.le_of_ble_eq_true rfl) ?_
  obtain rfl := Option.some.inj h
  exact hret _ _ (vz_ret_v dX7_driftBy_59)
def f_X7_driftBy (a0 : Nat) (x1 : Int32) (σ : vz_I) : Option vz_I := if (1 : Int32) ≤ (σ a0 0) then if (σ a0 0) = 0 then none else vz_b1 (f_X7_manAt a0 (x1 - x1 / (σ a0 0) * (σ a0 0)) σ) (fun v4 => vz_mo v4 (f_X7_driftBy_46 a0 x1 σ) (fun a6 => if (σ a6 2) ≤ 0 then f_X7_driftBy_46 a0 x1 σ else if (σ a6 2) = 0 then none else vz_b1 (f_X0_turnTo a6 ((x1 / (4 : Int32)) - (x1 / (4 : Int32)) / (σ a6 2) * (σ a6 2)) σ) (fun σ11 => f_X7_driftBy_46 a0 x1 σ11))) else f_X7_driftBy_46 a0 x1 σ
set_option maxRecDepth 20000 in
set_option maxHeartbeats 1000000 in
theorem w_X7_driftBy (z : vz_Z) (l : Launch) (a0 : Nat) (x1 : Int32) (σ : vz_I) (ha0 : (vz_G0 a0).1 = 7) {σ' : vz_I} (h : f_X7_driftBy a0 x1 σ = some σ') : vz_Con z l 2 yX7_driftBy cX7_driftBy 3 none [.ref a0, .int x1] vz_G0 σ vz_N0 none vz_G0 σ' vz_N0 0 0 := by
  refine vz_con (by decide) (Nat.le_of_ble_eq_true rfl) (fun μ hc hl hcap hret => ?_)
  subst hl
  unfold f_X7_driftBy at h
  refine vr_aload_n (pc := 0) hc dX7_driftBy_0 rfl ?_
  refine vr_getI (pc := 1) hc dX7_driftBy_1 fl_X7_32 ha0 (gi_7_0 ha0) ?_
  refine vr_iconst (pc := 4) hc dX7_driftBy_4 (1 : Int32) (by decide) ?_
  refine vr_icmp_ge (pc := 5) hc 12 dX7_driftBy_5 (by decide) (fun hb1 => ?_) (fun hb1 => ?_)
  · rw [if_pos hb1] at h
    refine vr_aload_n (pc := 12) hc dX7_driftBy_12 rfl ?_
    refine vr_iload_n (pc := 13) hc dX7_driftBy_13 rfl ?_
    refine vr_aload_n (pc := 14) hc dX7_driftBy_14 rfl ?_
    refine vr_getI (pc := 15) hc dX7_driftBy_15 fl_X7_32 ha0 (gi_7_0 ha0) ?_
    have hb2 : ¬ (σ a0 0) = 0 := vz_if0 h
    rw [if_neg hb2] at h
    refine vr_irem (pc := 18) hc dX7_driftBy_18 hb2 ?_
    obtain ⟨v4, he3, h⟩ := vz_b1e h
    cases v4 with
    | none =>
      rw [vz_mo_n] at h
      refine vr_cVn (pc := 19) hc dX7_driftBy_19 mt_X7_manAt ml_X7_131 ha0 (w_X7_manAt z μ.2.1 a0 (x1 - x1 / (σ a0 0) * (σ a0 0)) σ ha0 he3) rfl (by decide) rfl (Nat.le_of_ble_eq_true rfl) ?_
      refine vr_astoreN_n (pc := 22) hc dX7_driftBy_22 (by decide) rfl ?_
      refine vr_aloadN_n (pc := 23) hc dX7_driftBy_23 rfl ?_
      refine vr_ifnullN (pc := 24) hc 46 dX7_driftBy_24 (by decide) ?_
      exact vz_sub (wn_X7_driftBy_46 z μ hc hret a0 x1 σ ha0 h) (vz_sb1 rfl (vz_sb1 rfl vz_sb0))
    | some a6 =>
      rw [vz_mo_s] at h
      refine vr_cVa (pc := 19) hc dX7_driftBy_19 mt_X7_manAt ml_X7_131 ha0 (w_X7_manAt z μ.2.1 a0 (x1 - x1 / (σ a0 0) * (σ a0 0)) σ ha0 he3) rfl (by decide) rfl (Nat.le_of_ble_eq_true rfl) ?_
      refine vr_astore_n (pc := 22) hc dX7_driftBy_22 (by decide) rfl ?_
      refine vr_aload_n (pc := 23) hc dX7_driftBy_23 rfl ?_
      refine vr_ifnull (pc := 24) hc dX7_driftBy_24 ?_
      refine vr_aload_n (pc := 27) hc dX7_driftBy_27 rfl ?_
      refine vr_getI (pc := 28) hc dX7_driftBy_28 fl_X7_62 (wc_X7_manAt ha0 he3) (gi_0_2 (wc_X7_manAt ha0 he3)) ?_
      refine vr_if_le (pc := 31) hc 46 dX7_driftBy_31 (by decide) (fun hb7 => ?_) (fun hb7 => ?_)
      · rw [if_pos hb7] at h
        exact vz_sub (wn_X7_driftBy_46 z μ hc hret a0 x1 σ ha0 h) (vz_sb1 rfl (vz_sb1 rfl vz_sb0))
      · rw [if_neg hb7] at h
        refine vr_aload_n (pc := 34) hc dX7_driftBy_34 rfl ?_
        refine vr_iload_n (pc := 35) hc dX7_driftBy_35 rfl ?_
        refine vr_iconst (pc := 36) hc dX7_driftBy_36 (4 : Int32) (by decide) ?_
        refine vr_idiv (pc := 37) hc dX7_driftBy_37 (by decide) ?_
        refine vr_aload_n (pc := 38) hc dX7_driftBy_38 rfl ?_
        refine vr_getI (pc := 39) hc dX7_driftBy_39 fl_X7_62 (wc_X7_manAt ha0 he3) (gi_0_2 (wc_X7_manAt ha0 he3)) ?_
        have hb8 : ¬ (σ a6 2) = 0 := vz_if0 h
        rw [if_neg hb8] at h
        refine vr_irem (pc := 42) hc dX7_driftBy_42 hb8 ?_
        obtain ⟨σ11, he9, h⟩ := vz_b1e h
        refine vr_cVv (pc := 43) hc dX7_driftBy_43 mt_X0_turnTo ml_X7_137 (wc_X7_manAt ha0 he3) (w_X0_turnTo z μ.2.1 a6 ((x1 / (4 : Int32)) - (x1 / (4 : Int32)) / (σ a6 2) * (σ a6 2)) σ (wc_X7_manAt ha0 he3) he9) rfl (by decide) rfl (Nat.le_of_ble_eq_true rfl) ?_
        exact vz_sub (wn_X7_driftBy_46 z μ hc hret a0 x1 σ11 ha0 h) (vz_sb1 rfl (vz_sb1 rfl vz_sb0))
  · rw [if_neg hb1] at h
    refine vr_null (pc := 8) hc dX7_driftBy_8 ?_
    refine vr_goto (pc := 9) hc 22 dX7_driftBy_9 (by decide) ?_
    refine vr_astoreN_n (pc := 22) hc dX7_driftBy_22 (by decide) rfl ?_
    refine vr_aloadN_n (pc := 23) hc dX7_driftBy_23 rfl ?_
    refine vr_ifnullN (pc := 24) hc 46 dX7_driftBy_24 (by decide) ?_
    exact vz_sub (wn_X7_driftBy_46 z μ hc hret a0 x1 σ ha0 h) (vz_sb1 rfl (vz_sb1 rfl vz_sb0))
-- X8_alter: depth 2, effects S=True W=True P=True
def f_X8_alter_46 (x2 : Int32) (x3 : Int32) (a4 : Nat) (σ : vz_I) : Option (Int32 × vz_I) := if x2 = (1 : Int32) then if (f_X8_isNews x3) = 0 then some ((-1 : Int32), σ) else some (σ a4 1, vz_up σ a4 1 x3) else some ((-1 : Int32), σ)
set_option maxRecDepth 20000 in
set_option maxHeartbeats 1000000 in
theorem wn_X8_alter_46 (z : vz_Z) (μ : vz_M) (hc : vz_C z μ cX8_alter RX8 2 6) {r : Int32} {σ' : vz_I} (hret : ∀ (pc : Nat) (L : vz_L), vz_ret cX8_alter (some .int) pc (some (.int r)) → vz_V z μ 0 0 pc L ((some (.int r)) : Option Value).toList vz_G0 σ' vz_N0) (x2 : Int32) (x3 : Int32) (a4 : Nat) (σ : vz_I) (ha4 : (vz_G0 a4).1 = 0) (h : f_X8_alter_46  x2 x3 a4 σ = some (r, σ')) : vz_V z μ 0 0 46 [(2, some (.int x2)), (3, some (.int x3)), (4, some (.ref a4))] [] vz_G0 σ vz_N0 := by
  unfold f_X8_alter_46 at h
  refine vr_iload_n (pc := 46) hc dX8_alter_46 rfl ?_
  refine vr_iconst (pc := 47) hc dX8_alter_47 (1 : Int32) (by decide) ?_
  refine vr_icmp_ne (pc := 48) hc 74 dX8_alter_48 (by decide) (fun hb6 => ?_) (fun hb6 => ?_)
  · rw [if_neg hb6] at h
    refine vr_iconst (pc := 74) hc dX8_alter_74 (-1 : Int32) (by decide) ?_
    obtain ⟨rfl, rfl⟩ := vz_in2 h
    exact hret _ _ (vz_ret_i dX8_alter_75 rfl)
  · rw [if_pos hb6] at h
    refine vr_iload_n (pc := 51) hc dX8_alter_51 rfl ?_
    refine vr_cSi (pc := 52) hc dX8_alter_52 mt_X8_isNews sx_X8_isNews ml_X8_182  (w_X8_isNews z μ.2.1 x3 σ rfl) rfl (by decide) rfl (Nat.le_of_ble_eq_true rfl) ?_
    refine vr_if_eq (pc := 55) hc 74 dX8_alter_55 (by decide) (fun hb7 => ?_) (fun hb7 => ?_)
    · rw [if_pos hb7] at h
      refine vr_iconst (pc := 74) hc dX8_alter_74 (-1 : Int32) (by decide) ?_
      obtain ⟨rfl, rfl⟩ := vz_in2 h
      exact hret _ _ (vz_ret_i dX8_alter_75 rfl)
    · rw [if_neg hb7] at h
      refine vr_aload (pc := 58) hc dX8_alter_58 rfl ?_
      refine vr_getI (pc := 60) hc dX8_alter_60 fl_X8_135 ha4 (gi_0_1 ha4) ?_
      refine vr_istore (pc := 63) hc dX8_alter_63 (by decide) rfl ?_
      refine vr_aload (pc := 65) hc dX8_alter_65 rfl ?_
      refine vr_iload_n (pc := 67) hc dX8_alter_67 rfl ?_
      refine vr_putI (pc := 68) hc dX8_alter_68 fl_X8_135 ha4 (gi_0_1 ha4) rfl rfl ?_
      refine vr_iload (pc := 71) hc dX8_alter_71 rfl ?_
      obtain ⟨rfl, rfl⟩ := vz_in2 h
      exact hret _ _ (vz_ret_i dX8_alter_73 rfl)
def f_X8_alter (x1 : Int32) (x2 : Int32) (x3 : Int32) (σ : vz_I) : Option (Int32 × vz_I) := vz_b1 (f_X7_manAt 21 x1 σ) (fun v2 => vz_mo v2 (some ((-1 : Int32), σ)) (fun a4 => if x2 = 0 then if (f_X8_isWithin x3 (0 : Int32) (3 : Int32)) = 0 then f_X8_alter_46 x2 x3 a4 σ else some (σ a4 0, vz_up σ a4 0 x3) else f_X8_alter_46 x2 x3 a4 σ))
set_option maxRecDepth 20000 in
set_option maxHeartbeats 1000000 in
theorem w_X8_alter (z : vz_Z) (l : Launch) (x1 : Int32) (x2 : Int32) (x3 : Int32) (σ : vz_I)  {r : Int32} {σ' : vz_I} (h : f_X8_alter x1 x2 x3 σ = some (r, σ')) : vz_Con z l 2 yX8_alter cX8_alter 6 (some .int) [.ref 0, .int x1, .int x2, .int x3] vz_G0 σ vz_N0 (some (.int r)) vz_G0 σ' vz_N0 0 0 := by
  refine vz_con (by decide) (Nat.le_of_ble_eq_true rfl) (fun μ hc hl hcap hret => ?_)
  subst hl
  unfold f_X8_alter at h
  refine vr_aload_n (pc := 0) hc dX8_alter_0 rfl ?_
  refine vr_getR (pc := 1) hc dX8_alter_1 fl_X8_19 gc_0 (gr_8_1 gc_0).1 ?_
  refine vr_iload_n (pc := 4) hc dX8_alter_4 rfl ?_
  obtain ⟨v2, he1, h⟩ := vz_b1e h
  cases v2 with
  | none =>
    rw [vz_mo_n] at h
    refine vr_cVn (pc := 5) hc dX8_alter_5 mt_X7_manAt ml_X8_126 ((gr_8_1 gc_0).2.1) (w_X7_manAt z μ.2.1 21 x1 σ ((gr_8_1 gc_0).2.1) he1) rfl (by decide) rfl (Nat.le_of_ble_eq_true rfl) ?_
    refine vr_astoreN (pc := 8) hc dX8_alter_8 (by decide) rfl ?_
    refine vr_aloadN (pc := 10) hc dX8_alter_10 rfl ?_
    refine vr_ifnonnullN (pc := 12) hc dX8_alter_12 ?_
    refine vr_iconst (pc := 15) hc dX8_alter_15 (-1 : Int32) (by decide) ?_
    obtain ⟨rfl, rfl⟩ := vz_in2 h
    exact hret _ _ (vz_ret_i dX8_alter_16 rfl)
  | some a4 =>
    rw [vz_mo_s] at h
    refine vr_cVa (pc := 5) hc dX8_alter_5 mt_X7_manAt ml_X8_126 ((gr_8_1 gc_0).2.1) (w_X7_manAt z μ.2.1 21 x1 σ ((gr_8_1 gc_0).2.1) he1) rfl (by decide) rfl (Nat.le_of_ble_eq_true rfl) ?_
    refine vr_astore (pc := 8) hc dX8_alter_8 (by decide) rfl ?_
    refine vr_aload (pc := 10) hc dX8_alter_10 rfl ?_
    refine vr_ifnonnull (pc := 12) hc 17 dX8_alter_12 (by decide) ?_
    refine vr_iload_n (pc := 17) hc dX8_alter_17 rfl ?_
    refine vr_if_ne (pc := 18) hc 46 dX8_alter_18 (by decide) (fun hb5 => ?_) (fun hb5 => ?_)
    · rw [if_neg hb5] at h
      exact vz_sub (wn_X8_alter_46 z μ hc hret x2 x3 a4 σ (wc_X7_manAt ((gr_8_1 gc_0).2.1) he1) h) (vz_sb1 rfl (vz_sb1 rfl (vz_sb1 rfl vz_sb0)))
    · rw [if_pos hb5] at h
      refine vr_iload_n (pc := 21) hc dX8_alter_21 rfl ?_
      refine vr_iconst (pc := 22) hc dX8_alter_22 (0 : Int32) (by decide) ?_
      refine vr_iconst (pc := 23) hc dX8_alter_23 (3 : Int32) (by decide) ?_
      refine vr_cSi (pc := 24) hc dX8_alter_24 mt_X8_isWithin sx_X8_isWithin ml_X8_70  (w_X8_isWithin z μ.2.1 x3 (0 : Int32) (3 : Int32) σ rfl) rfl (by decide) rfl (Nat.le_of_ble_eq_true rfl) ?_
      refine vr_if_eq (pc := 27) hc 46 dX8_alter_27 (by decide) (fun hb8 => ?_) (fun hb8 => ?_)
      · rw [if_pos hb8] at h
        exact vz_sub (wn_X8_alter_46 z μ hc hret x2 x3 a4 σ (wc_X7_manAt ((gr_8_1 gc_0).2.1) he1) h) (vz_sb1 rfl (vz_sb1 rfl (vz_sb1 rfl vz_sb0)))
      · rw [if_neg hb8] at h
        refine vr_aload (pc := 30) hc dX8_alter_30 rfl ?_
        refine vr_getI (pc := 32) hc dX8_alter_32 fl_X8_130 (wc_X7_manAt ((gr_8_1 gc_0).2.1) he1) (gi_0_0 (wc_X7_manAt ((gr_8_1 gc_0).2.1) he1)) ?_
        refine vr_istore (pc := 35) hc dX8_alter_35 (by decide) rfl ?_
        refine vr_aload (pc := 37) hc dX8_alter_37 rfl ?_
        refine vr_iload_n (pc := 39) hc dX8_alter_39 rfl ?_
        refine vr_putI (pc := 40) hc dX8_alter_40 fl_X8_130 (wc_X7_manAt ((gr_8_1 gc_0).2.1) he1) (gi_0_0 (wc_X7_manAt ((gr_8_1 gc_0).2.1) he1)) rfl rfl ?_
        refine vr_iload (pc := 43) hc dX8_alter_43 rfl ?_
        obtain ⟨rfl, rfl⟩ := vz_in2 h
        exact hret _ _ (vz_ret_i dX8_alter_45 rfl)
-- X8_detour: depth 2, effects S=True W=True P=True
def f_X8_detour (x1 : Int32) (x2 : Int32) (x3 : Int32) (σ : vz_I) : Option (Int32 × vz_I) := vz_b1 (f_X7_manAt 21 x1 σ) (fun v2 => vz_mo v2 (some ((-1 : Int32), σ)) (fun a4 => if (f_X0_hasPlace a4 x2 σ) = 0 then some ((-1 : Int32), σ) else if (f_X8_isCorner x3) = 0 then some ((-1 : Int32), σ) else if vz_in x2 4 then if vz_in x2 4 then vz_b1 (f_X7_canWalk 21 a4 (vz_up σ (a4 + 1) x2.toNatClampNeg x3)) (fun v10 => if v10 = 0 then if vz_in x2 4 then vz_let (vz_up (vz_up σ (a4 + 1) x2.toNatClampNeg x3) (a4 + 1) x2.toNatClampNeg (σ (a4 + 1) x2.toNatClampNeg)) (fun σ14 => some ((-2 : Int32), σ14)) else none else some (σ (a4 + 1) x2.toNatClampNeg, vz_up σ (a4 + 1) x2.toNatClampNeg x3)) else none else none))
set_option maxRecDepth 20000 in
set_option maxHeartbeats 1000000 in
theorem w_X8_detour (z : vz_Z) (l : Launch) (x1 : Int32) (x2 : Int32) (x3 : Int32) (σ : vz_I)  {r : Int32} {σ' : vz_I} (h : f_X8_detour x1 x2 x3 σ = some (r, σ')) : vz_Con z l 2 yX8_detour cX8_detour 6 (some .int) [.ref 0, .int x1, .int x2, .int x3] vz_G0 σ vz_N0 (some (.int r)) vz_G0 σ' vz_N0 0 0 := by
  refine vz_con (by decide) (Nat.le_of_ble_eq_true rfl) (fun μ hc hl hcap hret => ?_)
  subst hl
  unfold f_X8_detour at h
  refine vr_aload_n (pc := 0) hc dX8_detour_0 rfl ?_
  refine vr_getR (pc := 1) hc dX8_detour_1 fl_X8_19 gc_0 (gr_8_1 gc_0).1 ?_
  refine vr_iload_n (pc := 4) hc dX8_detour_4 rfl ?_
  obtain ⟨v2, he1, h⟩ := vz_b1e h
  cases v2 with
  | none =>
    rw [vz_mo_n] at h
    refine vr_cVn (pc := 5) hc dX8_detour_5 mt_X7_manAt ml_X8_126 ((gr_8_1 gc_0).2.1) (w_X7_manAt z μ.2.1 21 x1 σ ((gr_8_1 gc_0).2.1) he1) rfl (by decide) rfl (Nat.le_of_ble_eq_true rfl) ?_
    refine vr_astoreN (pc := 8) hc dX8_detour_8 (by decide) rfl ?_
    refine vr_aloadN (pc := 10) hc dX8_detour_10 rfl ?_
    refine vr_ifnullN (pc := 12) hc 31 dX8_detour_12 (by decide) ?_
    refine vr_iconst (pc := 31) hc dX8_detour_31 (-1 : Int32) (by decide) ?_
    obtain ⟨rfl, rfl⟩ := vz_in2 h
    exact hret _ _ (vz_ret_i dX8_detour_32 rfl)
  | some a4 =>
    rw [vz_mo_s] at h
    refine vr_cVa (pc := 5) hc dX8_detour_5 mt_X7_manAt ml_X8_126 ((gr_8_1 gc_0).2.1) (w_X7_manAt z μ.2.1 21 x1 σ ((gr_8_1 gc_0).2.1) he1) rfl (by decide) rfl (Nat.le_of_ble_eq_true rfl) ?_
    refine vr_astore (pc := 8) hc dX8_detour_8 (by decide) rfl ?_
    refine vr_aload (pc := 10) hc dX8_detour_10 rfl ?_
    refine vr_ifnull (pc := 12) hc dX8_detour_12 ?_
    refine vr_aload (pc := 15) hc dX8_detour_15 rfl ?_
    refine vr_iload_n (pc := 17) hc dX8_detour_17 rfl ?_
    refine vr_cVi (pc := 18) hc dX8_detour_18 mt_X0_hasPlace ml_X8_154 (wc_X7_manAt ((gr_8_1 gc_0).2.1) he1) (w_X0_hasPlace z μ.2.1 a4 x2 σ (wc_X7_manAt ((gr_8_1 gc_0).2.1) he1) rfl) rfl (by decide) rfl (Nat.le_of_ble_eq_true rfl) ?_
    refine vr_if_eq (pc := 21) hc 31 dX8_detour_21 (by decide) (fun hb5 => ?_) (fun hb5 => ?_)
    · rw [if_pos hb5] at h
      refine vr_iconst (pc := 31) hc dX8_detour_31 (-1 : Int32) (by decide) ?_
      obtain ⟨rfl, rfl⟩ := vz_in2 h
      exact hret _ _ (vz_ret_i dX8_detour_32 rfl)
    · rw [if_neg hb5] at h
      refine vr_iload_n (pc := 24) hc dX8_detour_24 rfl ?_
      refine vr_cSi (pc := 25) hc dX8_detour_25 mt_X8_isCorner sx_X8_isCorner ml_X8_185  (w_X8_isCorner z μ.2.1 x3 σ rfl) rfl (by decide) rfl (Nat.le_of_ble_eq_true rfl) ?_
      refine vr_if_ne (pc := 28) hc 33 dX8_detour_28 (by decide) (fun hb6 => ?_) (fun hb6 => ?_)
      · rw [if_neg hb6] at h
        refine vr_aload (pc := 33) hc dX8_detour_33 rfl ?_
        refine vr_getR (pc := 35) hc dX8_detour_35 fl_X8_157 (wc_X7_manAt ((gr_8_1 gc_0).2.1) he1) (gr_0_3 (wc_X7_manAt ((gr_8_1 gc_0).2.1) he1)).1 ?_
        refine vr_iload_n (pc := 38) hc dX8_detour_38 rfl ?_
        have hb7 := vz_ifp h
        rw [if_pos hb7] at h
        refine vr_iald (pc := 39) hc 4 dX8_detour_39 ((gr_0_3 (wc_X7_manAt ((gr_8_1 gc_0).2.1) he1)).2.1) ((gr_0_3 (wc_X7_manAt ((gr_8_1 gc_0).2.1) he1)).2.2) (vz_in_vp hb7) ?_
        refine vr_istore (pc := 40) hc dX8_detour_40 (by decide) rfl ?_
        refine vr_aload (pc := 42) hc dX8_detour_42 rfl ?_
        refine vr_getR (pc := 44) hc dX8_detour_44 fl_X8_157 (wc_X7_manAt ((gr_8_1 gc_0).2.1) he1) (gr_0_3 (wc_X7_manAt ((gr_8_1 gc_0).2.1) he1)).1 ?_
        refine vr_iload_n (pc := 47) hc dX8_detour_47 rfl ?_
        refine vr_iload_n (pc := 48) hc dX8_detour_48 rfl ?_
        have hb8 := vz_ifp h
        rw [if_pos hb8] at h
        refine vr_iast (pc := 49) hc 4 dX8_detour_49 ((gr_0_3 (wc_X7_manAt ((gr_8_1 gc_0).2.1) he1)).2.1) ((gr_0_3 (wc_X7_manAt ((gr_8_1 gc_0).2.1) he1)).2.2) (vz_in_vp hb8) ?_
        refine vr_aload_n (pc := 50) hc dX8_detour_50 rfl ?_
        refine vr_getR (pc := 51) hc dX8_detour_51 fl_X8_19 gc_0 (gr_8_1 gc_0).1 ?_
        refine vr_aload (pc := 54) hc dX8_detour_54 rfl ?_
        obtain ⟨v10, he9, h⟩ := vz_b1e h
        refine vr_cVi (pc := 56) hc dX8_detour_56 mt_X7_canWalk ml_X8_188 ((gr_8_1 gc_0).2.1) (w_X7_canWalk z μ.2.1 21 a4 (vz_up σ (a4 + 1) x2.toNatClampNeg x3) ((gr_8_1 gc_0).2.1) (wc_X7_manAt ((gr_8_1 gc_0).2.1) he1) he9) rfl (by decide) rfl (Nat.le_of_ble_eq_true rfl) ?_
        refine vr_if_ne (pc := 59) hc 74 dX8_detour_59 (by decide) (fun hb12 => ?_) (fun hb12 => ?_)
        · rw [if_neg hb12] at h
          refine vr_iload (pc := 74) hc dX8_detour_74 rfl ?_
          obtain ⟨rfl, rfl⟩ := vz_in2 h
          exact hret _ _ (vz_ret_i dX8_detour_76 rfl)
        · rw [if_pos hb12] at h
          refine vr_aload (pc := 62) hc dX8_detour_62 rfl ?_
          refine vr_getR (pc := 64) hc dX8_detour_64 fl_X8_157 (wc_X7_manAt ((gr_8_1 gc_0).2.1) he1) (gr_0_3 (wc_X7_manAt ((gr_8_1 gc_0).2.1) he1)).1 ?_
          refine vr_iload_n (pc := 67) hc dX8_detour_67 rfl ?_
          refine vr_iload (pc := 68) hc dX8_detour_68 rfl ?_
          have hb13 := vz_ifp h
          rw [if_pos hb13] at h
          refine vr_iast (pc := 70) hc 4 dX8_detour_70 ((gr_0_3 (wc_X7_manAt ((gr_8_1 gc_0).2.1) he1)).2.1) ((gr_0_3 (wc_X7_manAt ((gr_8_1 gc_0).2.1) he1)).2.2) (vz_in_vp hb13) ?_
          obtain ⟨σ14, hσ15⟩ : ∃ x, x = vz_up (vz_up σ (a4 + 1) x2.toNatClampNeg x3) (a4 + 1) x2.toNatClampNeg (σ (a4 + 1) x2.toNatClampNeg) := ⟨_, rfl⟩
          rw [← hσ15] at h ⊢
          rw [vz_let_e] at h
          refine vr_bipush (pc := 71) hc dX8_detour_71 (-2 : Int32) (by decide) ?_
          obtain ⟨rfl, rfl⟩ := vz_in2 h
          exact hret _ _ (vz_ret_i dX8_detour_73 rfl)
      · rw [if_pos hb6] at h
        refine vr_iconst (pc := 31) hc dX8_detour_31 (-1 : Int32) (by decide) ?_
        obtain ⟨rfl, rfl⟩ := vz_in2 h
        exact hret _ _ (vz_ret_i dX8_detour_32 rfl)
-- X8_shift: depth 2, effects S=True W=True P=True
def f_X8_shift (x1 : Int32) (x2 : Int32) (σ : vz_I) : Option (Int32 × vz_I) := vz_b1 (f_X7_manAt 21 x1 σ) (fun v2 => vz_mo v2 (some ((-1 : Int32), σ)) (fun a4 => if (f_X0_hasPlace a4 x2 σ) = 0 then some ((-1 : Int32), σ) else if vz_in (0 : Int32) 4 then vz_b1 (f_X0_turnTo a4 x2 σ) (fun σ9 => some (σ (a4 + 1) (0 : Int32).toNatClampNeg, σ9)) else none))
set_option maxRecDepth 20000 in
set_option maxHeartbeats 1000000 in
theorem w_X8_shift (z : vz_Z) (l : Launch) (x1 : Int32) (x2 : Int32) (σ : vz_I)  {r : Int32} {σ' : vz_I} (h : f_X8_shift x1 x2 σ = some (r, σ')) : vz_Con z l 2 yX8_shift cX8_shift 5 (some .int) [.ref 0, .int x1, .int x2] vz_G0 σ vz_N0 (some (.int r)) vz_G0 σ' vz_N0 0 0 := by
  refine vz_con (by decide) (Nat.le_of_ble_eq_true rfl) (fun μ hc hl hcap hret => ?_)
  subst hl
  unfold f_X8_shift at h
  refine vr_aload_n (pc := 0) hc dX8_shift_0 rfl ?_
  refine vr_getR (pc := 1) hc dX8_shift_1 fl_X8_19 gc_0 (gr_8_1 gc_0).1 ?_
  refine vr_iload_n (pc := 4) hc dX8_shift_4 rfl ?_
  obtain ⟨v2, he1, h⟩ := vz_b1e h
  cases v2 with
  | none =>
    rw [vz_mo_n] at h
    refine vr_cVn (pc := 5) hc dX8_shift_5 mt_X7_manAt ml_X8_126 ((gr_8_1 gc_0).2.1) (w_X7_manAt z μ.2.1 21 x1 σ ((gr_8_1 gc_0).2.1) he1) rfl (by decide) rfl (Nat.le_of_ble_eq_true rfl) ?_
    refine vr_astoreN_n (pc := 8) hc dX8_shift_8 (by decide) rfl ?_
    refine vr_aloadN_n (pc := 9) hc dX8_shift_9 rfl ?_
    refine vr_ifnullN (pc := 10) hc 21 dX8_shift_10 (by decide) ?_
    refine vr_iconst (pc := 21) hc dX8_shift_21 (-1 : Int32) (by decide) ?_
    obtain ⟨rfl, rfl⟩ := vz_in2 h
    exact hret _ _ (vz_ret_i dX8_shift_22 rfl)
  | some a4 =>
    rw [vz_mo_s] at h
    refine vr_cVa (pc := 5) hc dX8_shift_5 mt_X7_manAt ml_X8_126 ((gr_8_1 gc_0).2.1) (w_X7_manAt z μ.2.1 21 x1 σ ((gr_8_1 gc_0).2.1) he1) rfl (by decide) rfl (Nat.le_of_ble_eq_true rfl) ?_
    refine vr_astore_n (pc := 8) hc dX8_shift_8 (by decide) rfl ?_
    refine vr_aload_n (pc := 9) hc dX8_shift_9 rfl ?_
    refine vr_ifnull (pc := 10) hc dX8_shift_10 ?_
    refine vr_aload_n (pc := 13) hc dX8_shift_13 rfl ?_
    refine vr_iload_n (pc := 14) hc dX8_shift_14 rfl ?_
    refine vr_cVi (pc := 15) hc dX8_shift_15 mt_X0_hasPlace ml_X8_154 (wc_X7_manAt ((gr_8_1 gc_0).2.1) he1) (w_X0_hasPlace z μ.2.1 a4 x2 σ (wc_X7_manAt ((gr_8_1 gc_0).2.1) he1) rfl) rfl (by decide) rfl (Nat.le_of_ble_eq_true rfl) ?_
    refine vr_if_ne (pc := 18) hc 23 dX8_shift_18 (by decide) (fun hb5 => ?_) (fun hb5 => ?_)
    · rw [if_neg hb5] at h
      refine vr_aload_n (pc := 23) hc dX8_shift_23 rfl ?_
      refine vr_getR (pc := 24) hc dX8_shift_24 fl_X8_157 (wc_X7_manAt ((gr_8_1 gc_0).2.1) he1) (gr_0_3 (wc_X7_manAt ((gr_8_1 gc_0).2.1) he1)).1 ?_
      refine vr_iconst (pc := 27) hc dX8_shift_27 (0 : Int32) (by decide) ?_
      have hb6 := vz_ifp h
      rw [if_pos hb6] at h
      refine vr_iald (pc := 28) hc 4 dX8_shift_28 ((gr_0_3 (wc_X7_manAt ((gr_8_1 gc_0).2.1) he1)).2.1) ((gr_0_3 (wc_X7_manAt ((gr_8_1 gc_0).2.1) he1)).2.2) (vz_in_vp hb6) ?_
      refine vr_istore (pc := 29) hc dX8_shift_29 (by decide) rfl ?_
      refine vr_aload_n (pc := 31) hc dX8_shift_31 rfl ?_
      refine vr_iload_n (pc := 32) hc dX8_shift_32 rfl ?_
      obtain ⟨σ9, he7, h⟩ := vz_b1e h
      refine vr_cVv (pc := 33) hc dX8_shift_33 mt_X0_turnTo ml_X8_192 (wc_X7_manAt ((gr_8_1 gc_0).2.1) he1) (w_X0_turnTo z μ.2.1 a4 x2 σ (wc_X7_manAt ((gr_8_1 gc_0).2.1) he1) he7) rfl (by decide) rfl (Nat.le_of_ble_eq_true rfl) ?_
      refine vr_iload (pc := 36) hc dX8_shift_36 rfl ?_
      obtain ⟨rfl, rfl⟩ := vz_in2 h
      exact hret _ _ (vz_ret_i dX8_shift_38 rfl)
    · rw [if_pos hb5] at h
      refine vr_iconst (pc := 21) hc dX8_shift_21 (-1 : Int32) (by decide) ?_
      obtain ⟨rfl, rfl⟩ := vz_in2 h
      exact hret _ _ (vz_ret_i dX8_shift_22 rfl)
-- X8_stand: depth 2, effects S=True W=True P=True
def f_X8_stand (x1 : Int32) (x2 : Int32) (x3 : Int32) (σ : vz_I) : Option (Int32 × vz_I) := vz_b1 (f_X7_readerAt 21 x1 σ) (fun v2 => vz_mo v2 (some ((-1 : Int32), σ)) (fun a4 => if x2 = 0 then if (f_X8_isCorner x3) = 0 then some ((-1 : Int32), σ) else vz_c2 (f_X3_setCorner a4 x3 σ) (fun v8 σ9 => some (v8, σ9)) else if x2 = 1 then if (f_X8_isWithin x3 (0 : Int32) (σ a4 2)) = 0 then some ((-1 : Int32), σ) else vz_c2 (f_X3_setFrom a4 x3 σ) (fun v13 σ14 => some (v13, σ14)) else if x2 = 2 then if (f_X8_isWithin x3 (σ a4 1) (59 : Int32)) = 0 then some ((-1 : Int32), σ) else vz_c2 (f_X3_setUntil a4 x3 σ) (fun v18 σ19 => some (v18, σ19)) else some ((-1 : Int32), σ)))
set_option maxRecDepth 20000 in
set_option maxHeartbeats 1000000 in
theorem w_X8_stand (z : vz_Z) (l : Launch) (x1 : Int32) (x2 : Int32) (x3 : Int32) (σ : vz_I)  {r : Int32} {σ' : vz_I} (h : f_X8_stand x1 x2 x3 σ = some (r, σ')) : vz_Con z l 2 yX8_stand cX8_stand 5 (some .int) [.ref 0, .int x1, .int x2, .int x3] vz_G0 σ vz_N0 (some (.int r)) vz_G0 σ' vz_N0 0 0 := by
  refine vz_con (by decide) (Nat.le_of_ble_eq_true rfl) (fun μ hc hl hcap hret => ?_)
  subst hl
  unfold f_X8_stand at h
  refine vr_aload_n (pc := 0) hc dX8_stand_0 rfl ?_
  refine vr_getR (pc := 1) hc dX8_stand_1 fl_X8_19 gc_0 (gr_8_1 gc_0).1 ?_
  refine vr_iload_n (pc := 4) hc dX8_stand_4 rfl ?_
  obtain ⟨v2, he1, h⟩ := vz_b1e h
  cases v2 with
  | none =>
    rw [vz_mo_n] at h
    refine vr_cVn (pc := 5) hc dX8_stand_5 mt_X7_readerAt ml_X8_169 ((gr_8_1 gc_0).2.1) (w_X7_readerAt z μ.2.1 21 x1 σ ((gr_8_1 gc_0).2.1) he1) rfl (by decide) rfl (Nat.le_of_ble_eq_true rfl) ?_
    refine vr_astoreN (pc := 8) hc dX8_stand_8 (by decide) rfl ?_
    refine vr_aloadN (pc := 10) hc dX8_stand_10 rfl ?_
    refine vr_ifnonnullN (pc := 12) hc dX8_stand_12 ?_
    refine vr_iconst (pc := 15) hc dX8_stand_15 (-1 : Int32) (by decide) ?_
    obtain ⟨rfl, rfl⟩ := vz_in2 h
    exact hret _ _ (vz_ret_i dX8_stand_16 rfl)
  | some a4 =>
    rw [vz_mo_s] at h
    refine vr_cVa (pc := 5) hc dX8_stand_5 mt_X7_readerAt ml_X8_169 ((gr_8_1 gc_0).2.1) (w_X7_readerAt z μ.2.1 21 x1 σ ((gr_8_1 gc_0).2.1) he1) rfl (by decide) rfl (Nat.le_of_ble_eq_true rfl) ?_
    refine vr_astore (pc := 8) hc dX8_stand_8 (by decide) rfl ?_
    refine vr_aload (pc := 10) hc dX8_stand_10 rfl ?_
    refine vr_ifnonnull (pc := 12) hc 17 dX8_stand_12 (by decide) ?_
    refine vr_iload_n (pc := 17) hc dX8_stand_17 rfl ?_
    by_cases hb5 : x2 = 0
    · rw [if_pos hb5] at h
      refine vr_tableIn (pc := 18) hc _ 44 dX8_stand_18 (by rw [hb5]; decide) (by rw [hb5]; decide) (off := 26) (by rw [hb5]; decide) (by decide) ?_
      refine vr_iload_n (pc := 44) hc dX8_stand_44 rfl ?_
      refine vr_cSi (pc := 45) hc dX8_stand_45 mt_X8_isCorner sx_X8_isCorner ml_X8_185  (w_X8_isCorner z μ.2.1 x3 σ rfl) rfl (by decide) rfl (Nat.le_of_ble_eq_true rfl) ?_
      refine vr_if_eq (pc := 48) hc 60 dX8_stand_48 (by decide) (fun hb6 => ?_) (fun hb6 => ?_)
      · rw [if_pos hb6] at h
        refine vr_iconst (pc := 60) hc dX8_stand_60 (-1 : Int32) (by decide) ?_
        obtain ⟨rfl, rfl⟩ := vz_in2 h
        exact hret _ _ (vz_ret_i dX8_stand_61 rfl)
      · rw [if_neg hb6] at h
        refine vr_aload (pc := 51) hc dX8_stand_51 rfl ?_
        refine vr_iload_n (pc := 53) hc dX8_stand_53 rfl ?_
        obtain ⟨v8, σ9, he7⟩ : ∃ x s, f_X3_setCorner a4 x3 σ = (x, s) := ⟨_, _, rfl⟩
        rw [he7] at h
        rw [vz_c2_e] at h
        refine vr_cVi (pc := 54) hc dX8_stand_54 mt_X3_setCorner ml_X8_196 (wc_X7_readerAt ((gr_8_1 gc_0).2.1) he1) (w_X3_setCorner z μ.2.1 a4 x3 σ (wc_X7_readerAt ((gr_8_1 gc_0).2.1) he1) he7) rfl (by decide) rfl (Nat.le_of_ble_eq_true rfl) ?_
        refine vr_goto (pc := 57) hc 61 dX8_stand_57 (by decide) ?_
        obtain ⟨rfl, rfl⟩ := vz_in2 h
        exact hret _ _ (vz_ret_i dX8_stand_61 rfl)
    rw [if_neg hb5] at h
    by_cases hb10 : x2 = 1
    · rw [if_pos hb10] at h
      refine vr_tableIn (pc := 18) hc _ 62 dX8_stand_18 (by rw [hb10]; decide) (by rw [hb10]; decide) (off := 44) (by rw [hb10]; decide) (by decide) ?_
      refine vr_iload_n (pc := 62) hc dX8_stand_62 rfl ?_
      refine vr_iconst (pc := 63) hc dX8_stand_63 (0 : Int32) (by decide) ?_
      refine vr_aload (pc := 64) hc dX8_stand_64 rfl ?_
      refine vr_getI (pc := 66) hc dX8_stand_66 fl_X8_179 (wc_X7_readerAt ((gr_8_1 gc_0).2.1) he1) (gi_3_2 (wc_X7_readerAt ((gr_8_1 gc_0).2.1) he1)) ?_
      refine vr_cSi (pc := 69) hc dX8_stand_69 mt_X8_isWithin sx_X8_isWithin ml_X8_70  (w_X8_isWithin z μ.2.1 x3 (0 : Int32) (σ a4 2) σ rfl) rfl (by decide) rfl (Nat.le_of_ble_eq_true rfl) ?_
      refine vr_if_eq (pc := 72) hc 84 dX8_stand_72 (by decide) (fun hb11 => ?_) (fun hb11 => ?_)
      · rw [if_pos hb11] at h
        refine vr_iconst (pc := 84) hc dX8_stand_84 (-1 : Int32) (by decide) ?_
        obtain ⟨rfl, rfl⟩ := vz_in2 h
        exact hret _ _ (vz_ret_i dX8_stand_85 rfl)
      · rw [if_neg hb11] at h
        refine vr_aload (pc := 75) hc dX8_stand_75 rfl ?_
        refine vr_iload_n (pc := 77) hc dX8_stand_77 rfl ?_
        obtain ⟨v13, σ14, he12⟩ : ∃ x s, f_X3_setFrom a4 x3 σ = (x, s) := ⟨_, _, rfl⟩
        rw [he12] at h
        rw [vz_c2_e] at h
        refine vr_cVi (pc := 78) hc dX8_stand_78 mt_X3_setFrom ml_X8_199 (wc_X7_readerAt ((gr_8_1 gc_0).2.1) he1) (w_X3_setFrom z μ.2.1 a4 x3 σ (wc_X7_readerAt ((gr_8_1 gc_0).2.1) he1) he12) rfl (by decide) rfl (Nat.le_of_ble_eq_true rfl) ?_
        refine vr_goto (pc := 81) hc 85 dX8_stand_81 (by decide) ?_
        obtain ⟨rfl, rfl⟩ := vz_in2 h
        exact hret _ _ (vz_ret_i dX8_stand_85 rfl)
    rw [if_neg hb10] at h
    by_cases hb15 : x2 = 2
    · rw [if_pos hb15] at h
      refine vr_tableIn (pc := 18) hc _ 86 dX8_stand_18 (by rw [hb15]; decide) (by rw [hb15]; decide) (off := 68) (by rw [hb15]; decide) (by decide) ?_
      refine vr_iload_n (pc := 86) hc dX8_stand_86 rfl ?_
      refine vr_aload (pc := 87) hc dX8_stand_87 rfl ?_
      refine vr_getI (pc := 89) hc dX8_stand_89 fl_X8_176 (wc_X7_readerAt ((gr_8_1 gc_0).2.1) he1) (gi_3_1 (wc_X7_readerAt ((gr_8_1 gc_0).2.1) he1)) ?_
      refine vr_bipush (pc := 92) hc dX8_stand_92 (59 : Int32) (by decide) ?_
      refine vr_cSi (pc := 94) hc dX8_stand_94 mt_X8_isWithin sx_X8_isWithin ml_X8_70  (w_X8_isWithin z μ.2.1 x3 (σ a4 1) (59 : Int32) σ rfl) rfl (by decide) rfl (Nat.le_of_ble_eq_true rfl) ?_
      refine vr_if_eq (pc := 97) hc 109 dX8_stand_97 (by decide) (fun hb16 => ?_) (fun hb16 => ?_)
      · rw [if_pos hb16] at h
        refine vr_iconst (pc := 109) hc dX8_stand_109 (-1 : Int32) (by decide) ?_
        obtain ⟨rfl, rfl⟩ := vz_in2 h
        exact hret _ _ (vz_ret_i dX8_stand_110 rfl)
      · rw [if_neg hb16] at h
        refine vr_aload (pc := 100) hc dX8_stand_100 rfl ?_
        refine vr_iload_n (pc := 102) hc dX8_stand_102 rfl ?_
        obtain ⟨v18, σ19, he17⟩ : ∃ x s, f_X3_setUntil a4 x3 σ = (x, s) := ⟨_, _, rfl⟩
        rw [he17] at h
        rw [vz_c2_e] at h
        refine vr_cVi (pc := 103) hc dX8_stand_103 mt_X3_setUntil ml_X8_202 (wc_X7_readerAt ((gr_8_1 gc_0).2.1) he1) (w_X3_setUntil z μ.2.1 a4 x3 σ (wc_X7_readerAt ((gr_8_1 gc_0).2.1) he1) he17) rfl (by decide) rfl (Nat.le_of_ble_eq_true rfl) ?_
        refine vr_goto (pc := 106) hc 110 dX8_stand_106 (by decide) ?_
        obtain ⟨rfl, rfl⟩ := vz_in2 h
        exact hret _ _ (vz_ret_i dX8_stand_110 rfl)
    rw [if_neg hb15] at h
    refine vr_tableOut (pc := 18) hc 111 dX8_stand_18 (by have e0 := lv_neT hb5 (show (0 : Int32).toInt = 0 by decide); have e1 := lv_neT hb10 (show (1 : Int32).toInt = 1 by decide); have e2 := lv_neT hb15 (show (2 : Int32).toInt = 2 by decide); omega) (by decide) ?_
    refine vr_iconst (pc := 111) hc dX8_stand_111 (-1 : Int32) (by decide) ?_
    obtain ⟨rfl, rfl⟩ := vz_in2 h
    exact hret _ _ (vz_ret_i dX8_stand_112 rfl)
-- X8_rain: depth 2, effects S=True W=True P=False
def f_X8_rain (x1 : Int32) (x2 : Int32) (σ : vz_I) : Int32 × vz_I := if (f_X8_isMinute x1) = 0 then ((-1 : Int32), σ) else if (f_X8_isMinute x2) = 0 then ((-1 : Int32), σ) else (σ 21 3, f_X7_setRain 21 x1 x2 σ)
set_option maxRecDepth 20000 in
set_option maxHeartbeats 1000000 in
theorem w_X8_rain (z : vz_Z) (l : Launch) (x1 : Int32) (x2 : Int32) (σ : vz_I)  {r : Int32} {σ' : vz_I} (h : f_X8_rain x1 x2 σ = (r, σ')) : vz_Con z l 2 yX8_rain cX8_rain 4 (some .int) [.ref 0, .int x1, .int x2] vz_G0 σ vz_N0 (some (.int r)) vz_G0 σ' vz_N0 0 0 := by
  refine vz_con (by decide) (Nat.le_of_ble_eq_true rfl) (fun μ hc hl hcap hret => ?_)
  subst hl
  unfold f_X8_rain at h
  refine vr_iload_n (pc := 0) hc dX8_rain_0 rfl ?_
  refine vr_cSi (pc := 1) hc dX8_rain_1 mt_X8_isMinute sx_X8_isMinute ml_X8_205  (w_X8_isMinute z μ.2.1 x1 σ rfl) rfl (by decide) rfl (Nat.le_of_ble_eq_true rfl) ?_
  refine vr_if_eq (pc := 4) hc 14 dX8_rain_4 (by decide) (fun hb1 => ?_) (fun hb1 => ?_)
  · rw [if_pos hb1] at h
    refine vr_iconst (pc := 14) hc dX8_rain_14 (-1 : Int32) (by decide) ?_
    obtain ⟨rfl, rfl⟩ := vz_in3 h
    exact hret _ _ (vz_ret_i dX8_rain_15 rfl)
  · rw [if_neg hb1] at h
    refine vr_iload_n (pc := 7) hc dX8_rain_7 rfl ?_
    refine vr_cSi (pc := 8) hc dX8_rain_8 mt_X8_isMinute sx_X8_isMinute ml_X8_205  (w_X8_isMinute z μ.2.1 x2 σ rfl) rfl (by decide) rfl (Nat.le_of_ble_eq_true rfl) ?_
    refine vr_if_ne (pc := 11) hc 16 dX8_rain_11 (by decide) (fun hb2 => ?_) (fun hb2 => ?_)
    · rw [if_neg hb2] at h
      refine vr_aload_n (pc := 16) hc dX8_rain_16 rfl ?_
      refine vr_getR (pc := 17) hc dX8_rain_17 fl_X8_19 gc_0 (gr_8_1 gc_0).1 ?_
      refine vr_getI (pc := 20) hc dX8_rain_20 fl_X8_116 ((gr_8_1 gc_0).2.1) (gi_7_3 ((gr_8_1 gc_0).2.1)) ?_
      refine vr_istore_n (pc := 23) hc dX8_rain_23 (by decide) rfl ?_
      refine vr_aload_n (pc := 24) hc dX8_rain_24 rfl ?_
      refine vr_getR (pc := 25) hc dX8_rain_25 fl_X8_19 gc_0 (gr_8_1 gc_0).1 ?_
      refine vr_iload_n (pc := 28) hc dX8_rain_28 rfl ?_
      refine vr_iload_n (pc := 29) hc dX8_rain_29 rfl ?_
      refine vr_cVv (pc := 30) hc dX8_rain_30 mt_X7_setRain ml_X8_208 ((gr_8_1 gc_0).2.1) (w_X7_setRain z μ.2.1 21 x1 x2 σ ((gr_8_1 gc_0).2.1) rfl) rfl (by decide) rfl (Nat.le_of_ble_eq_true rfl) ?_
      refine vr_iload_n (pc := 33) hc dX8_rain_33 rfl ?_
      obtain ⟨rfl, rfl⟩ := vz_in3 h
      exact hret _ _ (vz_ret_i dX8_rain_34 rfl)
    · rw [if_pos hb2] at h
      refine vr_iconst (pc := 14) hc dX8_rain_14 (-1 : Int32) (by decide) ?_
      obtain ⟨rfl, rfl⟩ := vz_in3 h
      exact hret _ _ (vz_ret_i dX8_rain_15 rfl)
-- X8_pave: depth 2, effects S=True W=True P=True
def f_X8_pave (x1 : Int32) (x2 : Int32) (σ : vz_I) : Option (Int32 × vz_I) := if (f_X8_isCorner x1) = 0 then some ((-1 : Int32), σ) else if (f_X8_isCorner x2) = 0 then some ((-1 : Int32), σ) else if x1 = x2 then some ((-1 : Int32), σ) else vz_b2 (f_X7_addStreet 21 x1 x2 σ) (fun v5 σ6 => if v5 = 0 then some ((-3 : Int32), σ6) else some (σ6 21 1, σ6))
set_option maxRecDepth 20000 in
set_option maxHeartbeats 1000000 in
theorem w_X8_pave (z : vz_Z) (l : Launch) (x1 : Int32) (x2 : Int32) (σ : vz_I)  {r : Int32} {σ' : vz_I} (h : f_X8_pave x1 x2 σ = some (r, σ')) : vz_Con z l 2 yX8_pave cX8_pave 3 (some .int) [.ref 0, .int x1, .int x2] vz_G0 σ vz_N0 (some (.int r)) vz_G0 σ' vz_N0 0 0 := by
  refine vz_con (by decide) (Nat.le_of_ble_eq_true rfl) (fun μ hc hl hcap hret => ?_)
  subst hl
  unfold f_X8_pave at h
  refine vr_iload_n (pc := 0) hc dX8_pave_0 rfl ?_
  refine vr_cSi (pc := 1) hc dX8_pave_1 mt_X8_isCorner sx_X8_isCorner ml_X8_185  (w_X8_isCorner z μ.2.1 x1 σ rfl) rfl (by decide) rfl (Nat.le_of_ble_eq_true rfl) ?_
  refine vr_if_eq (pc := 4) hc 19 dX8_pave_4 (by decide) (fun hb1 => ?_) (fun hb1 => ?_)
  · rw [if_pos hb1] at h
    refine vr_iconst (pc := 19) hc dX8_pave_19 (-1 : Int32) (by decide) ?_
    obtain ⟨rfl, rfl⟩ := vz_in2 h
    exact hret _ _ (vz_ret_i dX8_pave_20 rfl)
  · rw [if_neg hb1] at h
    refine vr_iload_n (pc := 7) hc dX8_pave_7 rfl ?_
    refine vr_cSi (pc := 8) hc dX8_pave_8 mt_X8_isCorner sx_X8_isCorner ml_X8_185  (w_X8_isCorner z μ.2.1 x2 σ rfl) rfl (by decide) rfl (Nat.le_of_ble_eq_true rfl) ?_
    refine vr_if_eq (pc := 11) hc 19 dX8_pave_11 (by decide) (fun hb2 => ?_) (fun hb2 => ?_)
    · rw [if_pos hb2] at h
      refine vr_iconst (pc := 19) hc dX8_pave_19 (-1 : Int32) (by decide) ?_
      obtain ⟨rfl, rfl⟩ := vz_in2 h
      exact hret _ _ (vz_ret_i dX8_pave_20 rfl)
    · rw [if_neg hb2] at h
      refine vr_iload_n (pc := 14) hc dX8_pave_14 rfl ?_
      refine vr_iload_n (pc := 15) hc dX8_pave_15 rfl ?_
      refine vr_icmp_ne (pc := 16) hc 21 dX8_pave_16 (by decide) (fun hb3 => ?_) (fun hb3 => ?_)
      · rw [if_neg hb3] at h
        refine vr_aload_n (pc := 21) hc dX8_pave_21 rfl ?_
        refine vr_getR (pc := 22) hc dX8_pave_22 fl_X8_19 gc_0 (gr_8_1 gc_0).1 ?_
        refine vr_iload_n (pc := 25) hc dX8_pave_25 rfl ?_
        refine vr_iload_n (pc := 26) hc dX8_pave_26 rfl ?_
        obtain ⟨v5, σ6, he4, h⟩ := vz_b2e h
        refine vr_cVi (pc := 27) hc dX8_pave_27 mt_X7_addStreet ml_X8_212 ((gr_8_1 gc_0).2.1) (w_X7_addStreet z μ.2.1 21 x1 x2 σ ((gr_8_1 gc_0).2.1) he4) rfl (by decide) rfl (Nat.le_of_ble_eq_true rfl) ?_
        refine vr_if_eq (pc := 30) hc 43 dX8_pave_30 (by decide) (fun hb7 => ?_) (fun hb7 => ?_)
        · rw [if_pos hb7] at h
          refine vr_bipush (pc := 43) hc dX8_pave_43 (-3 : Int32) (by decide) ?_
          obtain ⟨rfl, rfl⟩ := vz_in2 h
          exact hret _ _ (vz_ret_i dX8_pave_45 rfl)
        · rw [if_neg hb7] at h
          refine vr_aload_n (pc := 33) hc dX8_pave_33 rfl ?_
          refine vr_getR (pc := 34) hc dX8_pave_34 fl_X8_19 gc_0 (gr_8_1 gc_0).1 ?_
          refine vr_getI (pc := 37) hc dX8_pave_37 fl_X8_110 ((gr_8_1 gc_0).2.1) (gi_7_1 ((gr_8_1 gc_0).2.1)) ?_
          refine vr_goto (pc := 40) hc 45 dX8_pave_40 (by decide) ?_
          obtain ⟨rfl, rfl⟩ := vz_in2 h
          exact hret _ _ (vz_ret_i dX8_pave_45 rfl)
      · rw [if_pos hb3] at h
        refine vr_iconst (pc := 19) hc dX8_pave_19 (-1 : Int32) (by decide) ?_
        obtain ⟨rfl, rfl⟩ := vz_in2 h
        exact hret _ _ (vz_ret_i dX8_pave_20 rfl)
-- X8_at: depth 2, effects S=True W=False P=True
def f_X8_at (x1 : Int32) (x2 : Int32) (σ : vz_I) : Option Int32 := vz_b1 (f_X7_manAt 21 x1 σ) (fun v2 => vz_mo v2 (some (-1 : Int32)) (fun a4 => if (f_X8_isMinute x2) = 0 then some (-1 : Int32) else vz_b1 (f_X0_cornerIn a4 x2 σ) (fun v7 => some v7)))
set_option maxRecDepth 20000 in
set_option maxHeartbeats 1000000 in
theorem w_X8_at (z : vz_Z) (l : Launch) (x1 : Int32) (x2 : Int32) (σ : vz_I)  {r : Int32} (h : f_X8_at x1 x2 σ = some r) : vz_Con z l 2 yX8_at cX8_at 4 (some .int) [.ref 0, .int x1, .int x2] vz_G0 σ vz_N0 (some (.int r)) vz_G0 σ vz_N0 0 0 := by
  refine vz_con (by decide) (Nat.le_of_ble_eq_true rfl) (fun μ hc hl hcap hret => ?_)
  subst hl
  unfold f_X8_at at h
  refine vr_aload_n (pc := 0) hc dX8_at_0 rfl ?_
  refine vr_getR (pc := 1) hc dX8_at_1 fl_X8_19 gc_0 (gr_8_1 gc_0).1 ?_
  refine vr_iload_n (pc := 4) hc dX8_at_4 rfl ?_
  obtain ⟨v2, he1, h⟩ := vz_b1e h
  cases v2 with
  | none =>
    rw [vz_mo_n] at h
    refine vr_cVn (pc := 5) hc dX8_at_5 mt_X7_manAt ml_X8_126 ((gr_8_1 gc_0).2.1) (w_X7_manAt z μ.2.1 21 x1 σ ((gr_8_1 gc_0).2.1) he1) rfl (by decide) rfl (Nat.le_of_ble_eq_true rfl) ?_
    refine vr_astoreN_n (pc := 8) hc dX8_at_8 (by decide) rfl ?_
    refine vr_aloadN_n (pc := 9) hc dX8_at_9 rfl ?_
    refine vr_ifnullN (pc := 10) hc 20 dX8_at_10 (by decide) ?_
    refine vr_iconst (pc := 20) hc dX8_at_20 (-1 : Int32) (by decide) ?_
    refine vr_goto (pc := 21) hc 29 dX8_at_21 (by decide) ?_
    obtain rfl := Option.some.inj h
    exact hret _ _ (vz_ret_i dX8_at_29 rfl)
  | some a4 =>
    rw [vz_mo_s] at h
    refine vr_cVa (pc := 5) hc dX8_at_5 mt_X7_manAt ml_X8_126 ((gr_8_1 gc_0).2.1) (w_X7_manAt z μ.2.1 21 x1 σ ((gr_8_1 gc_0).2.1) he1) rfl (by decide) rfl (Nat.le_of_ble_eq_true rfl) ?_
    refine vr_astore_n (pc := 8) hc dX8_at_8 (by decide) rfl ?_
    refine vr_aload_n (pc := 9) hc dX8_at_9 rfl ?_
    refine vr_ifnull (pc := 10) hc dX8_at_10 ?_
    refine vr_iload_n (pc := 13) hc dX8_at_13 rfl ?_
    refine vr_cSi (pc := 14) hc dX8_at_14 mt_X8_isMinute sx_X8_isMinute ml_X8_205  (w_X8_isMinute z μ.2.1 x2 σ rfl) rfl (by decide) rfl (Nat.le_of_ble_eq_true rfl) ?_
    refine vr_if_ne (pc := 17) hc 24 dX8_at_17 (by decide) (fun hb5 => ?_) (fun hb5 => ?_)
    · rw [if_neg hb5] at h
      refine vr_aload_n (pc := 24) hc dX8_at_24 rfl ?_
      refine vr_iload_n (pc := 25) hc dX8_at_25 rfl ?_
      obtain ⟨v7, he6, h⟩ := vz_b1e h
      refine vr_cVi (pc := 26) hc dX8_at_26 mt_X0_cornerIn ml_X8_216 (wc_X7_manAt ((gr_8_1 gc_0).2.1) he1) (w_X0_cornerIn z μ.2.1 a4 x2 σ (wc_X7_manAt ((gr_8_1 gc_0).2.1) he1) he6) rfl (by decide) rfl (Nat.le_of_ble_eq_true rfl) ?_
      obtain rfl := Option.some.inj h
      exact hret _ _ (vz_ret_i dX8_at_29 rfl)
    · rw [if_pos hb5] at h
      refine vr_iconst (pc := 20) hc dX8_at_20 (-1 : Int32) (by decide) ?_
      refine vr_goto (pc := 21) hc 29 dX8_at_21 (by decide) ?_
      obtain rfl := Option.some.inj h
      exact hret _ _ (vz_ret_i dX8_at_29 rfl)
-- X8_meet: depth 2, effects S=True W=False P=True
def f_X8_meet_38 : Nat → Nat → Nat → Int32 → vz_I → Option Int32
  | 0, _, _, _, _ => none
  | n + 1, a3, a4, x5, σ => if (60 : Int32) ≤ x5 then some (-4 : Int32) else vz_b1 (f_X0_cornerIn a3 x5 σ) (fun v16 => if v16 = (-4 : Int32) then f_X8_meet_38 n a3 a4 (x5 + (1 : Int32)) σ else vz_b1 (f_X0_cornerIn a4 x5 σ) (fun v20 => if v16 = v20 then some x5 else f_X8_meet_38 n a3 a4 (x5 + (1 : Int32)) σ))
theorem f_X8_meet_38_s (n : Nat) (a3 : Nat) (a4 : Nat) (x5 : Int32) (σ : vz_I) : f_X8_meet_38  (n + 1) a3 a4 x5 σ = if (60 : Int32) ≤ x5 then some (-4 : Int32) else vz_b1 (f_X0_cornerIn a3 x5 σ) (fun v16 => if v16 = (-4 : Int32) then f_X8_meet_38 n a3 a4 (x5 + (1 : Int32)) σ else vz_b1 (f_X0_cornerIn a4 x5 σ) (fun v20 => if v16 = v20 then some x5 else f_X8_meet_38 n a3 a4 (x5 + (1 : Int32)) σ)) := rfl
set_option maxRecDepth 20000 in
set_option maxHeartbeats 1000000 in
theorem wn_X8_meet_38 (z : vz_Z) (μ : vz_M) (hc : vz_C z μ cX8_meet RX8 2 7) {r : Int32} (σ : vz_I) (hret : ∀ (pc : Nat) (L : vz_L), vz_ret cX8_meet (some .int) pc (some (.int r)) → vz_V z μ 0 0 pc L ((some (.int r)) : Option Value).toList vz_G0 σ vz_N0) : ∀ (n : Nat) (a3 : Nat) (a4 : Nat) (x5 : Int32) (ha3 : (vz_G0 a3).1 = 0) (ha4 : (vz_G0 a4).1 = 0) (h : f_X8_meet_38  n a3 a4 x5 σ = some r), vz_V z μ 0 0 38 [(3, some (.ref a3)), (4, some (.ref a4)), (5, some (.int x5))] [] vz_G0 σ vz_N0 := by
  intro n
  induction n with
  | zero =>
    intro a3 a4 x5 ha3 ha4 h
    cases h
  | succ n ih =>
    intro a3 a4 x5 ha3 ha4 h
    rw [f_X8_meet_38_s] at h
    refine vr_iload (pc := 38) hc dX8_meet_38 rfl ?_
    refine vr_bipush (pc := 40) hc dX8_meet_40 (60 : Int32) (by decide) ?_
    refine vr_icmp_ge (pc := 42) hc 81 dX8_meet_42 (by decide) (fun hb14 => ?_) (fun hb14 => ?_)
    · rw [if_pos hb14] at h
      refine vr_bipush (pc := 81) hc dX8_meet_81 (-4 : Int32) (by decide) ?_
      obtain rfl := Option.some.inj h
      exact hret _ _ (vz_ret_i dX8_meet_83 rfl)
    · rw [if_neg hb14] at h
      refine vr_aload_n (pc := 45) hc dX8_meet_45 rfl ?_
      refine vr_iload (pc := 46) hc dX8_meet_46 rfl ?_
      obtain ⟨v16, he15, h⟩ := vz_b1e h
      refine vr_cVi (pc := 48) hc dX8_meet_48 mt_X0_cornerIn ml_X8_216 ha3 (w_X0_cornerIn z μ.2.1 a3 x5 σ ha3 he15) rfl (by decide) rfl (Nat.le_of_ble_eq_true rfl) ?_
      refine vr_istore (pc := 51) hc dX8_meet_51 (by decide) rfl ?_
      refine vr_iload (pc := 53) hc dX8_meet_53 rfl ?_
      refine vr_bipush (pc := 55) hc dX8_meet_55 (-4 : Int32) (by decide) ?_
      refine vr_icmp_eq (pc := 57) hc 75 dX8_meet_57 (by decide) (fun hb18 => ?_) (fun hb18 => ?_)
      · rw [if_pos hb18] at h
        refine vr_iinc (pc := 75) hc dX8_meet_75 (1 : Int32) (by decide) rfl (by decide) rfl ?_
        refine vr_goto (pc := 78) hc 38 dX8_meet_78 (by decide) ?_
        exact vz_sub (ih a3 a4 (x5 + (1 : Int32))  ha3 ha4 h) (vz_sb1 rfl (vz_sb1 rfl (vz_sb1 rfl vz_sb0)))
      · rw [if_neg hb18] at h
        refine vr_iload (pc := 60) hc dX8_meet_60 rfl ?_
        refine vr_aload (pc := 62) hc dX8_meet_62 rfl ?_
        refine vr_iload (pc := 64) hc dX8_meet_64 rfl ?_
        obtain ⟨v20, he19, h⟩ := vz_b1e h
        refine vr_cVi (pc := 66) hc dX8_meet_66 mt_X0_cornerIn ml_X8_216 ha4 (w_X0_cornerIn z μ.2.1 a4 x5 σ ha4 he19) rfl (by decide) rfl (Nat.le_of_ble_eq_true rfl) ?_
        refine vr_icmp_ne (pc := 69) hc 75 dX8_meet_69 (by decide) (fun hb22 => ?_) (fun hb22 => ?_)
        · rw [if_neg hb22] at h
          refine vr_iinc (pc := 75) hc dX8_meet_75 (1 : Int32) (by decide) rfl (by decide) rfl ?_
          refine vr_goto (pc := 78) hc 38 dX8_meet_78 (by decide) ?_
          exact vz_sub (ih a3 a4 (x5 + (1 : Int32))  ha3 ha4 h) (vz_sb1 rfl (vz_sb1 rfl (vz_sb1 rfl vz_sb0)))
        · rw [if_pos hb22] at h
          refine vr_iload (pc := 72) hc dX8_meet_72 rfl ?_
          obtain rfl := Option.some.inj h
          exact hret _ _ (vz_ret_i dX8_meet_74 rfl)
def f_X8_meet (x1 : Int32) (x2 : Int32) (σ : vz_I) : Option Int32 := vz_b1 (f_X7_manAt 21 x1 σ) (fun v2 => vz_mo v2 (vz_b1 (f_X7_manAt 21 x2 σ) (fun v5 => vz_mo v5 (some (-1 : Int32)) (fun a7 => some (-1 : Int32)))) (fun a8 => vz_b1 (f_X7_manAt 21 x2 σ) (fun v10 => vz_mo v10 (some (-1 : Int32)) (fun a12 => if x1 = x2 then some (-1 : Int32) else f_X8_meet_38 vz_fu a8 a12 (0 : Int32) σ))))
set_option maxRecDepth 20000 in
set_option maxHeartbeats 1000000 in
theorem w_X8_meet (z : vz_Z) (l : Launch) (x1 : Int32) (x2 : Int32) (σ : vz_I)  {r : Int32} (h : f_X8_meet x1 x2 σ = some r) : vz_Con z l 2 yX8_meet cX8_meet 7 (some .int) [.ref 0, .int x1, .int x2] vz_G0 σ vz_N0 (some (.int r)) vz_G0 σ vz_N0 0 0 := by
  refine vz_con (by decide) (Nat.le_of_ble_eq_true rfl) (fun μ hc hl hcap hret => ?_)
  subst hl
  unfold f_X8_meet at h
  refine vr_aload_n (pc := 0) hc dX8_meet_0 rfl ?_
  refine vr_getR (pc := 1) hc dX8_meet_1 fl_X8_19 gc_0 (gr_8_1 gc_0).1 ?_
  refine vr_iload_n (pc := 4) hc dX8_meet_4 rfl ?_
  obtain ⟨v2, he1, h⟩ := vz_b1e h
  cases v2 with
  | none =>
    rw [vz_mo_n] at h
    refine vr_cVn (pc := 5) hc dX8_meet_5 mt_X7_manAt ml_X8_126 ((gr_8_1 gc_0).2.1) (w_X7_manAt z μ.2.1 21 x1 σ ((gr_8_1 gc_0).2.1) he1) rfl (by decide) rfl (Nat.le_of_ble_eq_true rfl) ?_
    refine vr_astoreN_n (pc := 8) hc dX8_meet_8 (by decide) rfl ?_
    refine vr_aload_n (pc := 9) hc dX8_meet_9 rfl ?_
    refine vr_getR (pc := 10) hc dX8_meet_10 fl_X8_19 gc_0 (gr_8_1 gc_0).1 ?_
    refine vr_iload_n (pc := 13) hc dX8_meet_13 rfl ?_
    obtain ⟨v5, he4, h⟩ := vz_b1e h
    cases v5 with
    | none =>
      rw [vz_mo_n] at h
      refine vr_cVn (pc := 14) hc dX8_meet_14 mt_X7_manAt ml_X8_126 ((gr_8_1 gc_0).2.1) (w_X7_manAt z μ.2.1 21 x2 σ ((gr_8_1 gc_0).2.1) he4) rfl (by decide) rfl (Nat.le_of_ble_eq_true rfl) ?_
      refine vr_astoreN (pc := 17) hc dX8_meet_17 (by decide) rfl ?_
      refine vr_aloadN_n (pc := 19) hc dX8_meet_19 rfl ?_
      refine vr_ifnullN (pc := 20) hc 33 dX8_meet_20 (by decide) ?_
      refine vr_iconst (pc := 33) hc dX8_meet_33 (-1 : Int32) (by decide) ?_
      obtain rfl := Option.some.inj h
      exact hret _ _ (vz_ret_i dX8_meet_34 rfl)
    | some a7 =>
      rw [vz_mo_s] at h
      refine vr_cVa (pc := 14) hc dX8_meet_14 mt_X7_manAt ml_X8_126 ((gr_8_1 gc_0).2.1) (w_X7_manAt z μ.2.1 21 x2 σ ((gr_8_1 gc_0).2.1) he4) rfl (by decide) rfl (Nat.le_of_ble_eq_true rfl) ?_
      refine vr_astore (pc := 17) hc dX8_meet_17 (by decide) rfl ?_
      refine vr_aloadN_n (pc := 19) hc dX8_meet_19 rfl ?_
      refine vr_ifnullN (pc := 20) hc 33 dX8_meet_20 (by decide) ?_
      refine vr_iconst (pc := 33) hc dX8_meet_33 (-1 : Int32) (by decide) ?_
      obtain rfl := Option.some.inj h
      exact hret _ _ (vz_ret_i dX8_meet_34 rfl)
  | some a8 =>
    rw [vz_mo_s] at h
    refine vr_cVa (pc := 5) hc dX8_meet_5 mt_X7_manAt ml_X8_126 ((gr_8_1 gc_0).2.1) (w_X7_manAt z μ.2.1 21 x1 σ ((gr_8_1 gc_0).2.1) he1) rfl (by decide) rfl (Nat.le_of_ble_eq_true rfl) ?_
    refine vr_astore_n (pc := 8) hc dX8_meet_8 (by decide) rfl ?_
    refine vr_aload_n (pc := 9) hc dX8_meet_9 rfl ?_
    refine vr_getR (pc := 10) hc dX8_meet_10 fl_X8_19 gc_0 (gr_8_1 gc_0).1 ?_
    refine vr_iload_n (pc := 13) hc dX8_meet_13 rfl ?_
    obtain ⟨v10, he9, h⟩ := vz_b1e h
    cases v10 with
    | none =>
      rw [vz_mo_n] at h
      refine vr_cVn (pc := 14) hc dX8_meet_14 mt_X7_manAt ml_X8_126 ((gr_8_1 gc_0).2.1) (w_X7_manAt z μ.2.1 21 x2 σ ((gr_8_1 gc_0).2.1) he9) rfl (by decide) rfl (Nat.le_of_ble_eq_true rfl) ?_
      refine vr_astoreN (pc := 17) hc dX8_meet_17 (by decide) rfl ?_
      refine vr_aload_n (pc := 19) hc dX8_meet_19 rfl ?_
      refine vr_ifnull (pc := 20) hc dX8_meet_20 ?_
      refine vr_aloadN (pc := 23) hc dX8_meet_23 rfl ?_
      refine vr_ifnullN (pc := 25) hc 33 dX8_meet_25 (by decide) ?_
      refine vr_iconst (pc := 33) hc dX8_meet_33 (-1 : Int32) (by decide) ?_
      obtain rfl := Option.some.inj h
      exact hret _ _ (vz_ret_i dX8_meet_34 rfl)
    | some a12 =>
      rw [vz_mo_s] at h
      refine vr_cVa (pc := 14) hc dX8_meet_14 mt_X7_manAt ml_X8_126 ((gr_8_1 gc_0).2.1) (w_X7_manAt z μ.2.1 21 x2 σ ((gr_8_1 gc_0).2.1) he9) rfl (by decide) rfl (Nat.le_of_ble_eq_true rfl) ?_
      refine vr_astore (pc := 17) hc dX8_meet_17 (by decide) rfl ?_
      refine vr_aload_n (pc := 19) hc dX8_meet_19 rfl ?_
      refine vr_ifnull (pc := 20) hc dX8_meet_20 ?_
      refine vr_aload (pc := 23) hc dX8_meet_23 rfl ?_
      refine vr_ifnull (pc := 25) hc dX8_meet_25 ?_
      refine vr_iload_n (pc := 28) hc dX8_meet_28 rfl ?_
      refine vr_iload_n (pc := 29) hc dX8_meet_29 rfl ?_
      refine vr_icmp_ne (pc := 30) hc 35 dX8_meet_30 (by decide) (fun hb13 => ?_) (fun hb13 => ?_)
      · rw [if_neg hb13] at h
        refine vr_iconst (pc := 35) hc dX8_meet_35 (0 : Int32) (by decide) ?_
        refine vr_istore (pc := 36) hc dX8_meet_36 (by decide) rfl ?_
        exact vz_sub (wn_X8_meet_38 z μ hc σ hret vz_fu a8 a12 (0 : Int32) (wc_X7_manAt ((gr_8_1 gc_0).2.1) he1) (wc_X7_manAt ((gr_8_1 gc_0).2.1) he9) h) (vz_sb1 rfl (vz_sb1 rfl (vz_sb1 rfl vz_sb0)))
      · rw [if_pos hb13] at h
        refine vr_iconst (pc := 33) hc dX8_meet_33 (-1 : Int32) (by decide) ?_
        obtain rfl := Option.some.inj h
        exact hret _ _ (vz_ret_i dX8_meet_34 rfl)
-- X8_see: depth 2, effects S=True W=True P=True
def f_X8_see (x1 : Int32) (x2 : Int32) (x3 : Int32) (x4 : Int32) (σ : vz_I) : Option (Int32 × vz_I) := vz_b1 (f_X7_readerAt 21 x1 σ) (fun v2 => vz_mo v2 (some ((-1 : Int32), σ)) (fun a4 => if (f_X8_isNews x2) = 0 then some ((-1 : Int32), σ) else if (f_X8_isMinute x3) = 0 then some ((-1 : Int32), σ) else vz_b2 (f_X1_add x1 x2 x3 x4 σ) (fun v8 σ9 => if v8 = 0 then some ((-3 : Int32), σ9) else some (σ9 57 0, σ9))))
set_option maxRecDepth 20000 in
set_option maxHeartbeats 1000000 in
theorem w_X8_see (z : vz_Z) (l : Launch) (x1 : Int32) (x2 : Int32) (x3 : Int32) (x4 : Int32) (σ : vz_I)  {r : Int32} {σ' : vz_I} (h : f_X8_see x1 x2 x3 x4 σ = some (r, σ')) : vz_Con z l 2 yX8_see cX8_see 5 (some .int) [.ref 0, .int x1, .int x2, .int x3, .int x4] vz_G0 σ vz_N0 (some (.int r)) vz_G0 σ' vz_N0 0 0 := by
  refine vz_con (by decide) (Nat.le_of_ble_eq_true rfl) (fun μ hc hl hcap hret => ?_)
  subst hl
  unfold f_X8_see at h
  refine vr_aload_n (pc := 0) hc dX8_see_0 rfl ?_
  refine vr_getR (pc := 1) hc dX8_see_1 fl_X8_19 gc_0 (gr_8_1 gc_0).1 ?_
  refine vr_iload_n (pc := 4) hc dX8_see_4 rfl ?_
  obtain ⟨v2, he1, h⟩ := vz_b1e h
  cases v2 with
  | none =>
    rw [vz_mo_n] at h
    refine vr_cVn (pc := 5) hc dX8_see_5 mt_X7_readerAt ml_X8_169 ((gr_8_1 gc_0).2.1) (w_X7_readerAt z μ.2.1 21 x1 σ ((gr_8_1 gc_0).2.1) he1) rfl (by decide) rfl (Nat.le_of_ble_eq_true rfl) ?_
    refine vr_ifnullN (pc := 8) hc 25 dX8_see_8 (by decide) ?_
    refine vr_iconst (pc := 25) hc dX8_see_25 (-1 : Int32) (by decide) ?_
    obtain ⟨rfl, rfl⟩ := vz_in2 h
    exact hret _ _ (vz_ret_i dX8_see_26 rfl)
  | some a4 =>
    rw [vz_mo_s] at h
    refine vr_cVa (pc := 5) hc dX8_see_5 mt_X7_readerAt ml_X8_169 ((gr_8_1 gc_0).2.1) (w_X7_readerAt z μ.2.1 21 x1 σ ((gr_8_1 gc_0).2.1) he1) rfl (by decide) rfl (Nat.le_of_ble_eq_true rfl) ?_
    refine vr_ifnull (pc := 8) hc dX8_see_8 ?_
    refine vr_iload_n (pc := 11) hc dX8_see_11 rfl ?_
    refine vr_cSi (pc := 12) hc dX8_see_12 mt_X8_isNews sx_X8_isNews ml_X8_182  (w_X8_isNews z μ.2.1 x2 σ rfl) rfl (by decide) rfl (Nat.le_of_ble_eq_true rfl) ?_
    refine vr_if_eq (pc := 15) hc 25 dX8_see_15 (by decide) (fun hb5 => ?_) (fun hb5 => ?_)
    · rw [if_pos hb5] at h
      refine vr_iconst (pc := 25) hc dX8_see_25 (-1 : Int32) (by decide) ?_
      obtain ⟨rfl, rfl⟩ := vz_in2 h
      exact hret _ _ (vz_ret_i dX8_see_26 rfl)
    · rw [if_neg hb5] at h
      refine vr_iload_n (pc := 18) hc dX8_see_18 rfl ?_
      refine vr_cSi (pc := 19) hc dX8_see_19 mt_X8_isMinute sx_X8_isMinute ml_X8_205  (w_X8_isMinute z μ.2.1 x3 σ rfl) rfl (by decide) rfl (Nat.le_of_ble_eq_true rfl) ?_
      refine vr_if_ne (pc := 22) hc 27 dX8_see_22 (by decide) (fun hb6 => ?_) (fun hb6 => ?_)
      · rw [if_neg hb6] at h
        refine vr_aload_n (pc := 27) hc dX8_see_27 rfl ?_
        refine vr_getR (pc := 28) hc dX8_see_28 fl_X8_37 gc_0 (gr_8_5 gc_0).1 ?_
        refine vr_iload_n (pc := 31) hc dX8_see_31 rfl ?_
        refine vr_iload_n (pc := 32) hc dX8_see_32 rfl ?_
        refine vr_iload_n (pc := 33) hc dX8_see_33 rfl ?_
        refine vr_iload (pc := 34) hc dX8_see_34 rfl ?_
        obtain ⟨v8, σ9, he7, h⟩ := vz_b2e h
        refine vr_cVi (pc := 36) hc dX8_see_36 mt_X1_add ml_X8_293 ((gr_8_5 gc_0).2.1) (w_X1_add z μ.2.1 x1 x2 x3 x4 σ he7) rfl (by decide) rfl (Nat.le_of_ble_eq_true rfl) ?_
        refine vr_if_eq (pc := 39) hc 52 dX8_see_39 (by decide) (fun hb10 => ?_) (fun hb10 => ?_)
        · rw [if_pos hb10] at h
          refine vr_bipush (pc := 52) hc dX8_see_52 (-3 : Int32) (by decide) ?_
          obtain ⟨rfl, rfl⟩ := vz_in2 h
          exact hret _ _ (vz_ret_i dX8_see_54 rfl)
        · rw [if_neg hb10] at h
          refine vr_aload_n (pc := 42) hc dX8_see_42 rfl ?_
          refine vr_getR (pc := 43) hc dX8_see_43 fl_X8_37 gc_0 (gr_8_5 gc_0).1 ?_
          refine vr_getI (pc := 46) hc dX8_see_46 fl_X8_101 ((gr_8_5 gc_0).2.1) (gi_1_0 ((gr_8_5 gc_0).2.1)) ?_
          refine vr_goto (pc := 49) hc 54 dX8_see_49 (by decide) ?_
          obtain ⟨rfl, rfl⟩ := vz_in2 h
          exact hret _ _ (vz_ret_i dX8_see_54 rfl)
      · rw [if_pos hb6] at h
        refine vr_iconst (pc := 25) hc dX8_see_25 (-1 : Int32) (by decide) ?_
        obtain ⟨rfl, rfl⟩ := vz_in2 h
        exact hret _ _ (vz_ret_i dX8_see_26 rfl)
-- X8_keep: depth 2, effects S=True W=True P=True
def f_X8_keep_25 (x1 : Int32) (xs0 : Int32) (σ : vz_I) : Option (Int32 × vz_I) := if vz_in x1 2 then vz_b1 (f_X7_copyFrom (66 + 17 * x1.toNatClampNeg) 21 σ) (fun σ7 => if vz_in x1 2 then some (xs0, vz_up σ7 56 x1.toNatClampNeg ((1 : Int32) &&& 1)) else none) else none
set_option maxRecDepth 20000 in
set_option maxHeartbeats 1000000 in
theorem wn_X8_keep_25 (z : vz_Z) (μ : vz_M) (hc : vz_C z μ cX8_keep RX8 2 3) {r : Int32} {σ' : vz_I} (hret : ∀ (pc : Nat) (L : vz_L), vz_ret cX8_keep (some .int) pc (some (.int r)) → vz_V z μ 0 0 pc L ((some (.int r)) : Option Value).toList vz_G0 σ' vz_N0) (x1 : Int32) (xs0 : Int32) (σ : vz_I)  (h : f_X8_keep_25  x1 xs0 σ = some (r, σ')) : vz_V z μ 0 0 25 [(0, some (.ref 0)), (1, some (.int x1))] [.int xs0] vz_G0 σ vz_N0 := by
  unfold f_X8_keep_25 at h
  refine vr_istore_n (pc := 25) hc dX8_keep_25 (by decide) rfl ?_
  refine vr_aload_n (pc := 26) hc dX8_keep_26 rfl ?_
  refine vr_getR (pc := 27) hc dX8_keep_27 fl_X8_26 gc_0 (gr_8_3 gc_0).1 ?_
  refine vr_iload_n (pc := 30) hc dX8_keep_30 rfl ?_
  have hb4 := vz_ifp h
  rw [if_pos hb4] at h
  refine vr_aald (pc := 31) hc 16 2 dX8_keep_31 ((gr_8_3 gc_0).2.1) (by decide) (by decide) ((gr_8_3 gc_0).2.2) (vz_in_vp hb4) (ge_16 gc_0 (vz_in_lt hb4)).1 ?_
  refine vr_aload_n (pc := 32) hc dX8_keep_32 rfl ?_
  refine vr_getR (pc := 33) hc dX8_keep_33 fl_X8_19 gc_0 (gr_8_1 gc_0).1 ?_
  obtain ⟨σ7, he5, h⟩ := vz_b1e h
  refine vr_cVv (pc := 36) hc dX8_keep_36 mt_X7_copyFrom ml_X8_97 ((ge_16 gc_0 (vz_in_lt hb4)).2) (w_X7_copyFrom z μ.2.1 (66 + 17 * x1.toNatClampNeg) 21 σ ((ge_16 gc_0 (vz_in_lt hb4)).2) ((gr_8_1 gc_0).2.1) he5) rfl (by decide) rfl (Nat.le_of_ble_eq_true rfl) ?_
  refine vr_aload_n (pc := 39) hc dX8_keep_39 rfl ?_
  refine vr_getR (pc := 40) hc dX8_keep_40 fl_X8_30 gc_0 (gr_8_4 gc_0).1 ?_
  refine vr_iload_n (pc := 43) hc dX8_keep_43 rfl ?_
  refine vr_iconst (pc := 44) hc dX8_keep_44 (1 : Int32) (by decide) ?_
  have hb8 := vz_ifp h
  rw [if_pos hb8] at h
  refine vr_zast (pc := 45) hc 2 dX8_keep_45 ((gr_8_4 gc_0).2.1) ((gr_8_4 gc_0).2.2) (vz_in_vp hb8) ?_
  refine vr_iload_n (pc := 46) hc dX8_keep_46 rfl ?_
  obtain ⟨rfl, rfl⟩ := vz_in2 h
  exact hret _ _ (vz_ret_i dX8_keep_47 rfl)
def f_X8_keep (x1 : Int32) (σ : vz_I) : Option (Int32 × vz_I) := if (f_X8_isWithin x1 (0 : Int32) (1 : Int32)) = 0 then some ((-1 : Int32), σ) else if vz_in x1 2 then if (σ 56 x1.toNatClampNeg) = 0 then f_X8_keep_25 x1 (0 : Int32) σ else f_X8_keep_25 x1 (1 : Int32) σ else none
set_option maxRecDepth 20000 in
set_option maxHeartbeats 1000000 in
theorem w_X8_keep (z : vz_Z) (l : Launch) (x1 : Int32) (σ : vz_I)  {r : Int32} {σ' : vz_I} (h : f_X8_keep x1 σ = some (r, σ')) : vz_Con z l 2 yX8_keep cX8_keep 3 (some .int) [.ref 0, .int x1] vz_G0 σ vz_N0 (some (.int r)) vz_G0 σ' vz_N0 0 0 := by
  refine vz_con (by decide) (Nat.le_of_ble_eq_true rfl) (fun μ hc hl hcap hret => ?_)
  subst hl
  unfold f_X8_keep at h
  refine vr_iload_n (pc := 0) hc dX8_keep_0 rfl ?_
  refine vr_iconst (pc := 1) hc dX8_keep_1 (0 : Int32) (by decide) ?_
  refine vr_iconst (pc := 2) hc dX8_keep_2 (1 : Int32) (by decide) ?_
  refine vr_cSi (pc := 3) hc dX8_keep_3 mt_X8_isWithin sx_X8_isWithin ml_X8_70  (w_X8_isWithin z μ.2.1 x1 (0 : Int32) (1 : Int32) σ rfl) rfl (by decide) rfl (Nat.le_of_ble_eq_true rfl) ?_
  refine vr_if_ne (pc := 6) hc 11 dX8_keep_6 (by decide) (fun hb1 => ?_) (fun hb1 => ?_)
  · rw [if_neg hb1] at h
    refine vr_aload_n (pc := 11) hc dX8_keep_11 rfl ?_
    refine vr_getR (pc := 12) hc dX8_keep_12 fl_X8_30 gc_0 (gr_8_4 gc_0).1 ?_
    refine vr_iload_n (pc := 15) hc dX8_keep_15 rfl ?_
    have hb2 := vz_ifp h
    rw [if_pos hb2] at h
    refine vr_zald (pc := 16) hc 2 dX8_keep_16 ((gr_8_4 gc_0).2.1) ((gr_8_4 gc_0).2.2) (vz_in_vp hb2) ?_
    refine vr_if_eq (pc := 17) hc 24 dX8_keep_17 (by decide) (fun hb3 => ?_) (fun hb3 => ?_)
    · rw [if_pos hb3] at h
      refine vr_iconst (pc := 24) hc dX8_keep_24 (0 : Int32) (by decide) ?_
      exact vz_sub (wn_X8_keep_25 z μ hc hret x1 (0 : Int32) σ h) (vz_sb1 rfl (vz_sb1 rfl vz_sb0))
    · rw [if_neg hb3] at h
      refine vr_iconst (pc := 20) hc dX8_keep_20 (1 : Int32) (by decide) ?_
      refine vr_goto (pc := 21) hc 25 dX8_keep_21 (by decide) ?_
      exact vz_sub (wn_X8_keep_25 z μ hc hret x1 (1 : Int32) σ h) (vz_sb1 rfl (vz_sb1 rfl vz_sb0))
  · rw [if_pos hb1] at h
    refine vr_iconst (pc := 9) hc dX8_keep_9 (-1 : Int32) (by decide) ?_
    obtain ⟨rfl, rfl⟩ := vz_in2 h
    exact hret _ _ (vz_ret_i dX8_keep_10 rfl)
-- X8_sheet: depth 2, effects S=True W=True P=True
def f_X8_sheet (x1 : Int32) (x2 : Int32) (x3 : Int32) (σ : vz_I) : Option (Int32 × vz_I) := if (f_X8_isSheet x1) = 0 then some ((-1 : Int32), σ) else if (f_X8_isLane x2) = 0 then some ((-1 : Int32), σ) else if x3 ≤ (40 : Int32) then if 0 ≤ x3 then if vz_in x1 4 then vz_b1 (f_X4_renew (100 + 2 * x1.toNatClampNeg) x2 x3 σ) (fun σ8 => some ((1 : Int32), σ8)) else none else some ((-14 : Int32), σ) else some ((-1 : Int32), σ)
set_option maxRecDepth 20000 in
set_option maxHeartbeats 1000000 in
theorem w_X8_sheet (z : vz_Z) (l : Launch) (x1 : Int32) (x2 : Int32) (x3 : Int32) (σ : vz_I)  {r : Int32} {σ' : vz_I} (h : f_X8_sheet x1 x2 x3 σ = some (r, σ')) : vz_Con z l 2 yX8_sheet cX8_sheet 4 (some .int) [.ref 0, .int x1, .int x2, .int x3] vz_G0 σ vz_N0 (some (.int r)) vz_G0 σ' vz_N0 0 0 := by
  refine vz_con (by decide) (Nat.le_of_ble_eq_true rfl) (fun μ hc hl hcap hret => ?_)
  subst hl
  unfold f_X8_sheet at h
  refine vr_iload_n (pc := 0) hc dX8_sheet_0 rfl ?_
  refine vr_cSi (pc := 1) hc dX8_sheet_1 mt_X8_isSheet sx_X8_isSheet ml_X8_317  (w_X8_isSheet z μ.2.1 x1 σ rfl) rfl (by decide) rfl (Nat.le_of_ble_eq_true rfl) ?_
  refine vr_if_eq (pc := 4) hc 20 dX8_sheet_4 (by decide) (fun hb1 => ?_) (fun hb1 => ?_)
  · rw [if_pos hb1] at h
    refine vr_iconst (pc := 20) hc dX8_sheet_20 (-1 : Int32) (by decide) ?_
    obtain ⟨rfl, rfl⟩ := vz_in2 h
    exact hret _ _ (vz_ret_i dX8_sheet_21 rfl)
  · rw [if_neg hb1] at h
    refine vr_iload_n (pc := 7) hc dX8_sheet_7 rfl ?_
    refine vr_cSi (pc := 8) hc dX8_sheet_8 mt_X8_isLane sx_X8_isLane ml_X8_320  (w_X8_isLane z μ.2.1 x2 σ rfl) rfl (by decide) rfl (Nat.le_of_ble_eq_true rfl) ?_
    refine vr_if_eq (pc := 11) hc 20 dX8_sheet_11 (by decide) (fun hb2 => ?_) (fun hb2 => ?_)
    · rw [if_pos hb2] at h
      refine vr_iconst (pc := 20) hc dX8_sheet_20 (-1 : Int32) (by decide) ?_
      obtain ⟨rfl, rfl⟩ := vz_in2 h
      exact hret _ _ (vz_ret_i dX8_sheet_21 rfl)
    · rw [if_neg hb2] at h
      refine vr_iload_n (pc := 14) hc dX8_sheet_14 rfl ?_
      refine vr_bipush (pc := 15) hc dX8_sheet_15 (40 : Int32) (by decide) ?_
      refine vr_icmp_le (pc := 17) hc 22 dX8_sheet_17 (by decide) (fun hb3 => ?_) (fun hb3 => ?_)
      · rw [if_pos hb3] at h
        refine vr_iload_n (pc := 22) hc dX8_sheet_22 rfl ?_
        refine vr_if_ge (pc := 23) hc 29 dX8_sheet_23 (by decide) (fun hb4 => ?_) (fun hb4 => ?_)
        · rw [if_pos hb4] at h
          refine vr_aload_n (pc := 29) hc dX8_sheet_29 rfl ?_
          refine vr_getR (pc := 30) hc dX8_sheet_30 fl_X8_43 gc_0 (gr_8_6 gc_0).1 ?_
          refine vr_iload_n (pc := 33) hc dX8_sheet_33 rfl ?_
          have hb5 := vz_ifp h
          rw [if_pos hb5] at h
          refine vr_aald (pc := 34) hc 15 4 dX8_sheet_34 ((gr_8_6 gc_0).2.1) (by decide) (by decide) ((gr_8_6 gc_0).2.2) (vz_in_vp hb5) (ge_15 gc_0 (vz_in_lt hb5)).1 ?_
          refine vr_iload_n (pc := 35) hc dX8_sheet_35 rfl ?_
          refine vr_iload_n (pc := 36) hc dX8_sheet_36 rfl ?_
          obtain ⟨σ8, he6, h⟩ := vz_b1e h
          refine vr_cVv (pc := 37) hc dX8_sheet_37 mt_X4_renew ml_X8_323 ((ge_15 gc_0 (vz_in_lt hb5)).2) (w_X4_renew z μ.2.1 (100 + 2 * x1.toNatClampNeg) x2 x3 σ ((ge_15 gc_0 (vz_in_lt hb5)).2) he6) rfl (by decide) rfl (Nat.le_of_ble_eq_true rfl) ?_
          refine vr_iconst (pc := 40) hc dX8_sheet_40 (1 : Int32) (by decide) ?_
          obtain ⟨rfl, rfl⟩ := vz_in2 h
          exact hret _ _ (vz_ret_i dX8_sheet_41 rfl)
        · rw [if_neg hb4] at h
          refine vr_bipush (pc := 26) hc dX8_sheet_26 (-14 : Int32) (by decide) ?_
          obtain ⟨rfl, rfl⟩ := vz_in2 h
          exact hret _ _ (vz_ret_i dX8_sheet_28 rfl)
      · rw [if_neg hb3] at h
        refine vr_iconst (pc := 20) hc dX8_sheet_20 (-1 : Int32) (by decide) ?_
        obtain ⟨rfl, rfl⟩ := vz_in2 h
        exact hret _ _ (vz_ret_i dX8_sheet_21 rfl)
-- X8_lay: depth 2, effects S=True W=True P=True
def f_X8_lay (x1 : Int32) (x2 : Int32) (x3 : Int32) (σ : vz_I) : Option (Int32 × vz_I) := if (f_X8_isSheet x1) = 0 then some ((-1 : Int32), σ) else if vz_in x1 4 then if (f_X4_faultAt (100 + 2 * x1.toNatClampNeg) (σ (100 + 2 * x1.toNatClampNeg) 0) x2 σ) = 0 then vz_b1 (f_X4_put (100 + 2 * x1.toNatClampNeg) x2 x3 σ) (fun σ6 => some ((1 : Int32), σ6)) else some ((-10 : Int32) - (f_X4_faultAt (100 + 2 * x1.toNatClampNeg) (σ (100 + 2 * x1.toNatClampNeg) 0) x2 σ), σ) else none
set_option maxRecDepth 20000 in
set_option maxHeartbeats 1000000 in
theorem w_X8_lay (z : vz_Z) (l : Launch) (x1 : Int32) (x2 : Int32) (x3 : Int32) (σ : vz_I)  {r : Int32} {σ' : vz_I} (h : f_X8_lay x1 x2 x3 σ = some (r, σ')) : vz_Con z l 2 yX8_lay cX8_lay 6 (some .int) [.ref 0, .int x1, .int x2, .int x3] vz_G0 σ vz_N0 (some (.int r)) vz_G0 σ' vz_N0 0 0 := by
  refine vz_con (by decide) (Nat.le_of_ble_eq_true rfl) (fun μ hc hl hcap hret => ?_)
  subst hl
  unfold f_X8_lay at h
  refine vr_iload_n (pc := 0) hc dX8_lay_0 rfl ?_
  refine vr_cSi (pc := 1) hc dX8_lay_1 mt_X8_isSheet sx_X8_isSheet ml_X8_317  (w_X8_isSheet z μ.2.1 x1 σ rfl) rfl (by decide) rfl (Nat.le_of_ble_eq_true rfl) ?_
  refine vr_if_ne (pc := 4) hc 9 dX8_lay_4 (by decide) (fun hb1 => ?_) (fun hb1 => ?_)
  · rw [if_neg hb1] at h
    refine vr_aload_n (pc := 9) hc dX8_lay_9 rfl ?_
    refine vr_getR (pc := 10) hc dX8_lay_10 fl_X8_43 gc_0 (gr_8_6 gc_0).1 ?_
    refine vr_iload_n (pc := 13) hc dX8_lay_13 rfl ?_
    have hb2 := vz_ifp h
    rw [if_pos hb2] at h
    refine vr_aald (pc := 14) hc 15 4 dX8_lay_14 ((gr_8_6 gc_0).2.1) (by decide) (by decide) ((gr_8_6 gc_0).2.2) (vz_in_vp hb2) (ge_15 gc_0 (vz_in_lt hb2)).1 ?_
    refine vr_astore (pc := 15) hc dX8_lay_15 (by decide) rfl ?_
    refine vr_aload (pc := 17) hc dX8_lay_17 rfl ?_
    refine vr_aload (pc := 19) hc dX8_lay_19 rfl ?_
    refine vr_getI (pc := 21) hc dX8_lay_21 fl_X8_326 ((ge_15 gc_0 (vz_in_lt hb2)).2) (gi_4_0 ((ge_15 gc_0 (vz_in_lt hb2)).2)) ?_
    refine vr_iload_n (pc := 24) hc dX8_lay_24 rfl ?_
    refine vr_cVi (pc := 25) hc dX8_lay_25 mt_X4_faultAt ml_X8_329 ((ge_15 gc_0 (vz_in_lt hb2)).2) (w_X4_faultAt z μ.2.1 (100 + 2 * x1.toNatClampNeg) (σ (100 + 2 * x1.toNatClampNeg) 0) x2 σ ((ge_15 gc_0 (vz_in_lt hb2)).2) rfl) rfl (by decide) rfl (Nat.le_of_ble_eq_true rfl) ?_
    refine vr_istore (pc := 28) hc dX8_lay_28 (by decide) rfl ?_
    refine vr_iload (pc := 30) hc dX8_lay_30 rfl ?_
    refine vr_if_eq (pc := 32) hc 41 dX8_lay_32 (by decide) (fun hb3 => ?_) (fun hb3 => ?_)
    · rw [if_pos hb3] at h
      refine vr_aload (pc := 41) hc dX8_lay_41 rfl ?_
      refine vr_iload_n (pc := 43) hc dX8_lay_43 rfl ?_
      refine vr_iload_n (pc := 44) hc dX8_lay_44 rfl ?_
      obtain ⟨σ6, he4, h⟩ := vz_b1e h
      refine vr_cVv (pc := 45) hc dX8_lay_45 mt_X4_put ml_X8_332 ((ge_15 gc_0 (vz_in_lt hb2)).2) (w_X4_put z μ.2.1 (100 + 2 * x1.toNatClampNeg) x2 x3 σ ((ge_15 gc_0 (vz_in_lt hb2)).2) he4) rfl (by decide) rfl (Nat.le_of_ble_eq_true rfl) ?_
      refine vr_iconst (pc := 48) hc dX8_lay_48 (1 : Int32) (by decide) ?_
      obtain ⟨rfl, rfl⟩ := vz_in2 h
      exact hret _ _ (vz_ret_i dX8_lay_49 rfl)
    · rw [if_neg hb3] at h
      refine vr_bipush (pc := 35) hc dX8_lay_35 (-10 : Int32) (by decide) ?_
      refine vr_iload (pc := 37) hc dX8_lay_37 rfl ?_
      refine vr_isub (pc := 39) hc dX8_lay_39 ?_
      obtain ⟨rfl, rfl⟩ := vz_in2 h
      exact hret _ _ (vz_ret_i dX8_lay_40 rfl)
  · rw [if_pos hb1] at h
    refine vr_iconst (pc := 7) hc dX8_lay_7 (-1 : Int32) (by decide) ?_
    obtain ⟨rfl, rfl⟩ := vz_in2 h
    exact hret _ _ (vz_ret_i dX8_lay_8 rfl)
-- X8_canStand: depth 2, effects S=True W=False P=True
def f_X8_canStand (a1 : Nat) (x2 : Int32) (σ : vz_I) : Option Int32 := vz_b1 (f_X4_cellAt a1 x2 σ) (fun v2 => vz_b1 (f_X7_readerAt 21 v2 σ) (fun v5 => vz_mo v5 (some (0 : Int32)) (fun a7 => vz_b1 (f_X4_cellAt a1 (x2 + (1 : Int32)) σ) (fun v9 => if (f_X8_isCorner v9) = 0 then some (0 : Int32) else some (1 : Int32)))))
set_option maxRecDepth 20000 in
set_option maxHeartbeats 1000000 in
theorem w_X8_canStand (z : vz_Z) (l : Launch) (a1 : Nat) (x2 : Int32) (σ : vz_I) (ha1 : (vz_G0 a1).1 = 4) {r : Int32} (h : f_X8_canStand a1 x2 σ = some r) : vz_Con z l 2 yX8_canStand cX8_canStand 3 (some .boolean) [.ref 0, .ref a1, .int x2] vz_G0 σ vz_N0 (some (.int r)) vz_G0 σ vz_N0 0 0 := by
  refine vz_con (by decide) (Nat.le_of_ble_eq_true rfl) (fun μ hc hl hcap hret => ?_)
  subst hl
  unfold f_X8_canStand at h
  refine vr_aload_n (pc := 0) hc dX8_canStand_0 rfl ?_
  refine vr_getR (pc := 1) hc dX8_canStand_1 fl_X8_19 gc_0 (gr_8_1 gc_0).1 ?_
  refine vr_aload_n (pc := 4) hc dX8_canStand_4 rfl ?_
  refine vr_iload_n (pc := 5) hc dX8_canStand_5 rfl ?_
  obtain ⟨v2, he1, h⟩ := vz_b1e h
  refine vr_cVi (pc := 6) hc dX8_canStand_6 mt_X4_cellAt ml_X8_342 ha1 (w_X4_cellAt z μ.2.1 a1 x2 σ ha1 he1) rfl (by decide) rfl (Nat.le_of_ble_eq_true rfl) ?_
  obtain ⟨v5, he4, h⟩ := vz_b1e h
  cases v5 with
  | none =>
    rw [vz_mo_n] at h
    refine vr_cVn (pc := 9) hc dX8_canStand_9 mt_X7_readerAt ml_X8_169 ((gr_8_1 gc_0).2.1) (w_X7_readerAt z μ.2.1 21 v2 σ ((gr_8_1 gc_0).2.1) he4) rfl (by decide) rfl (Nat.le_of_ble_eq_true rfl) ?_
    refine vr_ifnullN (pc := 12) hc 32 dX8_canStand_12 (by decide) ?_
    refine vr_iconst (pc := 32) hc dX8_canStand_32 (0 : Int32) (by decide) ?_
    obtain rfl := Option.some.inj h
    exact hret _ _ (vz_ret_i dX8_canStand_33 (by decide))
  | some a7 =>
    rw [vz_mo_s] at h
    refine vr_cVa (pc := 9) hc dX8_canStand_9 mt_X7_readerAt ml_X8_169 ((gr_8_1 gc_0).2.1) (w_X7_readerAt z μ.2.1 21 v2 σ ((gr_8_1 gc_0).2.1) he4) rfl (by decide) rfl (Nat.le_of_ble_eq_true rfl) ?_
    refine vr_ifnull (pc := 12) hc dX8_canStand_12 ?_
    refine vr_aload_n (pc := 15) hc dX8_canStand_15 rfl ?_
    refine vr_iload_n (pc := 16) hc dX8_canStand_16 rfl ?_
    refine vr_iconst (pc := 17) hc dX8_canStand_17 (1 : Int32) (by decide) ?_
    refine vr_iadd (pc := 18) hc dX8_canStand_18 ?_
    obtain ⟨v9, he8, h⟩ := vz_b1e h
    refine vr_cVi (pc := 19) hc dX8_canStand_19 mt_X4_cellAt ml_X8_342 ha1 (w_X4_cellAt z μ.2.1 a1 (x2 + (1 : Int32)) σ ha1 he8) rfl (by decide) rfl (Nat.le_of_ble_eq_true rfl) ?_
    refine vr_cSi (pc := 22) hc dX8_canStand_22 mt_X8_isCorner sx_X8_isCorner ml_X8_185  (w_X8_isCorner z μ.2.1 v9 σ rfl) rfl (by decide) rfl (Nat.le_of_ble_eq_true rfl) ?_
    refine vr_if_eq (pc := 25) hc 32 dX8_canStand_25 (by decide) (fun hb11 => ?_) (fun hb11 => ?_)
    · rw [if_pos hb11] at h
      refine vr_iconst (pc := 32) hc dX8_canStand_32 (0 : Int32) (by decide) ?_
      obtain rfl := Option.some.inj h
      exact hret _ _ (vz_ret_i dX8_canStand_33 (by decide))
    · rw [if_neg hb11] at h
      refine vr_iconst (pc := 28) hc dX8_canStand_28 (1 : Int32) (by decide) ?_
      refine vr_goto (pc := 29) hc 33 dX8_canStand_29 (by decide) ?_
      obtain rfl := Option.some.inj h
      exact hret _ _ (vz_ret_i dX8_canStand_33 (by decide))
-- X9_number: depth 2, effects S=True W=True P=True
def f_X9_number_62 (xs0 : Int32) (σ : vz_I) : Option (Int32 × vz_I) := vz_b1 (f_X9_step  σ) (fun σ6 => some (xs0, σ6))
set_option maxRecDepth 20000 in
set_option maxHeartbeats 1000000 in
theorem wn_X9_number_62 (z : vz_Z) (μ : vz_M) (hc : vz_C z μ cX9_number RX9 2 4) {r : Int32} {σ' : vz_I} (hret : ∀ (pc : Nat) (L : vz_L), vz_ret cX9_number (some .int) pc (some (.int r)) → vz_V z μ 0 0 pc L ((some (.int r)) : Option Value).toList vz_G0 σ' vz_N0) (xs0 : Int32) (σ : vz_I)  (h : f_X9_number_62  xs0 σ = some (r, σ')) : vz_V z μ 0 0 62 [(0, some (.ref 108))] [.int xs0] vz_G0 σ vz_N0 := by
  unfold f_X9_number_62 at h
  refine vr_istore_n (pc := 62) hc dX9_number_62 (by decide) rfl ?_
  refine vr_aload_n (pc := 63) hc dX9_number_63 rfl ?_
  obtain ⟨σ6, he4, h⟩ := vz_b1e h
  refine vr_cVv (pc := 64) hc dX9_number_64 mt_X9_step ml_X9_97 gc_108 (w_X9_step z μ.2.1  σ he4) rfl (by decide) rfl (Nat.le_of_ble_eq_true rfl) ?_
  refine vr_iload_n (pc := 67) hc dX9_number_67 rfl ?_
  obtain ⟨rfl, rfl⟩ := vz_in2 h
  exact hret _ _ (vz_ret_i dX9_number_68 rfl)
def f_X9_number_47 (x1 : Int32) (σ : vz_I) : Option (Int32 × vz_I) := if (σ 108 10) = 0 then f_X9_number_62 (σ 108 15) σ else f_X9_number_62 x1 σ
set_option maxRecDepth 20000 in
set_option maxHeartbeats 1000000 in
theorem wn_X9_number_47 (z : vz_Z) (μ : vz_M) (hc : vz_C z μ cX9_number RX9 2 4) {r : Int32} {σ' : vz_I} (hret : ∀ (pc : Nat) (L : vz_L), vz_ret cX9_number (some .int) pc (some (.int r)) → vz_V z μ 0 0 pc L ((some (.int r)) : Option Value).toList vz_G0 σ' vz_N0) (x1 : Int32) (σ : vz_I)  (h : f_X9_number_47  x1 σ = some (r, σ')) : vz_V z μ 0 0 47 [(0, some (.ref 108)), (1, some (.int x1))] [] vz_G0 σ vz_N0 := by
  unfold f_X9_number_47 at h
  refine vr_aload_n (pc := 47) hc dX9_number_47 rfl ?_
  refine vr_getI (pc := 48) hc dX9_number_48 fl_X9_63 gc_108 (gi_9_10 gc_108) ?_
  refine vr_if_ne (pc := 51) hc 61 dX9_number_51 (by decide) (fun hb3 => ?_) (fun hb3 => ?_)
  · rw [if_neg hb3] at h
    refine vr_iload_n (pc := 61) hc dX9_number_61 rfl ?_
    exact vz_sub (wn_X9_number_62 z μ hc hret x1 σ h) (vz_sb1 rfl vz_sb0)
  · rw [if_pos hb3] at h
    refine vr_aload_n (pc := 54) hc dX9_number_54 rfl ?_
    refine vr_getI (pc := 55) hc dX9_number_55 fl_X9_82 gc_108 (gi_9_15 gc_108) ?_
    refine vr_goto (pc := 58) hc 62 dX9_number_58 (by decide) ?_
    exact vz_sub (wn_X9_number_62 z μ hc hret (σ 108 15) σ h) (vz_sb1 rfl vz_sb0)
def f_X9_number_20 (x1 : Int32) (x2 : Int32) (σ : vz_I) : Option (Int32 × vz_I) := if (σ 108 10) = 0 then if (f_X9_in ((σ 108 15).toInt64) x1.toInt64 x2.toInt64) = 0 then f_X9_number_47 x1 (f_X9_fails (3 : Int32) σ) else f_X9_number_47 x1 σ else f_X9_number_47 x1 σ
set_option maxRecDepth 20000 in
set_option maxHeartbeats 1000000 in
theorem wn_X9_number_20 (z : vz_Z) (μ : vz_M) (hc : vz_C z μ cX9_number RX9 2 4) {r : Int32} {σ' : vz_I} (hret : ∀ (pc : Nat) (L : vz_L), vz_ret cX9_number (some .int) pc (some (.int r)) → vz_V z μ 0 0 pc L ((some (.int r)) : Option Value).toList vz_G0 σ' vz_N0) (x1 : Int32) (x2 : Int32) (σ : vz_I)  (h : f_X9_number_20  x1 x2 σ = some (r, σ')) : vz_V z μ 0 0 20 [(0, some (.ref 108)), (1, some (.int x1)), (2, some (.int x2))] [] vz_G0 σ vz_N0 := by
  unfold f_X9_number_20 at h
  refine vr_aload_n (pc := 20) hc dX9_number_20 rfl ?_
  refine vr_getI (pc := 21) hc dX9_number_21 fl_X9_63 gc_108 (gi_9_10 gc_108) ?_
  refine vr_if_ne (pc := 24) hc 47 dX9_number_24 (by decide) (fun hb2 => ?_) (fun hb2 => ?_)
  · rw [if_neg hb2] at h
    exact vz_sub (wn_X9_number_47 z μ hc hret x1 σ h) (vz_sb1 rfl (vz_sb1 rfl vz_sb0))
  · rw [if_pos hb2] at h
    refine vr_aload_n (pc := 27) hc dX9_number_27 rfl ?_
    refine vr_getI (pc := 28) hc dX9_number_28 fl_X9_82 gc_108 (gi_9_15 gc_108) ?_
    refine vr_i2l (pc := 31) hc dX9_number_31 ?_
    refine vr_iload_n (pc := 32) hc dX9_number_32 rfl ?_
    refine vr_i2l (pc := 33) hc dX9_number_33 ?_
    refine vr_iload_n (pc := 34) hc dX9_number_34 rfl ?_
    refine vr_i2l (pc := 35) hc dX9_number_35 ?_
    refine vr_cSi (pc := 36) hc dX9_number_36 mt_X9_in sx_X9_in ml_X9_55  (w_X9_in z μ.2.1 ((σ 108 15).toInt64) x1.toInt64 x2.toInt64 σ rfl) rfl (by decide) rfl (Nat.le_of_ble_eq_true rfl) ?_
    refine vr_if_ne (pc := 39) hc 47 dX9_number_39 (by decide) (fun hb7 => ?_) (fun hb7 => ?_)
    · rw [if_neg hb7] at h
      exact vz_sub (wn_X9_number_47 z μ hc hret x1 σ h) (vz_sb1 rfl (vz_sb1 rfl vz_sb0))
    · rw [if_pos hb7] at h
      refine vr_aload_n (pc := 42) hc dX9_number_42 rfl ?_
      refine vr_iconst (pc := 43) hc dX9_number_43 (3 : Int32) (by decide) ?_
      refine vr_cVv (pc := 44) hc dX9_number_44 mt_X9_fails ml_X9_93 gc_108 (w_X9_fails z μ.2.1 (3 : Int32) σ rfl) rfl (by decide) rfl (Nat.le_of_ble_eq_true rfl) ?_
      exact vz_sub (wn_X9_number_47 z μ hc hret x1 (f_X9_fails (3 : Int32) σ) h) (vz_sb1 rfl (vz_sb1 rfl vz_sb0))
def f_X9_number (x1 : Int32) (x2 : Int32) (σ : vz_I) : Option (Int32 × vz_I) := if (σ 108 10) = 0 then if (σ 108 14) = (2 : Int32) then f_X9_number_20 x1 x2 σ else f_X9_number_20 x1 x2 (f_X9_fails (2 : Int32) σ) else f_X9_number_20 x1 x2 σ
set_option maxRecDepth 20000 in
set_option maxHeartbeats 1000000 in
theorem w_X9_number (z : vz_Z) (l : Launch) (x1 : Int32) (x2 : Int32) (σ : vz_I)  {r : Int32} {σ' : vz_I} (h : f_X9_number x1 x2 σ = some (r, σ')) : vz_Con z l 2 yX9_number cX9_number 4 (some .int) [.ref 108, .int x1, .int x2] vz_G0 σ vz_N0 (some (.int r)) vz_G0 σ' vz_N0 0 0 := by
  refine vz_con (by decide) (Nat.le_of_ble_eq_true rfl) (fun μ hc hl hcap hret => ?_)
  subst hl
  unfold f_X9_number at h
  refine vr_aload_n (pc := 0) hc dX9_number_0 rfl ?_
  refine vr_getI (pc := 1) hc dX9_number_1 fl_X9_63 gc_108 (gi_9_10 gc_108) ?_
  refine vr_if_ne (pc := 4) hc 20 dX9_number_4 (by decide) (fun hb1 => ?_) (fun hb1 => ?_)
  · rw [if_neg hb1] at h
    exact vz_sub (wn_X9_number_20 z μ hc hret x1 x2 σ h) (vz_sb1 rfl (vz_sb1 rfl (vz_sb1 rfl vz_sb0)))
  · rw [if_pos hb1] at h
    refine vr_aload_n (pc := 7) hc dX9_number_7 rfl ?_
    refine vr_getI (pc := 8) hc dX9_number_8 fl_X9_72 gc_108 (gi_9_14 gc_108) ?_
    refine vr_iconst (pc := 11) hc dX9_number_11 (2 : Int32) (by decide) ?_
    refine vr_icmp_eq (pc := 12) hc 20 dX9_number_12 (by decide) (fun hb8 => ?_) (fun hb8 => ?_)
    · rw [if_pos hb8] at h
      exact vz_sub (wn_X9_number_20 z μ hc hret x1 x2 σ h) (vz_sb1 rfl (vz_sb1 rfl (vz_sb1 rfl vz_sb0)))
    · rw [if_neg hb8] at h
      refine vr_aload_n (pc := 15) hc dX9_number_15 rfl ?_
      refine vr_iconst (pc := 16) hc dX9_number_16 (2 : Int32) (by decide) ?_
      refine vr_cVv (pc := 17) hc dX9_number_17 mt_X9_fails ml_X9_93 gc_108 (w_X9_fails z μ.2.1 (2 : Int32) σ rfl) rfl (by decide) rfl (Nat.le_of_ble_eq_true rfl) ?_
      exact vz_sub (wn_X9_number_20 z μ hc hret x1 x2 (f_X9_fails (2 : Int32) σ) h) (vz_sb1 rfl (vz_sb1 rfl (vz_sb1 rfl vz_sb0)))
-- X9_areWalks: depth 2, effects S=True W=True P=True
def f_X9_areWalks_34 : Nat → Int32 → Int32 → vz_I → Option (Int32 × vz_I)
  | 0, _, _, _ => none
  | n + 1, x1, x2, σ => if (σ 108 4) ≤ x2 then if x1 = 0 ∨ x1 = 1 then some (x1, σ) else none else if x1 = 0 then f_X9_areWalks_34 n (0 : Int32) (x2 + (1 : Int32)) σ else vz_b1 (f_X9_isWalkOn (244 : Int32) x2 σ) (fun v6 => if v6 = 0 then f_X9_areWalks_34 n (0 : Int32) (x2 + (1 : Int32)) σ else f_X9_areWalks_34 n (1 : Int32) (x2 + (1 : Int32)) σ)
theorem f_X9_areWalks_34_s (n : Nat) (x1 : Int32) (x2 : Int32) (σ : vz_I) : f_X9_areWalks_34  (n + 1) x1 x2 σ = if (σ 108 4) ≤ x2 then if x1 = 0 ∨ x1 = 1 then some (x1, σ) else none else if x1 = 0 then f_X9_areWalks_34 n (0 : Int32) (x2 + (1 : Int32)) σ else vz_b1 (f_X9_isWalkOn (244 : Int32) x2 σ) (fun v6 => if v6 = 0 then f_X9_areWalks_34 n (0 : Int32) (x2 + (1 : Int32)) σ else f_X9_areWalks_34 n (1 : Int32) (x2 + (1 : Int32)) σ) := rfl
set_option maxRecDepth 20000 in
set_option maxHeartbeats 1000000 in
theorem wn_X9_areWalks_34 (z : vz_Z) (μ : vz_M) (hc : vz_C z μ cX9_areWalks RX9 2 3) {r : Int32} {σ' : vz_I} (hret : ∀ (pc : Nat) (L : vz_L), vz_ret cX9_areWalks (some .boolean) pc (some (.int r)) → vz_V z μ 0 0 pc L ((some (.int r)) : Option Value).toList vz_G0 σ' vz_N0) : ∀ (n : Nat) (x1 : Int32) (x2 : Int32) (σ : vz_I)  (h : f_X9_areWalks_34  n x1 x2 σ = some (r, σ')), vz_V z μ 0 0 34 [(0, some (.ref 108)), (1, some (.int x1)), (2, some (.int x2))] [] vz_G0 σ vz_N0 := by
  intro n
  induction n with
  | zero =>
    intro x1 x2 σ h
    cases h
  | succ n ih =>
    intro x1 x2 σ h
    rw [f_X9_areWalks_34_s] at h
    refine vr_iload_n (pc := 34) hc dX9_areWalks_34 rfl ?_
    refine vr_aload_n (pc := 35) hc dX9_areWalks_35 rfl ?_
    refine vr_getI (pc := 36) hc dX9_areWalks_36 fl_X9_100 gc_108 (gi_9_4 gc_108) ?_
    refine vr_icmp_ge (pc := 39) hc 69 dX9_areWalks_39 (by decide) (fun hb2 => ?_) (fun hb2 => ?_)
    · rw [if_pos hb2] at h
      refine vr_iload_n (pc := 69) hc dX9_areWalks_69 rfl ?_
      have hb3 := vz_ifp h
      rw [if_pos hb3] at h
      obtain ⟨rfl, rfl⟩ := vz_in2 h
      exact hret _ _ (vz_ret_i dX9_areWalks_70 (vz_bn hb3))
    · rw [if_neg hb2] at h
      refine vr_iload_n (pc := 42) hc dX9_areWalks_42 rfl ?_
      refine vr_if_eq (pc := 43) hc 61 dX9_areWalks_43 (by decide) (fun hb4 => ?_) (fun hb4 => ?_)
      · rw [if_pos hb4] at h
        refine vr_iconst (pc := 61) hc dX9_areWalks_61 (0 : Int32) (by decide) ?_
        refine vr_istore_n (pc := 62) hc dX9_areWalks_62 (by decide) rfl ?_
        refine vr_iinc (pc := 63) hc dX9_areWalks_63 (1 : Int32) (by decide) rfl (by decide) rfl ?_
        refine vr_goto (pc := 66) hc 34 dX9_areWalks_66 (by decide) ?_
        exact vz_sub (ih (0 : Int32) (x2 + (1 : Int32)) σ  h) (vz_sb1 rfl (vz_sb1 rfl (vz_sb1 rfl vz_sb0)))
      · rw [if_neg hb4] at h
        refine vr_aload_n (pc := 46) hc dX9_areWalks_46 rfl ?_
        refine vr_sipush (pc := 47) hc dX9_areWalks_47 (244 : Int32) (by decide) ?_
        refine vr_iload_n (pc := 50) hc dX9_areWalks_50 rfl ?_
        obtain ⟨v6, he5, h⟩ := vz_b1e h
        refine vr_cVi (pc := 51) hc dX9_areWalks_51 mt_X9_isWalkOn ml_X9_136 gc_108 (w_X9_isWalkOn z μ.2.1 (244 : Int32) x2 σ he5) rfl (by decide) rfl (Nat.le_of_ble_eq_true rfl) ?_
        refine vr_if_eq (pc := 54) hc 61 dX9_areWalks_54 (by decide) (fun hb8 => ?_) (fun hb8 => ?_)
        · rw [if_pos hb8] at h
          refine vr_iconst (pc := 61) hc dX9_areWalks_61 (0 : Int32) (by decide) ?_
          refine vr_istore_n (pc := 62) hc dX9_areWalks_62 (by decide) rfl ?_
          refine vr_iinc (pc := 63) hc dX9_areWalks_63 (1 : Int32) (by decide) rfl (by decide) rfl ?_
          refine vr_goto (pc := 66) hc 34 dX9_areWalks_66 (by decide) ?_
          exact vz_sub (ih (0 : Int32) (x2 + (1 : Int32)) σ  h) (vz_sb1 rfl (vz_sb1 rfl (vz_sb1 rfl vz_sb0)))
        · rw [if_neg hb8] at h
          refine vr_iconst (pc := 57) hc dX9_areWalks_57 (1 : Int32) (by decide) ?_
          refine vr_goto (pc := 58) hc 62 dX9_areWalks_58 (by decide) ?_
          refine vr_istore_n (pc := 62) hc dX9_areWalks_62 (by decide) rfl ?_
          refine vr_iinc (pc := 63) hc dX9_areWalks_63 (1 : Int32) (by decide) rfl (by decide) rfl ?_
          refine vr_goto (pc := 66) hc 34 dX9_areWalks_66 (by decide) ?_
          exact vz_sub (ih (1 : Int32) (x2 + (1 : Int32)) σ  h) (vz_sb1 rfl (vz_sb1 rfl (vz_sb1 rfl vz_sb0)))
def f_X9_areWalks_2 : Nat → Int32 → vz_I → Option (Int32 × vz_I)
  | 0, _, _ => none
  | n + 1, x1, σ => if (61 : Int32) ≤ x1 then f_X9_areWalks_34 vz_fu (1 : Int32) (0 : Int32) σ else if vz_in x1 61 then if vz_in ((244 : Int32) + x1) 305 then vz_let (vz_up σ 109 ((244 : Int32) + x1).toNatClampNeg (σ 110 x1.toNatClampNeg)) (fun σ11 => f_X9_areWalks_2 n (x1 + (1 : Int32)) σ11) else none else none
theorem f_X9_areWalks_2_s (n : Nat) (x1 : Int32) (σ : vz_I) : f_X9_areWalks_2  (n + 1) x1 σ = if (61 : Int32) ≤ x1 then f_X9_areWalks_34 vz_fu (1 : Int32) (0 : Int32) σ else if vz_in x1 61 then if vz_in ((244 : Int32) + x1) 305 then vz_let (vz_up σ 109 ((244 : Int32) + x1).toNatClampNeg (σ 110 x1.toNatClampNeg)) (fun σ11 => f_X9_areWalks_2 n (x1 + (1 : Int32)) σ11) else none else none := rfl
set_option maxRecDepth 20000 in
set_option maxHeartbeats 1000000 in
theorem wn_X9_areWalks_2 (z : vz_Z) (μ : vz_M) (hc : vz_C z μ cX9_areWalks RX9 2 3) {r : Int32} {σ' : vz_I} (hret : ∀ (pc : Nat) (L : vz_L), vz_ret cX9_areWalks (some .boolean) pc (some (.int r)) → vz_V z μ 0 0 pc L ((some (.int r)) : Option Value).toList vz_G0 σ' vz_N0) : ∀ (n : Nat) (x1 : Int32) (σ : vz_I)  (h : f_X9_areWalks_2  n x1 σ = some (r, σ')), vz_V z μ 0 0 2 [(0, some (.ref 108)), (1, some (.int x1))] [] vz_G0 σ vz_N0 := by
  intro n
  induction n with
  | zero =>
    intro x1 σ h
    cases h
  | succ n ih =>
    intro x1 σ h
    rw [f_X9_areWalks_2_s] at h
    refine vr_iload_n (pc := 2) hc dX9_areWalks_2 rfl ?_
    refine vr_bipush (pc := 3) hc dX9_areWalks_3 (61 : Int32) (by decide) ?_
    refine vr_icmp_ge (pc := 5) hc 30 dX9_areWalks_5 (by decide) (fun hb1 => ?_) (fun hb1 => ?_)
    · rw [if_pos hb1] at h
      refine vr_iconst (pc := 30) hc dX9_areWalks_30 (1 : Int32) (by decide) ?_
      refine vr_istore_n (pc := 31) hc dX9_areWalks_31 (by decide) rfl ?_
      refine vr_iconst (pc := 32) hc dX9_areWalks_32 (0 : Int32) (by decide) ?_
      refine vr_istore_n (pc := 33) hc dX9_areWalks_33 (by decide) rfl ?_
      exact vz_sub (wn_X9_areWalks_34 z μ hc hret vz_fu (1 : Int32) (0 : Int32) σ h) (vz_sb1 rfl (vz_sb1 rfl (vz_sb1 rfl vz_sb0)))
    · rw [if_neg hb1] at h
      refine vr_aload_n (pc := 8) hc dX9_areWalks_8 rfl ?_
      refine vr_getR (pc := 9) hc dX9_areWalks_9 fl_X9_7 gc_108 (gr_9_0 gc_108).1 ?_
      refine vr_sipush (pc := 12) hc dX9_areWalks_12 (244 : Int32) (by decide) ?_
      refine vr_iload_n (pc := 15) hc dX9_areWalks_15 rfl ?_
      refine vr_iadd (pc := 16) hc dX9_areWalks_16 ?_
      refine vr_aload_n (pc := 17) hc dX9_areWalks_17 rfl ?_
      refine vr_getR (pc := 18) hc dX9_areWalks_18 fl_X9_13 gc_108 (gr_9_3 gc_108).1 ?_
      refine vr_iload_n (pc := 21) hc dX9_areWalks_21 rfl ?_
      have hb9 := vz_ifp h
      rw [if_pos hb9] at h
      refine vr_iald (pc := 22) hc 61 dX9_areWalks_22 ((gr_9_3 gc_108).2.1) ((gr_9_3 gc_108).2.2) (vz_in_vp hb9) ?_
      have hb10 := vz_ifp h
      rw [if_pos hb10] at h
      refine vr_iast (pc := 23) hc 305 dX9_areWalks_23 ((gr_9_0 gc_108).2.1) ((gr_9_0 gc_108).2.2) (vz_in_vp hb10) ?_
      obtain ⟨σ11, hσ12⟩ : ∃ x, x = vz_up σ 109 ((244 : Int32) + x1).toNatClampNeg (σ 110 x1.toNatClampNeg) := ⟨_, rfl⟩
      rw [← hσ12] at h ⊢
      rw [vz_let_e] at h
      refine vr_iinc (pc := 24) hc dX9_areWalks_24 (1 : Int32) (by decide) rfl (by decide) rfl ?_
      refine vr_goto (pc := 27) hc 2 dX9_areWalks_27 (by decide) ?_
      exact vz_sub (ih (x1 + (1 : Int32)) σ11  h) (vz_sb1 rfl (vz_sb1 rfl vz_sb0))
def f_X9_areWalks  (σ : vz_I) : Option (Int32 × vz_I) := f_X9_areWalks_2 vz_fu (0 : Int32) σ
set_option maxRecDepth 20000 in
set_option maxHeartbeats 1000000 in
theorem w_X9_areWalks (z : vz_Z) (l : Launch)  (σ : vz_I)  {r : Int32} {σ' : vz_I} (h : f_X9_areWalks  σ = some (r, σ')) : vz_Con z l 2 yX9_areWalks cX9_areWalks 3 (some .boolean) [.ref 108] vz_G0 σ vz_N0 (some (.int r)) vz_G0 σ' vz_N0 0 0 := by
  refine vz_con (by decide) (Nat.le_of_ble_eq_true rfl) (fun μ hc hl hcap hret => ?_)
  subst hl
  unfold f_X9_areWalks at h
  refine vr_iconst (pc := 0) hc dX9_areWalks_0 (0 : Int32) (by decide) ?_
  refine vr_istore_n (pc := 1) hc dX9_areWalks_1 (by decide) rfl ?_
  exact vz_sub (wn_X9_areWalks_2 z μ hc hret vz_fu (0 : Int32) σ h) (vz_sb1 rfl (vz_sb1 rfl vz_sb0))
-- X9_readsOn: depth 2, effects S=True W=False P=True
def f_X9_readsOn (x1 : Int32) (x2 : Int32) (x3 : Int32) (x4 : Int32) (x5 : Int32) (σ : vz_I) : Option Int32 := vz_b1 (f_X9_isWetOn x1 x4 σ) (fun v2 => if v2 = 0 then if vz_in ((x1 + (32 : Int32)) + x2) 305 then if vz_in ((x1 + (36 : Int32)) + x2) 305 then if (f_X9_in x4.toInt64 ((σ 109 ((x1 + (32 : Int32)) + x2).toNatClampNeg).toInt64) ((σ 109 ((x1 + (36 : Int32)) + x2).toNatClampNeg).toInt64)) = 0 then some (0 : Int32) else vz_b1 (f_X9_atOn x1 x3 x4 x5 σ) (fun v9 => if vz_in ((x1 + (28 : Int32)) + x2) 305 then if v9 = (σ 109 ((x1 + (28 : Int32)) + x2).toNatClampNeg) then some (1 : Int32) else some (0 : Int32) else none) else none else none else some (0 : Int32))
set_option maxRecDepth 20000 in
set_option maxHeartbeats 1000000 in
theorem w_X9_readsOn (z : vz_Z) (l : Launch) (x1 : Int32) (x2 : Int32) (x3 : Int32) (x4 : Int32) (x5 : Int32) (σ : vz_I)  {r : Int32} (h : f_X9_readsOn x1 x2 x3 x4 x5 σ = some r) : vz_Con z l 2 yX9_readsOn cX9_readsOn 6 (some .boolean) [.ref 108, .int x1, .int x2, .int x3, .int x4, .int x5] vz_G0 σ vz_N0 (some (.int r)) vz_G0 σ vz_N0 0 0 := by
  refine vz_con (by decide) (Nat.le_of_ble_eq_true rfl) (fun μ hc hl hcap hret => ?_)
  subst hl
  unfold f_X9_readsOn at h
  refine vr_aload_n (pc := 0) hc dX9_readsOn_0 rfl ?_
  refine vr_iload_n (pc := 1) hc dX9_readsOn_1 rfl ?_
  refine vr_iload (pc := 2) hc dX9_readsOn_2 rfl ?_
  obtain ⟨v2, he1, h⟩ := vz_b1e h
  refine vr_cVi (pc := 4) hc dX9_readsOn_4 mt_X9_isWetOn ml_X9_175 gc_108 (w_X9_isWetOn z μ.2.1 x1 x4 σ he1) rfl (by decide) rfl (Nat.le_of_ble_eq_true rfl) ?_
  refine vr_if_ne (pc := 7) hc 71 dX9_readsOn_7 (by decide) (fun hb4 => ?_) (fun hb4 => ?_)
  · rw [if_neg hb4] at h
    refine vr_iconst (pc := 71) hc dX9_readsOn_71 (0 : Int32) (by decide) ?_
    obtain rfl := Option.some.inj h
    exact hret _ _ (vz_ret_i dX9_readsOn_72 (by decide))
  · rw [if_pos hb4] at h
    refine vr_iload (pc := 10) hc dX9_readsOn_10 rfl ?_
    refine vr_i2l (pc := 12) hc dX9_readsOn_12 ?_
    refine vr_aload_n (pc := 13) hc dX9_readsOn_13 rfl ?_
    refine vr_getR (pc := 14) hc dX9_readsOn_14 fl_X9_7 gc_108 (gr_9_0 gc_108).1 ?_
    refine vr_iload_n (pc := 17) hc dX9_readsOn_17 rfl ?_
    refine vr_bipush (pc := 18) hc dX9_readsOn_18 (32 : Int32) (by decide) ?_
    refine vr_iadd (pc := 20) hc dX9_readsOn_20 ?_
    refine vr_iload_n (pc := 21) hc dX9_readsOn_21 rfl ?_
    refine vr_iadd (pc := 22) hc dX9_readsOn_22 ?_
    have hb5 := vz_ifp h
    rw [if_pos hb5] at h
    refine vr_iald (pc := 23) hc 305 dX9_readsOn_23 ((gr_9_0 gc_108).2.1) ((gr_9_0 gc_108).2.2) (vz_in_vp hb5) ?_
    refine vr_i2l (pc := 24) hc dX9_readsOn_24 ?_
    refine vr_aload_n (pc := 25) hc dX9_readsOn_25 rfl ?_
    refine vr_getR (pc := 26) hc dX9_readsOn_26 fl_X9_7 gc_108 (gr_9_0 gc_108).1 ?_
    refine vr_iload_n (pc := 29) hc dX9_readsOn_29 rfl ?_
    refine vr_bipush (pc := 30) hc dX9_readsOn_30 (36 : Int32) (by decide) ?_
    refine vr_iadd (pc := 32) hc dX9_readsOn_32 ?_
    refine vr_iload_n (pc := 33) hc dX9_readsOn_33 rfl ?_
    refine vr_iadd (pc := 34) hc dX9_readsOn_34 ?_
    have hb6 := vz_ifp h
    rw [if_pos hb6] at h
    refine vr_iald (pc := 35) hc 305 dX9_readsOn_35 ((gr_9_0 gc_108).2.1) ((gr_9_0 gc_108).2.2) (vz_in_vp hb6) ?_
    refine vr_i2l (pc := 36) hc dX9_readsOn_36 ?_
    refine vr_cSi (pc := 37) hc dX9_readsOn_37 mt_X9_in sx_X9_in ml_X9_55  (w_X9_in z μ.2.1 x4.toInt64 ((σ 109 ((x1 + (32 : Int32)) + x2).toNatClampNeg).toInt64) ((σ 109 ((x1 + (36 : Int32)) + x2).toNatClampNeg).toInt64) σ rfl) rfl (by decide) rfl (Nat.le_of_ble_eq_true rfl) ?_
    refine vr_if_eq (pc := 40) hc 71 dX9_readsOn_40 (by decide) (fun hb7 => ?_) (fun hb7 => ?_)
    · rw [if_pos hb7] at h
      refine vr_iconst (pc := 71) hc dX9_readsOn_71 (0 : Int32) (by decide) ?_
      obtain rfl := Option.some.inj h
      exact hret _ _ (vz_ret_i dX9_readsOn_72 (by decide))
    · rw [if_neg hb7] at h
      refine vr_aload_n (pc := 43) hc dX9_readsOn_43 rfl ?_
      refine vr_iload_n (pc := 44) hc dX9_readsOn_44 rfl ?_
      refine vr_iload_n (pc := 45) hc dX9_readsOn_45 rfl ?_
      refine vr_iload (pc := 46) hc dX9_readsOn_46 rfl ?_
      refine vr_iload (pc := 48) hc dX9_readsOn_48 rfl ?_
      obtain ⟨v9, he8, h⟩ := vz_b1e h
      refine vr_cVi (pc := 50) hc dX9_readsOn_50 mt_X9_atOn ml_X9_178 gc_108 (w_X9_atOn z μ.2.1 x1 x3 x4 x5 σ he8) rfl (by decide) rfl (Nat.le_of_ble_eq_true rfl) ?_
      refine vr_aload_n (pc := 53) hc dX9_readsOn_53 rfl ?_
      refine vr_getR (pc := 54) hc dX9_readsOn_54 fl_X9_7 gc_108 (gr_9_0 gc_108).1 ?_
      refine vr_iload_n (pc := 57) hc dX9_readsOn_57 rfl ?_
      refine vr_bipush (pc := 58) hc dX9_readsOn_58 (28 : Int32) (by decide) ?_
      refine vr_iadd (pc := 60) hc dX9_readsOn_60 ?_
      refine vr_iload_n (pc := 61) hc dX9_readsOn_61 rfl ?_
      refine vr_iadd (pc := 62) hc dX9_readsOn_62 ?_
      have hb11 := vz_ifp h
      rw [if_pos hb11] at h
      refine vr_iald (pc := 63) hc 305 dX9_readsOn_63 ((gr_9_0 gc_108).2.1) ((gr_9_0 gc_108).2.2) (vz_in_vp hb11) ?_
      refine vr_icmp_ne (pc := 64) hc 71 dX9_readsOn_64 (by decide) (fun hb12 => ?_) (fun hb12 => ?_)
      · rw [if_neg hb12] at h
        refine vr_iconst (pc := 71) hc dX9_readsOn_71 (0 : Int32) (by decide) ?_
        obtain rfl := Option.some.inj h
        exact hret _ _ (vz_ret_i dX9_readsOn_72 (by decide))
      · rw [if_pos hb12] at h
        refine vr_iconst (pc := 67) hc dX9_readsOn_67 (1 : Int32) (by decide) ?_
        refine vr_goto (pc := 68) hc 72 dX9_readsOn_68 (by decide) ?_
        obtain rfl := Option.some.inj h
        exact hret _ _ (vz_ret_i dX9_readsOn_72 (by decide))
-- X9_man: depth 2, effects S=True W=False P=True
def f_X9_man (x1 : Int32) (x2 : Int32) (σ : vz_I) : Option Int32 := if (f_X9_isMan x1 σ) = 0 then some (-1 : Int32) else if x2 = 0 then if vz_in x1 305 then some (σ 109 x1.toNatClampNeg) else none else if x2 = 1 then if vz_in ((4 : Int32) + x1) 305 then some (σ 109 ((4 : Int32) + x1).toNatClampNeg) else none else if x2 = 2 then vz_b1 (f_X9_paceOn (0 : Int32) x1 σ) (fun v8 => some v8) else if x2 = 3 then if vz_in ((8 : Int32) + x1) 305 then some (σ 109 ((8 : Int32) + x1).toNatClampNeg) else none else if x2 = 4 then vz_b1 (f_X9_paceOn (0 : Int32) x1 σ) (fun v14 => if v14 = 0 then none else some ((60 : Int32) / v14)) else some (-1 : Int32)
set_option maxRecDepth 20000 in
set_option maxHeartbeats 1000000 in
theorem w_X9_man (z : vz_Z) (l : Launch) (x1 : Int32) (x2 : Int32) (σ : vz_I)  {r : Int32} (h : f_X9_man x1 x2 σ = some r) : vz_Con z l 2 yX9_man cX9_man 3 (some .int) [.ref 108, .int x1, .int x2] vz_G0 σ vz_N0 (some (.int r)) vz_G0 σ vz_N0 0 0 := by
  refine vz_con (by decide) (Nat.le_of_ble_eq_true rfl) (fun μ hc hl hcap hret => ?_)
  subst hl
  unfold f_X9_man at h
  refine vr_aload_n (pc := 0) hc dX9_man_0 rfl ?_
  refine vr_iload_n (pc := 1) hc dX9_man_1 rfl ?_
  refine vr_cVi (pc := 2) hc dX9_man_2 mt_X9_isMan ml_X9_198 gc_108 (w_X9_isMan z μ.2.1 x1 σ rfl) rfl (by decide) rfl (Nat.le_of_ble_eq_true rfl) ?_
  refine vr_if_ne (pc := 5) hc 10 dX9_man_5 (by decide) (fun hb1 => ?_) (fun hb1 => ?_)
  · rw [if_neg hb1] at h
    refine vr_iload_n (pc := 10) hc dX9_man_10 rfl ?_
    by_cases hb2 : x2 = 0
    · rw [if_pos hb2] at h
      refine vr_tableIn (pc := 11) hc _ 44 dX9_man_11 (by rw [hb2]; decide) (by rw [hb2]; decide) (off := 33) (by rw [hb2]; decide) (by decide) ?_
      refine vr_aload_n (pc := 44) hc dX9_man_44 rfl ?_
      refine vr_getR (pc := 45) hc dX9_man_45 fl_X9_7 gc_108 (gr_9_0 gc_108).1 ?_
      refine vr_iload_n (pc := 48) hc dX9_man_48 rfl ?_
      have hb3 := vz_ifp h
      rw [if_pos hb3] at h
      refine vr_iald (pc := 49) hc 305 dX9_man_49 ((gr_9_0 gc_108).2.1) ((gr_9_0 gc_108).2.2) (vz_in_vp hb3) ?_
      obtain rfl := Option.some.inj h
      exact hret _ _ (vz_ret_i dX9_man_50 rfl)
    rw [if_neg hb2] at h
    by_cases hb4 : x2 = 1
    · rw [if_pos hb4] at h
      refine vr_tableIn (pc := 11) hc _ 51 dX9_man_11 (by rw [hb4]; decide) (by rw [hb4]; decide) (off := 40) (by rw [hb4]; decide) (by decide) ?_
      refine vr_aload_n (pc := 51) hc dX9_man_51 rfl ?_
      refine vr_getR (pc := 52) hc dX9_man_52 fl_X9_7 gc_108 (gr_9_0 gc_108).1 ?_
      refine vr_iconst (pc := 55) hc dX9_man_55 (4 : Int32) (by decide) ?_
      refine vr_iload_n (pc := 56) hc dX9_man_56 rfl ?_
      refine vr_iadd (pc := 57) hc dX9_man_57 ?_
      have hb5 := vz_ifp h
      rw [if_pos hb5] at h
      refine vr_iald (pc := 58) hc 305 dX9_man_58 ((gr_9_0 gc_108).2.1) ((gr_9_0 gc_108).2.2) (vz_in_vp hb5) ?_
      obtain rfl := Option.some.inj h
      exact hret _ _ (vz_ret_i dX9_man_59 rfl)
    rw [if_neg hb4] at h
    by_cases hb6 : x2 = 2
    · rw [if_pos hb6] at h
      refine vr_tableIn (pc := 11) hc _ 60 dX9_man_11 (by rw [hb6]; decide) (by rw [hb6]; decide) (off := 49) (by rw [hb6]; decide) (by decide) ?_
      refine vr_aload_n (pc := 60) hc dX9_man_60 rfl ?_
      refine vr_iconst (pc := 61) hc dX9_man_61 (0 : Int32) (by decide) ?_
      refine vr_iload_n (pc := 62) hc dX9_man_62 rfl ?_
      obtain ⟨v8, he7, h⟩ := vz_b1e h
      refine vr_cVi (pc := 63) hc dX9_man_63 mt_X9_paceOn ml_X9_169 gc_108 (w_X9_paceOn z μ.2.1 (0 : Int32) x1 σ he7) rfl (by decide) rfl (Nat.le_of_ble_eq_true rfl) ?_
      obtain rfl := Option.some.inj h
      exact hret _ _ (vz_ret_i dX9_man_66 rfl)
    rw [if_neg hb6] at h
    by_cases hb10 : x2 = 3
    · rw [if_pos hb10] at h
      refine vr_tableIn (pc := 11) hc _ 67 dX9_man_11 (by rw [hb10]; decide) (by rw [hb10]; decide) (off := 56) (by rw [hb10]; decide) (by decide) ?_
      refine vr_aload_n (pc := 67) hc dX9_man_67 rfl ?_
      refine vr_getR (pc := 68) hc dX9_man_68 fl_X9_7 gc_108 (gr_9_0 gc_108).1 ?_
      refine vr_bipush (pc := 71) hc dX9_man_71 (8 : Int32) (by decide) ?_
      refine vr_iload_n (pc := 73) hc dX9_man_73 rfl ?_
      refine vr_iadd (pc := 74) hc dX9_man_74 ?_
      have hb11 := vz_ifp h
      rw [if_pos hb11] at h
      refine vr_iald (pc := 75) hc 305 dX9_man_75 ((gr_9_0 gc_108).2.1) ((gr_9_0 gc_108).2.2) (vz_in_vp hb11) ?_
      obtain rfl := Option.some.inj h
      exact hret _ _ (vz_ret_i dX9_man_76 rfl)
    rw [if_neg hb10] at h
    by_cases hb12 : x2 = 4
    · rw [if_pos hb12] at h
      refine vr_tableIn (pc := 11) hc _ 77 dX9_man_11 (by rw [hb12]; decide) (by rw [hb12]; decide) (off := 66) (by rw [hb12]; decide) (by decide) ?_
      refine vr_bipush (pc := 77) hc dX9_man_77 (60 : Int32) (by decide) ?_
      refine vr_aload_n (pc := 79) hc dX9_man_79 rfl ?_
      refine vr_iconst (pc := 80) hc dX9_man_80 (0 : Int32) (by decide) ?_
      refine vr_iload_n (pc := 81) hc dX9_man_81 rfl ?_
      obtain ⟨v14, he13, h⟩ := vz_b1e h
      refine vr_cVi (pc := 82) hc dX9_man_82 mt_X9_paceOn ml_X9_169 gc_108 (w_X9_paceOn z μ.2.1 (0 : Int32) x1 σ he13) rfl (by decide) rfl (Nat.le_of_ble_eq_true rfl) ?_
      have hb16 : ¬ v14 = 0 := vz_if0 h
      rw [if_neg hb16] at h
      refine vr_idiv (pc := 85) hc dX9_man_85 hb16 ?_
      obtain rfl := Option.some.inj h
      exact hret _ _ (vz_ret_i dX9_man_86 rfl)
    rw [if_neg hb12] at h
    refine vr_tableOut (pc := 11) hc 87 dX9_man_11 (by have e0 := lv_neT hb2 (show (0 : Int32).toInt = 0 by decide); have e1 := lv_neT hb4 (show (1 : Int32).toInt = 1 by decide); have e2 := lv_neT hb6 (show (2 : Int32).toInt = 2 by decide); have e3 := lv_neT hb10 (show (3 : Int32).toInt = 3 by decide); have e4 := lv_neT hb12 (show (4 : Int32).toInt = 4 by decide); omega) (by decide) ?_
    refine vr_iconst (pc := 87) hc dX9_man_87 (-1 : Int32) (by decide) ?_
    obtain rfl := Option.some.inj h
    exact hret _ _ (vz_ret_i dX9_man_88 rfl)
  · rw [if_pos hb1] at h
    refine vr_iconst (pc := 8) hc dX9_man_8 (-1 : Int32) (by decide) ?_
    obtain rfl := Option.some.inj h
    exact hret _ _ (vz_ret_i dX9_man_9 rfl)
-- X9_isPlace: depth 2, effects S=True W=False P=True
def f_X9_isPlace (x1 : Int32) (x2 : Int32) (σ : vz_I) : Option Int32 := if (f_X9_isMan x1 σ) = 0 then some (0 : Int32) else if vz_in ((8 : Int32) + x1) 305 then if (f_X9_in x2.toInt64 (0 : Int64) (((σ 109 ((8 : Int32) + x1).toNatClampNeg) - (1 : Int32)).toInt64)) = 0 then some (0 : Int32) else some (1 : Int32) else none
set_option maxRecDepth 20000 in
set_option maxHeartbeats 1000000 in
theorem w_X9_isPlace (z : vz_Z) (l : Launch) (x1 : Int32) (x2 : Int32) (σ : vz_I)  {r : Int32} (h : f_X9_isPlace x1 x2 σ = some r) : vz_Con z l 2 yX9_isPlace cX9_isPlace 3 (some .boolean) [.ref 108, .int x1, .int x2] vz_G0 σ vz_N0 (some (.int r)) vz_G0 σ vz_N0 0 0 := by
  refine vz_con (by decide) (Nat.le_of_ble_eq_true rfl) (fun μ hc hl hcap hret => ?_)
  subst hl
  unfold f_X9_isPlace at h
  refine vr_aload_n (pc := 0) hc dX9_isPlace_0 rfl ?_
  refine vr_iload_n (pc := 1) hc dX9_isPlace_1 rfl ?_
  refine vr_cVi (pc := 2) hc dX9_isPlace_2 mt_X9_isMan ml_X9_198 gc_108 (w_X9_isMan z μ.2.1 x1 σ rfl) rfl (by decide) rfl (Nat.le_of_ble_eq_true rfl) ?_
  refine vr_if_eq (pc := 5) hc 33 dX9_isPlace_5 (by decide) (fun hb1 => ?_) (fun hb1 => ?_)
  · rw [if_pos hb1] at h
    refine vr_iconst (pc := 33) hc dX9_isPlace_33 (0 : Int32) (by decide) ?_
    obtain rfl := Option.some.inj h
    exact hret _ _ (vz_ret_i dX9_isPlace_34 (by decide))
  · rw [if_neg hb1] at h
    refine vr_iload_n (pc := 8) hc dX9_isPlace_8 rfl ?_
    refine vr_i2l (pc := 9) hc dX9_isPlace_9 ?_
    refine vr_lconst (pc := 10) hc dX9_isPlace_10 (0 : Int64) (by decide) ?_
    refine vr_aload_n (pc := 11) hc dX9_isPlace_11 rfl ?_
    refine vr_getR (pc := 12) hc dX9_isPlace_12 fl_X9_7 gc_108 (gr_9_0 gc_108).1 ?_
    refine vr_bipush (pc := 15) hc dX9_isPlace_15 (8 : Int32) (by decide) ?_
    refine vr_iload_n (pc := 17) hc dX9_isPlace_17 rfl ?_
    refine vr_iadd (pc := 18) hc dX9_isPlace_18 ?_
    have hb2 := vz_ifp h
    rw [if_pos hb2] at h
    refine vr_iald (pc := 19) hc 305 dX9_isPlace_19 ((gr_9_0 gc_108).2.1) ((gr_9_0 gc_108).2.2) (vz_in_vp hb2) ?_
    refine vr_iconst (pc := 20) hc dX9_isPlace_20 (1 : Int32) (by decide) ?_
    refine vr_isub (pc := 21) hc dX9_isPlace_21 ?_
    refine vr_i2l (pc := 22) hc dX9_isPlace_22 ?_
    refine vr_cSi (pc := 23) hc dX9_isPlace_23 mt_X9_in sx_X9_in ml_X9_55  (w_X9_in z μ.2.1 x2.toInt64 (0 : Int64) (((σ 109 ((8 : Int32) + x1).toNatClampNeg) - (1 : Int32)).toInt64) σ rfl) rfl (by decide) rfl (Nat.le_of_ble_eq_true rfl) ?_
    refine vr_if_eq (pc := 26) hc 33 dX9_isPlace_26 (by decide) (fun hb3 => ?_) (fun hb3 => ?_)
    · rw [if_pos hb3] at h
      refine vr_iconst (pc := 33) hc dX9_isPlace_33 (0 : Int32) (by decide) ?_
      obtain rfl := Option.some.inj h
      exact hret _ _ (vz_ret_i dX9_isPlace_34 (by decide))
    · rw [if_neg hb3] at h
      refine vr_iconst (pc := 29) hc dX9_isPlace_29 (1 : Int32) (by decide) ?_
      refine vr_goto (pc := 30) hc 34 dX9_isPlace_30 (by decide) ?_
      obtain rfl := Option.some.inj h
      exact hret _ _ (vz_ret_i dX9_isPlace_34 (by decide))
-- X9_reader: depth 2, effects S=True W=False P=True
def f_X9_reader (x1 : Int32) (x2 : Int32) (σ : vz_I) : Option Int32 := if (f_X9_isReader x1 σ) = 0 then some (-1 : Int32) else if (f_X9_in x2.toInt64 (0 : Int64) (2 : Int64)) = 0 then some (-1 : Int32) else if vz_in (((28 : Int32) + ((4 : Int32) * x2)) + x1) 305 then some (σ 109 (((28 : Int32) + ((4 : Int32) * x2)) + x1).toNatClampNeg) else none
set_option maxRecDepth 20000 in
set_option maxHeartbeats 1000000 in
theorem w_X9_reader (z : vz_Z) (l : Launch) (x1 : Int32) (x2 : Int32) (σ : vz_I)  {r : Int32} (h : f_X9_reader x1 x2 σ = some r) : vz_Con z l 2 yX9_reader cX9_reader 3 (some .int) [.ref 108, .int x1, .int x2] vz_G0 σ vz_N0 (some (.int r)) vz_G0 σ vz_N0 0 0 := by
  refine vz_con (by decide) (Nat.le_of_ble_eq_true rfl) (fun μ hc hl hcap hret => ?_)
  subst hl
  unfold f_X9_reader at h
  refine vr_aload_n (pc := 0) hc dX9_reader_0 rfl ?_
  refine vr_iload_n (pc := 1) hc dX9_reader_1 rfl ?_
  refine vr_cVi (pc := 2) hc dX9_reader_2 mt_X9_isReader ml_X9_204 gc_108 (w_X9_isReader z μ.2.1 x1 σ rfl) rfl (by decide) rfl (Nat.le_of_ble_eq_true rfl) ?_
  refine vr_if_eq (pc := 5) hc 36 dX9_reader_5 (by decide) (fun hb1 => ?_) (fun hb1 => ?_)
  · rw [if_pos hb1] at h
    refine vr_iconst (pc := 36) hc dX9_reader_36 (-1 : Int32) (by decide) ?_
    obtain rfl := Option.some.inj h
    exact hret _ _ (vz_ret_i dX9_reader_37 rfl)
  · rw [if_neg hb1] at h
    refine vr_iload_n (pc := 8) hc dX9_reader_8 rfl ?_
    refine vr_i2l (pc := 9) hc dX9_reader_9 ?_
    refine vr_lconst (pc := 10) hc dX9_reader_10 (0 : Int64) (by decide) ?_
    refine vr_ldc2 (pc := 11) hc dX9_reader_11 (2 : Int64) cl_X9_207 ?_
    refine vr_cSi (pc := 14) hc dX9_reader_14 mt_X9_in sx_X9_in ml_X9_55  (w_X9_in z μ.2.1 x2.toInt64 (0 : Int64) (2 : Int64) σ rfl) rfl (by decide) rfl (Nat.le_of_ble_eq_true rfl) ?_
    refine vr_if_eq (pc := 17) hc 36 dX9_reader_17 (by decide) (fun hb2 => ?_) (fun hb2 => ?_)
    · rw [if_pos hb2] at h
      refine vr_iconst (pc := 36) hc dX9_reader_36 (-1 : Int32) (by decide) ?_
      obtain rfl := Option.some.inj h
      exact hret _ _ (vz_ret_i dX9_reader_37 rfl)
    · rw [if_neg hb2] at h
      refine vr_aload_n (pc := 20) hc dX9_reader_20 rfl ?_
      refine vr_getR (pc := 21) hc dX9_reader_21 fl_X9_7 gc_108 (gr_9_0 gc_108).1 ?_
      refine vr_bipush (pc := 24) hc dX9_reader_24 (28 : Int32) (by decide) ?_
      refine vr_iconst (pc := 26) hc dX9_reader_26 (4 : Int32) (by decide) ?_
      refine vr_iload_n (pc := 27) hc dX9_reader_27 rfl ?_
      refine vr_imul (pc := 28) hc dX9_reader_28 ?_
      refine vr_iadd (pc := 29) hc dX9_reader_29 ?_
      refine vr_iload_n (pc := 30) hc dX9_reader_30 rfl ?_
      refine vr_iadd (pc := 31) hc dX9_reader_31 ?_
      have hb3 := vz_ifp h
      rw [if_pos hb3] at h
      refine vr_iald (pc := 32) hc 305 dX9_reader_32 ((gr_9_0 gc_108).2.1) ((gr_9_0 gc_108).2.2) (vz_in_vp hb3) ?_
      refine vr_goto (pc := 33) hc 37 dX9_reader_33 (by decide) ?_
      obtain rfl := Option.some.inj h
      exact hret _ _ (vz_ret_i dX9_reader_37 rfl)
-- X9_alter: depth 2, effects S=True W=True P=True
def f_X9_alter (x1 : Int32) (x2 : Int32) (x3 : Int32) (σ : vz_I) : Option (Int32 × vz_I) := if (f_X9_isMan x1 σ) = 0 then vz_b2 (f_X9_puts (0 : Int32) (((4 : Int32) * x2) + x1) x3 σ) (fun v3 σ4 => some (v3, σ4)) else if (f_X9_in x2.toInt64 (0 : Int64) (1 : Int64)) = 0 then vz_b2 (f_X9_puts (0 : Int32) (((4 : Int32) * x2) + x1) x3 σ) (fun v7 σ8 => some (v7, σ8)) else if x2 = 0 then if (f_X9_in x3.toInt64 (0 : Int64) (3 : Int64)) = 0 then vz_b2 (f_X9_puts (0 : Int32) (((4 : Int32) * x2) + x1) x3 σ) (fun v19 σ20 => some (v19, σ20)) else vz_b2 (f_X9_puts (1 : Int32) (((4 : Int32) * x2) + x1) x3 σ) (fun v22 σ23 => some (v22, σ23)) else if (f_X9_in x3.toInt64 (0 : Int64) (9 : Int64)) = 0 then vz_b2 (f_X9_puts (0 : Int32) (((4 : Int32) * x2) + x1) x3 σ) (fun v12 σ13 => some (v12, σ13)) else vz_b2 (f_X9_puts (1 : Int32) (((4 : Int32) * x2) + x1) x3 σ) (fun v15 σ16 => some (v15, σ16))
set_option maxRecDepth 20000 in
set_option maxHeartbeats 1000000 in
theorem w_X9_alter (z : vz_Z) (l : Launch) (x1 : Int32) (x2 : Int32) (x3 : Int32) (σ : vz_I)  {r : Int32} {σ' : vz_I} (h : f_X9_alter x1 x2 x3 σ = some (r, σ')) : vz_Con z l 2 yX9_alter cX9_alter 4 (some .int) [.ref 108, .int x1, .int x2, .int x3] vz_G0 σ vz_N0 (some (.int r)) vz_G0 σ' vz_N0 0 0 := by
  refine vz_con (by decide) (Nat.le_of_ble_eq_true rfl) (fun μ hc hl hcap hret => ?_)
  subst hl
  unfold f_X9_alter at h
  refine vr_aload_n (pc := 0) hc dX9_alter_0 rfl ?_
  refine vr_aload_n (pc := 1) hc dX9_alter_1 rfl ?_
  refine vr_iload_n (pc := 2) hc dX9_alter_2 rfl ?_
  refine vr_cVi (pc := 3) hc dX9_alter_3 mt_X9_isMan ml_X9_198 gc_108 (w_X9_isMan z μ.2.1 x1 σ rfl) rfl (by decide) rfl (Nat.le_of_ble_eq_true rfl) ?_
  refine vr_if_eq (pc := 6) hc 45 dX9_alter_6 (by decide) (fun hb1 => ?_) (fun hb1 => ?_)
  · rw [if_pos hb1] at h
    refine vr_iconst (pc := 45) hc dX9_alter_45 (0 : Int32) (by decide) ?_
    refine vr_iconst (pc := 46) hc dX9_alter_46 (4 : Int32) (by decide) ?_
    refine vr_iload_n (pc := 47) hc dX9_alter_47 rfl ?_
    refine vr_imul (pc := 48) hc dX9_alter_48 ?_
    refine vr_iload_n (pc := 49) hc dX9_alter_49 rfl ?_
    refine vr_iadd (pc := 50) hc dX9_alter_50 ?_
    refine vr_iload_n (pc := 51) hc dX9_alter_51 rfl ?_
    obtain ⟨v3, σ4, he2, h⟩ := vz_b2e h
    refine vr_cVi (pc := 52) hc dX9_alter_52 mt_X9_puts ml_X9_211 gc_108 (w_X9_puts z μ.2.1 (0 : Int32) (((4 : Int32) * x2) + x1) x3 σ he2) rfl (by decide) rfl (Nat.le_of_ble_eq_true rfl) ?_
    obtain ⟨rfl, rfl⟩ := vz_in2 h
    exact hret _ _ (vz_ret_i dX9_alter_55 rfl)
  · rw [if_neg hb1] at h
    refine vr_iload_n (pc := 9) hc dX9_alter_9 rfl ?_
    refine vr_i2l (pc := 10) hc dX9_alter_10 ?_
    refine vr_lconst (pc := 11) hc dX9_alter_11 (0 : Int64) (by decide) ?_
    refine vr_lconst (pc := 12) hc dX9_alter_12 (1 : Int64) (by decide) ?_
    refine vr_cSi (pc := 13) hc dX9_alter_13 mt_X9_in sx_X9_in ml_X9_55  (w_X9_in z μ.2.1 x2.toInt64 (0 : Int64) (1 : Int64) σ rfl) rfl (by decide) rfl (Nat.le_of_ble_eq_true rfl) ?_
    refine vr_if_eq (pc := 16) hc 45 dX9_alter_16 (by decide) (fun hb5 => ?_) (fun hb5 => ?_)
    · rw [if_pos hb5] at h
      refine vr_iconst (pc := 45) hc dX9_alter_45 (0 : Int32) (by decide) ?_
      refine vr_iconst (pc := 46) hc dX9_alter_46 (4 : Int32) (by decide) ?_
      refine vr_iload_n (pc := 47) hc dX9_alter_47 rfl ?_
      refine vr_imul (pc := 48) hc dX9_alter_48 ?_
      refine vr_iload_n (pc := 49) hc dX9_alter_49 rfl ?_
      refine vr_iadd (pc := 50) hc dX9_alter_50 ?_
      refine vr_iload_n (pc := 51) hc dX9_alter_51 rfl ?_
      obtain ⟨v7, σ8, he6, h⟩ := vz_b2e h
      refine vr_cVi (pc := 52) hc dX9_alter_52 mt_X9_puts ml_X9_211 gc_108 (w_X9_puts z μ.2.1 (0 : Int32) (((4 : Int32) * x2) + x1) x3 σ he6) rfl (by decide) rfl (Nat.le_of_ble_eq_true rfl) ?_
      obtain ⟨rfl, rfl⟩ := vz_in2 h
      exact hret _ _ (vz_ret_i dX9_alter_55 rfl)
    · rw [if_neg hb5] at h
      refine vr_iload_n (pc := 19) hc dX9_alter_19 rfl ?_
      refine vr_i2l (pc := 20) hc dX9_alter_20 ?_
      refine vr_lconst (pc := 21) hc dX9_alter_21 (0 : Int64) (by decide) ?_
      refine vr_iload_n (pc := 22) hc dX9_alter_22 rfl ?_
      refine vr_if_ne (pc := 23) hc 32 dX9_alter_23 (by decide) (fun hb9 => ?_) (fun hb9 => ?_)
      · rw [if_neg hb9] at h
        refine vr_ldc2 (pc := 32) hc dX9_alter_32 (9 : Int64) cl_X9_163 ?_
        refine vr_cSi (pc := 35) hc dX9_alter_35 mt_X9_in sx_X9_in ml_X9_55  (w_X9_in z μ.2.1 x3.toInt64 (0 : Int64) (9 : Int64) σ rfl) rfl (by decide) rfl (Nat.le_of_ble_eq_true rfl) ?_
        refine vr_if_eq (pc := 38) hc 45 dX9_alter_38 (by decide) (fun hb10 => ?_) (fun hb10 => ?_)
        · rw [if_pos hb10] at h
          refine vr_iconst (pc := 45) hc dX9_alter_45 (0 : Int32) (by decide) ?_
          refine vr_iconst (pc := 46) hc dX9_alter_46 (4 : Int32) (by decide) ?_
          refine vr_iload_n (pc := 47) hc dX9_alter_47 rfl ?_
          refine vr_imul (pc := 48) hc dX9_alter_48 ?_
          refine vr_iload_n (pc := 49) hc dX9_alter_49 rfl ?_
          refine vr_iadd (pc := 50) hc dX9_alter_50 ?_
          refine vr_iload_n (pc := 51) hc dX9_alter_51 rfl ?_
          obtain ⟨v12, σ13, he11, h⟩ := vz_b2e h
          refine vr_cVi (pc := 52) hc dX9_alter_52 mt_X9_puts ml_X9_211 gc_108 (w_X9_puts z μ.2.1 (0 : Int32) (((4 : Int32) * x2) + x1) x3 σ he11) rfl (by decide) rfl (Nat.le_of_ble_eq_true rfl) ?_
          obtain ⟨rfl, rfl⟩ := vz_in2 h
          exact hret _ _ (vz_ret_i dX9_alter_55 rfl)
        · rw [if_neg hb10] at h
          refine vr_iconst (pc := 41) hc dX9_alter_41 (1 : Int32) (by decide) ?_
          refine vr_goto (pc := 42) hc 46 dX9_alter_42 (by decide) ?_
          refine vr_iconst (pc := 46) hc dX9_alter_46 (4 : Int32) (by decide) ?_
          refine vr_iload_n (pc := 47) hc dX9_alter_47 rfl ?_
          refine vr_imul (pc := 48) hc dX9_alter_48 ?_
          refine vr_iload_n (pc := 49) hc dX9_alter_49 rfl ?_
          refine vr_iadd (pc := 50) hc dX9_alter_50 ?_
          refine vr_iload_n (pc := 51) hc dX9_alter_51 rfl ?_
          obtain ⟨v15, σ16, he14, h⟩ := vz_b2e h
          refine vr_cVi (pc := 52) hc dX9_alter_52 mt_X9_puts ml_X9_211 gc_108 (w_X9_puts z μ.2.1 (1 : Int32) (((4 : Int32) * x2) + x1) x3 σ he14) rfl (by decide) rfl (Nat.le_of_ble_eq_true rfl) ?_
          obtain ⟨rfl, rfl⟩ := vz_in2 h
          exact hret _ _ (vz_ret_i dX9_alter_55 rfl)
      · rw [if_pos hb9] at h
        refine vr_ldc2 (pc := 26) hc dX9_alter_26 (3 : Int64) cl_X9_209 ?_
        refine vr_goto (pc := 29) hc 35 dX9_alter_29 (by decide) ?_
        refine vr_cSi (pc := 35) hc dX9_alter_35 mt_X9_in sx_X9_in ml_X9_55  (w_X9_in z μ.2.1 x3.toInt64 (0 : Int64) (3 : Int64) σ rfl) rfl (by decide) rfl (Nat.le_of_ble_eq_true rfl) ?_
        refine vr_if_eq (pc := 38) hc 45 dX9_alter_38 (by decide) (fun hb17 => ?_) (fun hb17 => ?_)
        · rw [if_pos hb17] at h
          refine vr_iconst (pc := 45) hc dX9_alter_45 (0 : Int32) (by decide) ?_
          refine vr_iconst (pc := 46) hc dX9_alter_46 (4 : Int32) (by decide) ?_
          refine vr_iload_n (pc := 47) hc dX9_alter_47 rfl ?_
          refine vr_imul (pc := 48) hc dX9_alter_48 ?_
          refine vr_iload_n (pc := 49) hc dX9_alter_49 rfl ?_
          refine vr_iadd (pc := 50) hc dX9_alter_50 ?_
          refine vr_iload_n (pc := 51) hc dX9_alter_51 rfl ?_
          obtain ⟨v19, σ20, he18, h⟩ := vz_b2e h
          refine vr_cVi (pc := 52) hc dX9_alter_52 mt_X9_puts ml_X9_211 gc_108 (w_X9_puts z μ.2.1 (0 : Int32) (((4 : Int32) * x2) + x1) x3 σ he18) rfl (by decide) rfl (Nat.le_of_ble_eq_true rfl) ?_
          obtain ⟨rfl, rfl⟩ := vz_in2 h
          exact hret _ _ (vz_ret_i dX9_alter_55 rfl)
        · rw [if_neg hb17] at h
          refine vr_iconst (pc := 41) hc dX9_alter_41 (1 : Int32) (by decide) ?_
          refine vr_goto (pc := 42) hc 46 dX9_alter_42 (by decide) ?_
          refine vr_iconst (pc := 46) hc dX9_alter_46 (4 : Int32) (by decide) ?_
          refine vr_iload_n (pc := 47) hc dX9_alter_47 rfl ?_
          refine vr_imul (pc := 48) hc dX9_alter_48 ?_
          refine vr_iload_n (pc := 49) hc dX9_alter_49 rfl ?_
          refine vr_iadd (pc := 50) hc dX9_alter_50 ?_
          refine vr_iload_n (pc := 51) hc dX9_alter_51 rfl ?_
          obtain ⟨v22, σ23, he21, h⟩ := vz_b2e h
          refine vr_cVi (pc := 52) hc dX9_alter_52 mt_X9_puts ml_X9_211 gc_108 (w_X9_puts z μ.2.1 (1 : Int32) (((4 : Int32) * x2) + x1) x3 σ he21) rfl (by decide) rfl (Nat.le_of_ble_eq_true rfl) ?_
          obtain ⟨rfl, rfl⟩ := vz_in2 h
          exact hret _ _ (vz_ret_i dX9_alter_55 rfl)
-- X9_stands: depth 2, effects S=True W=True P=True
def f_X9_stands_82 (x1 : Int32) (x2 : Int32) (x3 : Int32) (σ : vz_I) : Option (Int32 × vz_I) := vz_b2 (f_X9_puts (1 : Int32) (((28 : Int32) + ((4 : Int32) * x2)) + x1) x3 σ) (fun v8 σ9 => some (v8, σ9))
set_option maxRecDepth 20000 in
set_option maxHeartbeats 1000000 in
theorem wn_X9_stands_82 (z : vz_Z) (μ : vz_M) (hc : vz_C z μ cX9_stands RX9 2 5) {r : Int32} {σ' : vz_I} (hret : ∀ (pc : Nat) (L : vz_L), vz_ret cX9_stands (some .int) pc (some (.int r)) → vz_V z μ 0 0 pc L ((some (.int r)) : Option Value).toList vz_G0 σ' vz_N0) (x1 : Int32) (x2 : Int32) (x3 : Int32) (σ : vz_I)  (h : f_X9_stands_82  x1 x2 x3 σ = some (r, σ')) : vz_V z μ 0 0 82 [(0, some (.ref 108)), (1, some (.int x1)), (2, some (.int x2)), (3, some (.int x3))] [] vz_G0 σ vz_N0 := by
  unfold f_X9_stands_82 at h
  refine vr_aload_n (pc := 82) hc dX9_stands_82 rfl ?_
  refine vr_iconst (pc := 83) hc dX9_stands_83 (1 : Int32) (by decide) ?_
  refine vr_bipush (pc := 84) hc dX9_stands_84 (28 : Int32) (by decide) ?_
  refine vr_iconst (pc := 86) hc dX9_stands_86 (4 : Int32) (by decide) ?_
  refine vr_iload_n (pc := 87) hc dX9_stands_87 rfl ?_
  refine vr_imul (pc := 88) hc dX9_stands_88 ?_
  refine vr_iadd (pc := 89) hc dX9_stands_89 ?_
  refine vr_iload_n (pc := 90) hc dX9_stands_90 rfl ?_
  refine vr_iadd (pc := 91) hc dX9_stands_91 ?_
  refine vr_iload_n (pc := 92) hc dX9_stands_92 rfl ?_
  obtain ⟨v8, σ9, he7, h⟩ := vz_b2e h
  refine vr_cVi (pc := 93) hc dX9_stands_93 mt_X9_puts ml_X9_211 gc_108 (w_X9_puts z μ.2.1 (1 : Int32) (((28 : Int32) + ((4 : Int32) * x2)) + x1) x3 σ he7) rfl (by decide) rfl (Nat.le_of_ble_eq_true rfl) ?_
  obtain ⟨rfl, rfl⟩ := vz_in2 h
  exact hret _ _ (vz_ret_i dX9_stands_96 rfl)
def f_X9_stands_62 (x1 : Int32) (x2 : Int32) (x3 : Int32) (σ : vz_I) : Option (Int32 × vz_I) := if x2 = (2 : Int32) then if vz_in ((32 : Int32) + x1) 305 then if (σ 109 ((32 : Int32) + x1).toNatClampNeg) ≤ x3 then f_X9_stands_82 x1 x2 x3 σ else some ((-1 : Int32), σ) else none else f_X9_stands_82 x1 x2 x3 σ
set_option maxRecDepth 20000 in
set_option maxHeartbeats 1000000 in
theorem wn_X9_stands_62 (z : vz_Z) (μ : vz_M) (hc : vz_C z μ cX9_stands RX9 2 5) {r : Int32} {σ' : vz_I} (hret : ∀ (pc : Nat) (L : vz_L), vz_ret cX9_stands (some .int) pc (some (.int r)) → vz_V z μ 0 0 pc L ((some (.int r)) : Option Value).toList vz_G0 σ' vz_N0) (x1 : Int32) (x2 : Int32) (x3 : Int32) (σ : vz_I)  (h : f_X9_stands_62  x1 x2 x3 σ = some (r, σ')) : vz_V z μ 0 0 62 [(0, some (.ref 108)), (1, some (.int x1)), (2, some (.int x2)), (3, some (.int x3))] [] vz_G0 σ vz_N0 := by
  unfold f_X9_stands_62 at h
  refine vr_iload_n (pc := 62) hc dX9_stands_62 rfl ?_
  refine vr_iconst (pc := 63) hc dX9_stands_63 (2 : Int32) (by decide) ?_
  refine vr_icmp_ne (pc := 64) hc 82 dX9_stands_64 (by decide) (fun hb6 => ?_) (fun hb6 => ?_)
  · rw [if_neg hb6] at h
    exact vz_sub (wn_X9_stands_82 z μ hc hret x1 x2 x3 σ h) (vz_sb1 rfl (vz_sb1 rfl (vz_sb1 rfl (vz_sb1 rfl vz_sb0))))
  · rw [if_pos hb6] at h
    refine vr_iload_n (pc := 67) hc dX9_stands_67 rfl ?_
    refine vr_aload_n (pc := 68) hc dX9_stands_68 rfl ?_
    refine vr_getR (pc := 69) hc dX9_stands_69 fl_X9_7 gc_108 (gr_9_0 gc_108).1 ?_
    refine vr_bipush (pc := 72) hc dX9_stands_72 (32 : Int32) (by decide) ?_
    refine vr_iload_n (pc := 74) hc dX9_stands_74 rfl ?_
    refine vr_iadd (pc := 75) hc dX9_stands_75 ?_
    have hb10 := vz_ifp h
    rw [if_pos hb10] at h
    refine vr_iald (pc := 76) hc 305 dX9_stands_76 ((gr_9_0 gc_108).2.1) ((gr_9_0 gc_108).2.2) (vz_in_vp hb10) ?_
    refine vr_icmp_ge (pc := 77) hc 82 dX9_stands_77 (by decide) (fun hb11 => ?_) (fun hb11 => ?_)
    · rw [if_pos hb11] at h
      exact vz_sub (wn_X9_stands_82 z μ hc hret x1 x2 x3 σ h) (vz_sb1 rfl (vz_sb1 rfl (vz_sb1 rfl (vz_sb1 rfl vz_sb0))))
    · rw [if_neg hb11] at h
      refine vr_iconst (pc := 80) hc dX9_stands_80 (-1 : Int32) (by decide) ?_
      obtain ⟨rfl, rfl⟩ := vz_in2 h
      exact hret _ _ (vz_ret_i dX9_stands_81 rfl)
def f_X9_stands_15 (x1 : Int32) (x2 : Int32) (x3 : Int32) (xs0 : Int32) (σ : vz_I) : Option (Int32 × vz_I) := if (f_X9_isReader x1 σ) = 0 then some ((-1 : Int32), σ) else if (f_X9_in x2.toInt64 (0 : Int64) (2 : Int64)) = 0 then some ((-1 : Int32), σ) else if xs0 = 0 then some ((-1 : Int32), σ) else if x2 = (1 : Int32) then if vz_in ((36 : Int32) + x1) 305 then if (σ 109 ((36 : Int32) + x1).toNatClampNeg) < x3 then some ((-1 : Int32), σ) else f_X9_stands_62 x1 x2 x3 σ else none else f_X9_stands_62 x1 x2 x3 σ
set_option maxRecDepth 20000 in
set_option maxHeartbeats 1000000 in
theorem wn_X9_stands_15 (z : vz_Z) (μ : vz_M) (hc : vz_C z μ cX9_stands RX9 2 5) {r : Int32} {σ' : vz_I} (hret : ∀ (pc : Nat) (L : vz_L), vz_ret cX9_stands (some .int) pc (some (.int r)) → vz_V z μ 0 0 pc L ((some (.int r)) : Option Value).toList vz_G0 σ' vz_N0) (x1 : Int32) (x2 : Int32) (x3 : Int32) (xs0 : Int32) (σ : vz_I)  (h : f_X9_stands_15  x1 x2 x3 xs0 σ = some (r, σ')) : vz_V z μ 0 0 15 [(0, some (.ref 108)), (1, some (.int x1)), (2, some (.int x2)), (3, some (.int x3))] [.int xs0] vz_G0 σ vz_N0 := by
  unfold f_X9_stands_15 at h
  refine vr_istore (pc := 15) hc dX9_stands_15 (by decide) rfl ?_
  refine vr_aload_n (pc := 17) hc dX9_stands_17 rfl ?_
  refine vr_iload_n (pc := 18) hc dX9_stands_18 rfl ?_
  refine vr_cVi (pc := 19) hc dX9_stands_19 mt_X9_isReader ml_X9_204 gc_108 (w_X9_isReader z μ.2.1 x1 σ rfl) rfl (by decide) rfl (Nat.le_of_ble_eq_true rfl) ?_
  refine vr_if_eq (pc := 22) hc 42 dX9_stands_22 (by decide) (fun hb2 => ?_) (fun hb2 => ?_)
  · rw [if_pos hb2] at h
    refine vr_iconst (pc := 42) hc dX9_stands_42 (-1 : Int32) (by decide) ?_
    obtain ⟨rfl, rfl⟩ := vz_in2 h
    exact hret _ _ (vz_ret_i dX9_stands_43 rfl)
  · rw [if_neg hb2] at h
    refine vr_iload_n (pc := 25) hc dX9_stands_25 rfl ?_
    refine vr_i2l (pc := 26) hc dX9_stands_26 ?_
    refine vr_lconst (pc := 27) hc dX9_stands_27 (0 : Int64) (by decide) ?_
    refine vr_ldc2 (pc := 28) hc dX9_stands_28 (2 : Int64) cl_X9_207 ?_
    refine vr_cSi (pc := 31) hc dX9_stands_31 mt_X9_in sx_X9_in ml_X9_55  (w_X9_in z μ.2.1 x2.toInt64 (0 : Int64) (2 : Int64) σ rfl) rfl (by decide) rfl (Nat.le_of_ble_eq_true rfl) ?_
    refine vr_if_eq (pc := 34) hc 42 dX9_stands_34 (by decide) (fun hb3 => ?_) (fun hb3 => ?_)
    · rw [if_pos hb3] at h
      refine vr_iconst (pc := 42) hc dX9_stands_42 (-1 : Int32) (by decide) ?_
      obtain ⟨rfl, rfl⟩ := vz_in2 h
      exact hret _ _ (vz_ret_i dX9_stands_43 rfl)
    · rw [if_neg hb3] at h
      refine vr_iload (pc := 37) hc dX9_stands_37 rfl ?_
      refine vr_if_ne (pc := 39) hc 44 dX9_stands_39 (by decide) (fun hb4 => ?_) (fun hb4 => ?_)
      · rw [if_neg hb4] at h
        refine vr_iload_n (pc := 44) hc dX9_stands_44 rfl ?_
        refine vr_iconst (pc := 45) hc dX9_stands_45 (1 : Int32) (by decide) ?_
        refine vr_icmp_ne (pc := 46) hc 62 dX9_stands_46 (by decide) (fun hb5 => ?_) (fun hb5 => ?_)
        · rw [if_neg hb5] at h
          exact vz_sub (wn_X9_stands_62 z μ hc hret x1 x2 x3 σ h) (vz_sb1 rfl (vz_sb1 rfl (vz_sb1 rfl (vz_sb1 rfl vz_sb0))))
        · rw [if_pos hb5] at h
          refine vr_iload_n (pc := 49) hc dX9_stands_49 rfl ?_
          refine vr_aload_n (pc := 50) hc dX9_stands_50 rfl ?_
          refine vr_getR (pc := 51) hc dX9_stands_51 fl_X9_7 gc_108 (gr_9_0 gc_108).1 ?_
          refine vr_bipush (pc := 54) hc dX9_stands_54 (36 : Int32) (by decide) ?_
          refine vr_iload_n (pc := 56) hc dX9_stands_56 rfl ?_
          refine vr_iadd (pc := 57) hc dX9_stands_57 ?_
          have hb12 := vz_ifp h
          rw [if_pos hb12] at h
          refine vr_iald (pc := 58) hc 305 dX9_stands_58 ((gr_9_0 gc_108).2.1) ((gr_9_0 gc_108).2.2) (vz_in_vp hb12) ?_
          refine vr_icmp_gt (pc := 59) hc 80 dX9_stands_59 (by decide) (fun hb13 => ?_) (fun hb13 => ?_)
          · rw [if_pos hb13] at h
            refine vr_iconst (pc := 80) hc dX9_stands_80 (-1 : Int32) (by decide) ?_
            obtain ⟨rfl, rfl⟩ := vz_in2 h
            exact hret _ _ (vz_ret_i dX9_stands_81 rfl)
          · rw [if_neg hb13] at h
            exact vz_sub (wn_X9_stands_62 z μ hc hret x1 x2 x3 σ h) (vz_sb1 rfl (vz_sb1 rfl (vz_sb1 rfl (vz_sb1 rfl vz_sb0))))
      · rw [if_pos hb4] at h
        refine vr_iconst (pc := 42) hc dX9_stands_42 (-1 : Int32) (by decide) ?_
        obtain ⟨rfl, rfl⟩ := vz_in2 h
        exact hret _ _ (vz_ret_i dX9_stands_43 rfl)
def f_X9_stands (x1 : Int32) (x2 : Int32) (x3 : Int32) (σ : vz_I) : Option (Int32 × vz_I) := if x2 = 0 then f_X9_stands_15 x1 x2 x3 (f_X9_isCorner x3) σ else f_X9_stands_15 x1 x2 x3 (f_X9_isMinute x3) σ
set_option maxRecDepth 20000 in
set_option maxHeartbeats 1000000 in
theorem w_X9_stands (z : vz_Z) (l : Launch) (x1 : Int32) (x2 : Int32) (x3 : Int32) (σ : vz_I)  {r : Int32} {σ' : vz_I} (h : f_X9_stands x1 x2 x3 σ = some (r, σ')) : vz_Con z l 2 yX9_stands cX9_stands 5 (some .int) [.ref 108, .int x1, .int x2, .int x3] vz_G0 σ vz_N0 (some (.int r)) vz_G0 σ' vz_N0 0 0 := by
  refine vz_con (by decide) (Nat.le_of_ble_eq_true rfl) (fun μ hc hl hcap hret => ?_)
  subst hl
  unfold f_X9_stands at h
  refine vr_iload_n (pc := 0) hc dX9_stands_0 rfl ?_
  refine vr_if_ne (pc := 1) hc 11 dX9_stands_1 (by decide) (fun hb1 => ?_) (fun hb1 => ?_)
  · rw [if_neg hb1] at h
    refine vr_iload_n (pc := 11) hc dX9_stands_11 rfl ?_
    refine vr_cSi (pc := 12) hc dX9_stands_12 mt_X9_isMinute sx_X9_isMinute ml_X9_222  (w_X9_isMinute z μ.2.1 x3 σ rfl) rfl (by decide) rfl (Nat.le_of_ble_eq_true rfl) ?_
    exact vz_sub (wn_X9_stands_15 z μ hc hret x1 x2 x3 (f_X9_isMinute x3) σ h) (vz_sb1 rfl (vz_sb1 rfl (vz_sb1 rfl (vz_sb1 rfl vz_sb0))))
  · rw [if_pos hb1] at h
    refine vr_iload_n (pc := 4) hc dX9_stands_4 rfl ?_
    refine vr_cSi (pc := 5) hc dX9_stands_5 mt_X9_isCorner sx_X9_isCorner ml_X9_215  (w_X9_isCorner z μ.2.1 x3 σ rfl) rfl (by decide) rfl (Nat.le_of_ble_eq_true rfl) ?_
    refine vr_goto (pc := 8) hc 15 dX9_stands_8 (by decide) ?_
    exact vz_sub (wn_X9_stands_15 z μ hc hret x1 x2 x3 (f_X9_isCorner x3) σ h) (vz_sb1 rfl (vz_sb1 rfl (vz_sb1 rfl (vz_sb1 rfl vz_sb0))))
-- X9_rain: depth 2, effects S=True W=True P=True
def f_X9_rain (x1 : Int32) (x2 : Int32) (σ : vz_I) : Option (Int32 × vz_I) := if (f_X9_isMinute x1) = 0 then some ((-1 : Int32), σ) else if (f_X9_isMinute x2) = 0 then some ((-1 : Int32), σ) else if vz_in (41 : Int32) 305 then vz_b2 (f_X9_puts (1 : Int32) (40 : Int32) x1 (vz_up σ 109 (41 : Int32).toNatClampNeg x2)) (fun v5 σ6 => some (v5, σ6)) else none
set_option maxRecDepth 20000 in
set_option maxHeartbeats 1000000 in
theorem w_X9_rain (z : vz_Z) (l : Launch) (x1 : Int32) (x2 : Int32) (σ : vz_I)  {r : Int32} {σ' : vz_I} (h : f_X9_rain x1 x2 σ = some (r, σ')) : vz_Con z l 2 yX9_rain cX9_rain 3 (some .int) [.ref 108, .int x1, .int x2] vz_G0 σ vz_N0 (some (.int r)) vz_G0 σ' vz_N0 0 0 := by
  refine vz_con (by decide) (Nat.le_of_ble_eq_true rfl) (fun μ hc hl hcap hret => ?_)
  subst hl
  unfold f_X9_rain at h
  refine vr_iload_n (pc := 0) hc dX9_rain_0 rfl ?_
  refine vr_cSi (pc := 1) hc dX9_rain_1 mt_X9_isMinute sx_X9_isMinute ml_X9_222  (w_X9_isMinute z μ.2.1 x1 σ rfl) rfl (by decide) rfl (Nat.le_of_ble_eq_true rfl) ?_
  refine vr_if_eq (pc := 4) hc 14 dX9_rain_4 (by decide) (fun hb1 => ?_) (fun hb1 => ?_)
  · rw [if_pos hb1] at h
    refine vr_iconst (pc := 14) hc dX9_rain_14 (-1 : Int32) (by decide) ?_
    obtain ⟨rfl, rfl⟩ := vz_in2 h
    exact hret _ _ (vz_ret_i dX9_rain_15 rfl)
  · rw [if_neg hb1] at h
    refine vr_iload_n (pc := 7) hc dX9_rain_7 rfl ?_
    refine vr_cSi (pc := 8) hc dX9_rain_8 mt_X9_isMinute sx_X9_isMinute ml_X9_222  (w_X9_isMinute z μ.2.1 x2 σ rfl) rfl (by decide) rfl (Nat.le_of_ble_eq_true rfl) ?_
    refine vr_if_ne (pc := 11) hc 16 dX9_rain_11 (by decide) (fun hb2 => ?_) (fun hb2 => ?_)
    · rw [if_neg hb2] at h
      refine vr_aload_n (pc := 16) hc dX9_rain_16 rfl ?_
      refine vr_getR (pc := 17) hc dX9_rain_17 fl_X9_7 gc_108 (gr_9_0 gc_108).1 ?_
      refine vr_bipush (pc := 20) hc dX9_rain_20 (41 : Int32) (by decide) ?_
      refine vr_iload_n (pc := 22) hc dX9_rain_22 rfl ?_
      have hb3 := vz_ifp h
      rw [if_pos hb3] at h
      refine vr_iast (pc := 23) hc 305 dX9_rain_23 ((gr_9_0 gc_108).2.1) ((gr_9_0 gc_108).2.2) (vz_in_vp hb3) ?_
      refine vr_aload_n (pc := 24) hc dX9_rain_24 rfl ?_
      refine vr_iconst (pc := 25) hc dX9_rain_25 (1 : Int32) (by decide) ?_
      refine vr_bipush (pc := 26) hc dX9_rain_26 (40 : Int32) (by decide) ?_
      refine vr_iload_n (pc := 28) hc dX9_rain_28 rfl ?_
      obtain ⟨v5, σ6, he4, h⟩ := vz_b2e h
      refine vr_cVi (pc := 29) hc dX9_rain_29 mt_X9_puts ml_X9_211 gc_108 (w_X9_puts z μ.2.1 (1 : Int32) (40 : Int32) x1 (vz_up σ 109 (41 : Int32).toNatClampNeg x2) he4) rfl (by decide) rfl (Nat.le_of_ble_eq_true rfl) ?_
      obtain ⟨rfl, rfl⟩ := vz_in2 h
      exact hret _ _ (vz_ret_i dX9_rain_32 rfl)
    · rw [if_pos hb2] at h
      refine vr_iconst (pc := 14) hc dX9_rain_14 (-1 : Int32) (by decide) ?_
      obtain ⟨rfl, rfl⟩ := vz_in2 h
      exact hret _ _ (vz_ret_i dX9_rain_15 rfl)
-- X9_pave: depth 2, effects S=True W=True P=True
def f_X9_pave (x1 : Int32) (x2 : Int32) (σ : vz_I) : Option (Int32 × vz_I) := if (f_X9_isCorner x1) = 0 then some ((-1 : Int32), σ) else if (f_X9_isCorner x2) = 0 then some ((-1 : Int32), σ) else if x1 = x2 then some ((-1 : Int32), σ) else if vz_in (42 : Int32) 305 then if (σ 109 (42 : Int32).toNatClampNeg) = (9 : Int32) then some ((-3 : Int32), σ) else if vz_in ((43 : Int32) + (σ 109 (42 : Int32).toNatClampNeg)) 305 then vz_let (vz_up σ 109 ((43 : Int32) + (σ 109 (42 : Int32).toNatClampNeg)).toNatClampNeg x1) (fun σ7 => if vz_in ((52 : Int32) + (σ 109 (42 : Int32).toNatClampNeg)) 305 then vz_let (vz_up σ7 109 ((52 : Int32) + (σ 109 (42 : Int32).toNatClampNeg)).toNatClampNeg x2) (fun σ10 => if vz_in (42 : Int32) 305 then if vz_in (42 : Int32) 305 then vz_let (vz_up σ10 109 (42 : Int32).toNatClampNeg ((σ10 109 (42 : Int32).toNatClampNeg) + (1 : Int32))) (fun σ14 => if vz_in (42 : Int32) 305 then some (σ14 109 (42 : Int32).toNatClampNeg, σ14) else none) else none else none) else none) else none else none
set_option maxRecDepth 20000 in
set_option maxHeartbeats 1000000 in
theorem w_X9_pave (z : vz_Z) (l : Launch) (x1 : Int32) (x2 : Int32) (σ : vz_I)  {r : Int32} {σ' : vz_I} (h : f_X9_pave x1 x2 σ = some (r, σ')) : vz_Con z l 2 yX9_pave cX9_pave 4 (some .int) [.ref 108, .int x1, .int x2] vz_G0 σ vz_N0 (some (.int r)) vz_G0 σ' vz_N0 0 0 := by
  refine vz_con (by decide) (Nat.le_of_ble_eq_true rfl) (fun μ hc hl hcap hret => ?_)
  subst hl
  unfold f_X9_pave at h
  refine vr_iload_n (pc := 0) hc dX9_pave_0 rfl ?_
  refine vr_cSi (pc := 1) hc dX9_pave_1 mt_X9_isCorner sx_X9_isCorner ml_X9_215  (w_X9_isCorner z μ.2.1 x1 σ rfl) rfl (by decide) rfl (Nat.le_of_ble_eq_true rfl) ?_
  refine vr_if_eq (pc := 4) hc 19 dX9_pave_4 (by decide) (fun hb1 => ?_) (fun hb1 => ?_)
  · rw [if_pos hb1] at h
    refine vr_iconst (pc := 19) hc dX9_pave_19 (-1 : Int32) (by decide) ?_
    obtain ⟨rfl, rfl⟩ := vz_in2 h
    exact hret _ _ (vz_ret_i dX9_pave_20 rfl)
  · rw [if_neg hb1] at h
    refine vr_iload_n (pc := 7) hc dX9_pave_7 rfl ?_
    refine vr_cSi (pc := 8) hc dX9_pave_8 mt_X9_isCorner sx_X9_isCorner ml_X9_215  (w_X9_isCorner z μ.2.1 x2 σ rfl) rfl (by decide) rfl (Nat.le_of_ble_eq_true rfl) ?_
    refine vr_if_eq (pc := 11) hc 19 dX9_pave_11 (by decide) (fun hb2 => ?_) (fun hb2 => ?_)
    · rw [if_pos hb2] at h
      refine vr_iconst (pc := 19) hc dX9_pave_19 (-1 : Int32) (by decide) ?_
      obtain ⟨rfl, rfl⟩ := vz_in2 h
      exact hret _ _ (vz_ret_i dX9_pave_20 rfl)
    · rw [if_neg hb2] at h
      refine vr_iload_n (pc := 14) hc dX9_pave_14 rfl ?_
      refine vr_iload_n (pc := 15) hc dX9_pave_15 rfl ?_
      refine vr_icmp_ne (pc := 16) hc 21 dX9_pave_16 (by decide) (fun hb3 => ?_) (fun hb3 => ?_)
      · rw [if_neg hb3] at h
        refine vr_aload_n (pc := 21) hc dX9_pave_21 rfl ?_
        refine vr_getR (pc := 22) hc dX9_pave_22 fl_X9_7 gc_108 (gr_9_0 gc_108).1 ?_
        refine vr_bipush (pc := 25) hc dX9_pave_25 (42 : Int32) (by decide) ?_
        have hb4 := vz_ifp h
        rw [if_pos hb4] at h
        refine vr_iald (pc := 27) hc 305 dX9_pave_27 ((gr_9_0 gc_108).2.1) ((gr_9_0 gc_108).2.2) (vz_in_vp hb4) ?_
        refine vr_istore_n (pc := 28) hc dX9_pave_28 (by decide) rfl ?_
        refine vr_iload_n (pc := 29) hc dX9_pave_29 rfl ?_
        refine vr_bipush (pc := 30) hc dX9_pave_30 (9 : Int32) (by decide) ?_
        refine vr_icmp_ne (pc := 32) hc 38 dX9_pave_32 (by decide) (fun hb5 => ?_) (fun hb5 => ?_)
        · rw [if_neg hb5] at h
          refine vr_aload_n (pc := 38) hc dX9_pave_38 rfl ?_
          refine vr_getR (pc := 39) hc dX9_pave_39 fl_X9_7 gc_108 (gr_9_0 gc_108).1 ?_
          refine vr_bipush (pc := 42) hc dX9_pave_42 (43 : Int32) (by decide) ?_
          refine vr_iload_n (pc := 44) hc dX9_pave_44 rfl ?_
          refine vr_iadd (pc := 45) hc dX9_pave_45 ?_
          refine vr_iload_n (pc := 46) hc dX9_pave_46 rfl ?_
          have hb6 := vz_ifp h
          rw [if_pos hb6] at h
          refine vr_iast (pc := 47) hc 305 dX9_pave_47 ((gr_9_0 gc_108).2.1) ((gr_9_0 gc_108).2.2) (vz_in_vp hb6) ?_
          obtain ⟨σ7, hσ8⟩ : ∃ x, x = vz_up σ 109 ((43 : Int32) + (σ 109 (42 : Int32).toNatClampNeg)).toNatClampNeg x1 := ⟨_, rfl⟩
          rw [← hσ8] at h ⊢
          rw [vz_let_e] at h
          refine vr_aload_n (pc := 48) hc dX9_pave_48 rfl ?_
          refine vr_getR (pc := 49) hc dX9_pave_49 fl_X9_7 gc_108 (gr_9_0 gc_108).1 ?_
          refine vr_bipush (pc := 52) hc dX9_pave_52 (52 : Int32) (by decide) ?_
          refine vr_iload_n (pc := 54) hc dX9_pave_54 rfl ?_
          refine vr_iadd (pc := 55) hc dX9_pave_55 ?_
          refine vr_iload_n (pc := 56) hc dX9_pave_56 rfl ?_
          have hb9 := vz_ifp h
          rw [if_pos hb9] at h
          refine vr_iast (pc := 57) hc 305 dX9_pave_57 ((gr_9_0 gc_108).2.1) ((gr_9_0 gc_108).2.2) (vz_in_vp hb9) ?_
          obtain ⟨σ10, hσ11⟩ : ∃ x, x = vz_up σ7 109 ((52 : Int32) + (σ 109 (42 : Int32).toNatClampNeg)).toNatClampNeg x2 := ⟨_, rfl⟩
          rw [← hσ11] at h ⊢
          rw [vz_let_e] at h
          refine vr_aload_n (pc := 58) hc dX9_pave_58 rfl ?_
          refine vr_getR (pc := 59) hc dX9_pave_59 fl_X9_7 gc_108 (gr_9_0 gc_108).1 ?_
          refine vr_bipush (pc := 62) hc dX9_pave_62 (42 : Int32) (by decide) ?_
          refine vr_dup2 (pc := 64) hc dX9_pave_64 rfl rfl ?_
          have hb12 := vz_ifp h
          rw [if_pos hb12] at h
          refine vr_iald (pc := 65) hc 305 dX9_pave_65 ((gr_9_0 gc_108).2.1) ((gr_9_0 gc_108).2.2) (vz_in_vp hb12) ?_
          refine vr_iconst (pc := 66) hc dX9_pave_66 (1 : Int32) (by decide) ?_
          refine vr_iadd (pc := 67) hc dX9_pave_67 ?_
          have hb13 := vz_ifp h
          rw [if_pos hb13] at h
          refine vr_iast (pc := 68) hc 305 dX9_pave_68 ((gr_9_0 gc_108).2.1) ((gr_9_0 gc_108).2.2) (vz_in_vp hb13) ?_
          obtain ⟨σ14, hσ15⟩ : ∃ x, x = vz_up σ10 109 (42 : Int32).toNatClampNeg ((σ10 109 (42 : Int32).toNatClampNeg) + (1 : Int32)) := ⟨_, rfl⟩
          rw [← hσ15] at h ⊢
          rw [vz_let_e] at h
          refine vr_aload_n (pc := 69) hc dX9_pave_69 rfl ?_
          refine vr_getR (pc := 70) hc dX9_pave_70 fl_X9_7 gc_108 (gr_9_0 gc_108).1 ?_
          refine vr_bipush (pc := 73) hc dX9_pave_73 (42 : Int32) (by decide) ?_
          have hb16 := vz_ifp h
          rw [if_pos hb16] at h
          refine vr_iald (pc := 75) hc 305 dX9_pave_75 ((gr_9_0 gc_108).2.1) ((gr_9_0 gc_108).2.2) (vz_in_vp hb16) ?_
          obtain ⟨rfl, rfl⟩ := vz_in2 h
          exact hret _ _ (vz_ret_i dX9_pave_76 rfl)
        · rw [if_pos hb5] at h
          refine vr_bipush (pc := 35) hc dX9_pave_35 (-3 : Int32) (by decide) ?_
          obtain ⟨rfl, rfl⟩ := vz_in2 h
          exact hret _ _ (vz_ret_i dX9_pave_37 rfl)
      · rw [if_pos hb3] at h
        refine vr_iconst (pc := 19) hc dX9_pave_19 (-1 : Int32) (by decide) ?_
        obtain ⟨rfl, rfl⟩ := vz_in2 h
        exact hret _ _ (vz_ret_i dX9_pave_20 rfl)
-- X9_at: depth 2, effects S=True W=False P=True
def f_X9_at (x1 : Int32) (x2 : Int32) (σ : vz_I) : Option Int32 := if (f_X9_isMan x1 σ) = 0 then some (-1 : Int32) else if (f_X9_isMinute x2) = 0 then some (-1 : Int32) else vz_b1 (f_X9_atOn (0 : Int32) x1 x2 (0 : Int32) σ) (fun v4 => some v4)
set_option maxRecDepth 20000 in
set_option maxHeartbeats 1000000 in
theorem w_X9_at (z : vz_Z) (l : Launch) (x1 : Int32) (x2 : Int32) (σ : vz_I)  {r : Int32} (h : f_X9_at x1 x2 σ = some r) : vz_Con z l 2 yX9_at cX9_at 3 (some .int) [.ref 108, .int x1, .int x2] vz_G0 σ vz_N0 (some (.int r)) vz_G0 σ vz_N0 0 0 := by
  refine vz_con (by decide) (Nat.le_of_ble_eq_true rfl) (fun μ hc hl hcap hret => ?_)
  subst hl
  unfold f_X9_at at h
  refine vr_aload_n (pc := 0) hc dX9_at_0 rfl ?_
  refine vr_iload_n (pc := 1) hc dX9_at_1 rfl ?_
  refine vr_cVi (pc := 2) hc dX9_at_2 mt_X9_isMan ml_X9_198 gc_108 (w_X9_isMan z μ.2.1 x1 σ rfl) rfl (by decide) rfl (Nat.le_of_ble_eq_true rfl) ?_
  refine vr_if_eq (pc := 5) hc 26 dX9_at_5 (by decide) (fun hb1 => ?_) (fun hb1 => ?_)
  · rw [if_pos hb1] at h
    refine vr_iconst (pc := 26) hc dX9_at_26 (-1 : Int32) (by decide) ?_
    obtain rfl := Option.some.inj h
    exact hret _ _ (vz_ret_i dX9_at_27 rfl)
  · rw [if_neg hb1] at h
    refine vr_iload_n (pc := 8) hc dX9_at_8 rfl ?_
    refine vr_cSi (pc := 9) hc dX9_at_9 mt_X9_isMinute sx_X9_isMinute ml_X9_222  (w_X9_isMinute z μ.2.1 x2 σ rfl) rfl (by decide) rfl (Nat.le_of_ble_eq_true rfl) ?_
    refine vr_if_eq (pc := 12) hc 26 dX9_at_12 (by decide) (fun hb2 => ?_) (fun hb2 => ?_)
    · rw [if_pos hb2] at h
      refine vr_iconst (pc := 26) hc dX9_at_26 (-1 : Int32) (by decide) ?_
      obtain rfl := Option.some.inj h
      exact hret _ _ (vz_ret_i dX9_at_27 rfl)
    · rw [if_neg hb2] at h
      refine vr_aload_n (pc := 15) hc dX9_at_15 rfl ?_
      refine vr_iconst (pc := 16) hc dX9_at_16 (0 : Int32) (by decide) ?_
      refine vr_iload_n (pc := 17) hc dX9_at_17 rfl ?_
      refine vr_iload_n (pc := 18) hc dX9_at_18 rfl ?_
      refine vr_iconst (pc := 19) hc dX9_at_19 (0 : Int32) (by decide) ?_
      obtain ⟨v4, he3, h⟩ := vz_b1e h
      refine vr_cVi (pc := 20) hc dX9_at_20 mt_X9_atOn ml_X9_178 gc_108 (w_X9_atOn z μ.2.1 (0 : Int32) x1 x2 (0 : Int32) σ he3) rfl (by decide) rfl (Nat.le_of_ble_eq_true rfl) ?_
      refine vr_goto (pc := 23) hc 27 dX9_at_23 (by decide) ?_
      obtain rfl := Option.some.inj h
      exact hret _ _ (vz_ret_i dX9_at_27 rfl)
-- X9_meet: depth 2, effects S=True W=False P=True
def f_X9_meet_25 : Nat → Int32 → Int32 → Int32 → vz_I → Option Int32
  | 0, _, _, _, _ => none
  | n + 1, x1, x2, x3, σ => if (60 : Int32) ≤ x3 then some (-4 : Int32) else vz_b1 (f_X9_atOn (0 : Int32) x1 x3 (0 : Int32) σ) (fun v6 => if v6 = (-4 : Int32) then f_X9_meet_25 n x1 x2 (x3 + (1 : Int32)) σ else vz_b1 (f_X9_atOn (0 : Int32) x2 x3 (0 : Int32) σ) (fun v10 => if v6 = v10 then some x3 else f_X9_meet_25 n x1 x2 (x3 + (1 : Int32)) σ))
theorem f_X9_meet_25_s (n : Nat) (x1 : Int32) (x2 : Int32) (x3 : Int32) (σ : vz_I) : f_X9_meet_25  (n + 1) x1 x2 x3 σ = if (60 : Int32) ≤ x3 then some (-4 : Int32) else vz_b1 (f_X9_atOn (0 : Int32) x1 x3 (0 : Int32) σ) (fun v6 => if v6 = (-4 : Int32) then f_X9_meet_25 n x1 x2 (x3 + (1 : Int32)) σ else vz_b1 (f_X9_atOn (0 : Int32) x2 x3 (0 : Int32) σ) (fun v10 => if v6 = v10 then some x3 else f_X9_meet_25 n x1 x2 (x3 + (1 : Int32)) σ)) := rfl
set_option maxRecDepth 20000 in
set_option maxHeartbeats 1000000 in
theorem wn_X9_meet_25 (z : vz_Z) (μ : vz_M) (hc : vz_C z μ cX9_meet RX9 2 5) {r : Int32} (σ : vz_I) (hret : ∀ (pc : Nat) (L : vz_L), vz_ret cX9_meet (some .int) pc (some (.int r)) → vz_V z μ 0 0 pc L ((some (.int r)) : Option Value).toList vz_G0 σ vz_N0) : ∀ (n : Nat) (x1 : Int32) (x2 : Int32) (x3 : Int32)  (h : f_X9_meet_25  n x1 x2 x3 σ = some r), vz_V z μ 0 0 25 [(0, some (.ref 108)), (1, some (.int x1)), (2, some (.int x2)), (3, some (.int x3))] [] vz_G0 σ vz_N0 := by
  intro n
  induction n with
  | zero =>
    intro x1 x2 x3 h
    cases h
  | succ n ih =>
    intro x1 x2 x3 h
    rw [f_X9_meet_25_s] at h
    refine vr_iload_n (pc := 25) hc dX9_meet_25 rfl ?_
    refine vr_bipush (pc := 26) hc dX9_meet_26 (60 : Int32) (by decide) ?_
    refine vr_icmp_ge (pc := 28) hc 69 dX9_meet_28 (by decide) (fun hb4 => ?_) (fun hb4 => ?_)
    · rw [if_pos hb4] at h
      refine vr_bipush (pc := 69) hc dX9_meet_69 (-4 : Int32) (by decide) ?_
      obtain rfl := Option.some.inj h
      exact hret _ _ (vz_ret_i dX9_meet_71 rfl)
    · rw [if_neg hb4] at h
      refine vr_aload_n (pc := 31) hc dX9_meet_31 rfl ?_
      refine vr_iconst (pc := 32) hc dX9_meet_32 (0 : Int32) (by decide) ?_
      refine vr_iload_n (pc := 33) hc dX9_meet_33 rfl ?_
      refine vr_iload_n (pc := 34) hc dX9_meet_34 rfl ?_
      refine vr_iconst (pc := 35) hc dX9_meet_35 (0 : Int32) (by decide) ?_
      obtain ⟨v6, he5, h⟩ := vz_b1e h
      refine vr_cVi (pc := 36) hc dX9_meet_36 mt_X9_atOn ml_X9_178 gc_108 (w_X9_atOn z μ.2.1 (0 : Int32) x1 x3 (0 : Int32) σ he5) rfl (by decide) rfl (Nat.le_of_ble_eq_true rfl) ?_
      refine vr_istore (pc := 39) hc dX9_meet_39 (by decide) rfl ?_
      refine vr_iload (pc := 41) hc dX9_meet_41 rfl ?_
      refine vr_bipush (pc := 43) hc dX9_meet_43 (-4 : Int32) (by decide) ?_
      refine vr_icmp_eq (pc := 45) hc 63 dX9_meet_45 (by decide) (fun hb8 => ?_) (fun hb8 => ?_)
      · rw [if_pos hb8] at h
        refine vr_iinc (pc := 63) hc dX9_meet_63 (1 : Int32) (by decide) rfl (by decide) rfl ?_
        refine vr_goto (pc := 66) hc 25 dX9_meet_66 (by decide) ?_
        exact vz_sub (ih x1 x2 (x3 + (1 : Int32))   h) (vz_sb1 rfl (vz_sb1 rfl (vz_sb1 rfl (vz_sb1 rfl vz_sb0))))
      · rw [if_neg hb8] at h
        refine vr_iload (pc := 48) hc dX9_meet_48 rfl ?_
        refine vr_aload_n (pc := 50) hc dX9_meet_50 rfl ?_
        refine vr_iconst (pc := 51) hc dX9_meet_51 (0 : Int32) (by decide) ?_
        refine vr_iload_n (pc := 52) hc dX9_meet_52 rfl ?_
        refine vr_iload_n (pc := 53) hc dX9_meet_53 rfl ?_
        refine vr_iconst (pc := 54) hc dX9_meet_54 (0 : Int32) (by decide) ?_
        obtain ⟨v10, he9, h⟩ := vz_b1e h
        refine vr_cVi (pc := 55) hc dX9_meet_55 mt_X9_atOn ml_X9_178 gc_108 (w_X9_atOn z μ.2.1 (0 : Int32) x2 x3 (0 : Int32) σ he9) rfl (by decide) rfl (Nat.le_of_ble_eq_true rfl) ?_
        refine vr_icmp_ne (pc := 58) hc 63 dX9_meet_58 (by decide) (fun hb12 => ?_) (fun hb12 => ?_)
        · rw [if_neg hb12] at h
          refine vr_iinc (pc := 63) hc dX9_meet_63 (1 : Int32) (by decide) rfl (by decide) rfl ?_
          refine vr_goto (pc := 66) hc 25 dX9_meet_66 (by decide) ?_
          exact vz_sub (ih x1 x2 (x3 + (1 : Int32))   h) (vz_sb1 rfl (vz_sb1 rfl (vz_sb1 rfl (vz_sb1 rfl vz_sb0))))
        · rw [if_pos hb12] at h
          refine vr_iload_n (pc := 61) hc dX9_meet_61 rfl ?_
          obtain rfl := Option.some.inj h
          exact hret _ _ (vz_ret_i dX9_meet_62 rfl)
def f_X9_meet (x1 : Int32) (x2 : Int32) (σ : vz_I) : Option Int32 := if (f_X9_isMan x1 σ) = 0 then some (-1 : Int32) else if (f_X9_isMan x2 σ) = 0 then some (-1 : Int32) else if x1 = x2 then some (-1 : Int32) else f_X9_meet_25 vz_fu x1 x2 (0 : Int32) σ
set_option maxRecDepth 20000 in
set_option maxHeartbeats 1000000 in
theorem w_X9_meet (z : vz_Z) (l : Launch) (x1 : Int32) (x2 : Int32) (σ : vz_I)  {r : Int32} (h : f_X9_meet x1 x2 σ = some r) : vz_Con z l 2 yX9_meet cX9_meet 5 (some .int) [.ref 108, .int x1, .int x2] vz_G0 σ vz_N0 (some (.int r)) vz_G0 σ vz_N0 0 0 := by
  refine vz_con (by decide) (Nat.le_of_ble_eq_true rfl) (fun μ hc hl hcap hret => ?_)
  subst hl
  unfold f_X9_meet at h
  refine vr_aload_n (pc := 0) hc dX9_meet_0 rfl ?_
  refine vr_iload_n (pc := 1) hc dX9_meet_1 rfl ?_
  refine vr_cVi (pc := 2) hc dX9_meet_2 mt_X9_isMan ml_X9_198 gc_108 (w_X9_isMan z μ.2.1 x1 σ rfl) rfl (by decide) rfl (Nat.le_of_ble_eq_true rfl) ?_
  refine vr_if_eq (pc := 5) hc 21 dX9_meet_5 (by decide) (fun hb1 => ?_) (fun hb1 => ?_)
  · rw [if_pos hb1] at h
    refine vr_iconst (pc := 21) hc dX9_meet_21 (-1 : Int32) (by decide) ?_
    obtain rfl := Option.some.inj h
    exact hret _ _ (vz_ret_i dX9_meet_22 rfl)
  · rw [if_neg hb1] at h
    refine vr_aload_n (pc := 8) hc dX9_meet_8 rfl ?_
    refine vr_iload_n (pc := 9) hc dX9_meet_9 rfl ?_
    refine vr_cVi (pc := 10) hc dX9_meet_10 mt_X9_isMan ml_X9_198 gc_108 (w_X9_isMan z μ.2.1 x2 σ rfl) rfl (by decide) rfl (Nat.le_of_ble_eq_true rfl) ?_
    refine vr_if_eq (pc := 13) hc 21 dX9_meet_13 (by decide) (fun hb2 => ?_) (fun hb2 => ?_)
    · rw [if_pos hb2] at h
      refine vr_iconst (pc := 21) hc dX9_meet_21 (-1 : Int32) (by decide) ?_
      obtain rfl := Option.some.inj h
      exact hret _ _ (vz_ret_i dX9_meet_22 rfl)
    · rw [if_neg hb2] at h
      refine vr_iload_n (pc := 16) hc dX9_meet_16 rfl ?_
      refine vr_iload_n (pc := 17) hc dX9_meet_17 rfl ?_
      refine vr_icmp_ne (pc := 18) hc 23 dX9_meet_18 (by decide) (fun hb3 => ?_) (fun hb3 => ?_)
      · rw [if_neg hb3] at h
        refine vr_iconst (pc := 23) hc dX9_meet_23 (0 : Int32) (by decide) ?_
        refine vr_istore_n (pc := 24) hc dX9_meet_24 (by decide) rfl ?_
        exact vz_sub (wn_X9_meet_25 z μ hc σ hret vz_fu x1 x2 (0 : Int32) h) (vz_sb1 rfl (vz_sb1 rfl (vz_sb1 rfl (vz_sb1 rfl vz_sb0))))
      · rw [if_pos hb3] at h
        refine vr_iconst (pc := 21) hc dX9_meet_21 (-1 : Int32) (by decide) ?_
        obtain rfl := Option.some.inj h
        exact hret _ _ (vz_ret_i dX9_meet_22 rfl)
-- X9_see: depth 2, effects S=True W=True P=True
def f_X9_see (x1 : Int32) (x2 : Int32) (x3 : Int32) (x4 : Int32) (σ : vz_I) : Option (Int32 × vz_I) := if (f_X9_isReader x1 σ) = 0 then some ((-1 : Int32), σ) else if (f_X9_isNews x2) = 0 then some ((-1 : Int32), σ) else if (f_X9_isMinute x3) = 0 then some ((-1 : Int32), σ) else if (σ 108 24) = (6 : Int32) then some ((-3 : Int32), σ) else if vz_in ((4 : Int32) * (σ 108 24)) 24 then if vz_in (((4 : Int32) * ((vz_up σ 117 ((4 : Int32) * (σ 108 24)).toNatClampNeg x1) 108 24)) + (1 : Int32)) 24 then vz_let (vz_up (vz_up σ 117 ((4 : Int32) * (σ 108 24)).toNatClampNeg x1) 117 (((4 : Int32) * ((vz_up σ 117 ((4 : Int32) * (σ 108 24)).toNatClampNeg x1) 108 24)) + (1 : Int32)).toNatClampNeg x2) (fun σ7 => if vz_in (((4 : Int32) * (σ7 108 24)) + (2 : Int32)) 24 then vz_let (vz_up σ7 117 (((4 : Int32) * (σ7 108 24)) + (2 : Int32)).toNatClampNeg x3) (fun σ10 => if x4 = 0 then if vz_in (((4 : Int32) * (σ10 108 24)) + (3 : Int32)) 24 then vz_let (vz_up σ10 117 (((4 : Int32) * (σ10 108 24)) + (3 : Int32)).toNatClampNeg (0 : Int32)) (fun σ14 => some ((vz_up σ14 108 24 ((σ14 108 24) + (1 : Int32))) 108 24, vz_up σ14 108 24 ((σ14 108 24) + (1 : Int32)))) else none else if vz_in (((4 : Int32) * (σ10 108 24)) + (3 : Int32)) 24 then vz_let (vz_up σ10 117 (((4 : Int32) * (σ10 108 24)) + (3 : Int32)).toNatClampNeg (1 : Int32)) (fun σ17 => some ((vz_up σ17 108 24 ((σ17 108 24) + (1 : Int32))) 108 24, vz_up σ17 108 24 ((σ17 108 24) + (1 : Int32)))) else none) else none) else none else none
set_option maxRecDepth 20000 in
set_option maxHeartbeats 1000000 in
theorem w_X9_see (z : vz_Z) (l : Launch) (x1 : Int32) (x2 : Int32) (x3 : Int32) (x4 : Int32) (σ : vz_I)  {r : Int32} {σ' : vz_I} (h : f_X9_see x1 x2 x3 x4 σ = some (r, σ')) : vz_Con z l 2 yX9_see cX9_see 5 (some .int) [.ref 108, .int x1, .int x2, .int x3, .int x4] vz_G0 σ vz_N0 (some (.int r)) vz_G0 σ' vz_N0 0 0 := by
  refine vz_con (by decide) (Nat.le_of_ble_eq_true rfl) (fun μ hc hl hcap hret => ?_)
  subst hl
  unfold f_X9_see at h
  refine vr_aload_n (pc := 0) hc dX9_see_0 rfl ?_
  refine vr_iload_n (pc := 1) hc dX9_see_1 rfl ?_
  refine vr_cVi (pc := 2) hc dX9_see_2 mt_X9_isReader ml_X9_204 gc_108 (w_X9_isReader z μ.2.1 x1 σ rfl) rfl (by decide) rfl (Nat.le_of_ble_eq_true rfl) ?_
  refine vr_if_eq (pc := 5) hc 22 dX9_see_5 (by decide) (fun hb1 => ?_) (fun hb1 => ?_)
  · rw [if_pos hb1] at h
    refine vr_iconst (pc := 22) hc dX9_see_22 (-1 : Int32) (by decide) ?_
    obtain ⟨rfl, rfl⟩ := vz_in2 h
    exact hret _ _ (vz_ret_i dX9_see_23 rfl)
  · rw [if_neg hb1] at h
    refine vr_iload_n (pc := 8) hc dX9_see_8 rfl ?_
    refine vr_cSi (pc := 9) hc dX9_see_9 mt_X9_isNews sx_X9_isNews ml_X9_229  (w_X9_isNews z μ.2.1 x2 σ rfl) rfl (by decide) rfl (Nat.le_of_ble_eq_true rfl) ?_
    refine vr_if_eq (pc := 12) hc 22 dX9_see_12 (by decide) (fun hb2 => ?_) (fun hb2 => ?_)
    · rw [if_pos hb2] at h
      refine vr_iconst (pc := 22) hc dX9_see_22 (-1 : Int32) (by decide) ?_
      obtain ⟨rfl, rfl⟩ := vz_in2 h
      exact hret _ _ (vz_ret_i dX9_see_23 rfl)
    · rw [if_neg hb2] at h
      refine vr_iload_n (pc := 15) hc dX9_see_15 rfl ?_
      refine vr_cSi (pc := 16) hc dX9_see_16 mt_X9_isMinute sx_X9_isMinute ml_X9_222  (w_X9_isMinute z μ.2.1 x3 σ rfl) rfl (by decide) rfl (Nat.le_of_ble_eq_true rfl) ?_
      refine vr_if_ne (pc := 19) hc 24 dX9_see_19 (by decide) (fun hb3 => ?_) (fun hb3 => ?_)
      · rw [if_neg hb3] at h
        refine vr_aload_n (pc := 24) hc dX9_see_24 rfl ?_
        refine vr_getI (pc := 25) hc dX9_see_25 fl_X9_156 gc_108 (gi_9_24 gc_108) ?_
        refine vr_bipush (pc := 28) hc dX9_see_28 (6 : Int32) (by decide) ?_
        refine vr_icmp_ne (pc := 30) hc 36 dX9_see_30 (by decide) (fun hb4 => ?_) (fun hb4 => ?_)
        · rw [if_neg hb4] at h
          refine vr_aload_n (pc := 36) hc dX9_see_36 rfl ?_
          refine vr_getR (pc := 37) hc dX9_see_37 fl_X9_34 gc_108 (gr_9_23 gc_108).1 ?_
          refine vr_iconst (pc := 40) hc dX9_see_40 (4 : Int32) (by decide) ?_
          refine vr_aload_n (pc := 41) hc dX9_see_41 rfl ?_
          refine vr_getI (pc := 42) hc dX9_see_42 fl_X9_156 gc_108 (gi_9_24 gc_108) ?_
          refine vr_imul (pc := 45) hc dX9_see_45 ?_
          refine vr_iload_n (pc := 46) hc dX9_see_46 rfl ?_
          have hb5 := vz_ifp h
          rw [if_pos hb5] at h
          refine vr_iast (pc := 47) hc 24 dX9_see_47 ((gr_9_23 gc_108).2.1) ((gr_9_23 gc_108).2.2) (vz_in_vp hb5) ?_
          refine vr_aload_n (pc := 48) hc dX9_see_48 rfl ?_
          refine vr_getR (pc := 49) hc dX9_see_49 fl_X9_34 gc_108 (gr_9_23 gc_108).1 ?_
          refine vr_iconst (pc := 52) hc dX9_see_52 (4 : Int32) (by decide) ?_
          refine vr_aload_n (pc := 53) hc dX9_see_53 rfl ?_
          refine vr_getI (pc := 54) hc dX9_see_54 fl_X9_156 gc_108 (gi_9_24 gc_108) ?_
          refine vr_imul (pc := 57) hc dX9_see_57 ?_
          refine vr_iconst (pc := 58) hc dX9_see_58 (1 : Int32) (by decide) ?_
          refine vr_iadd (pc := 59) hc dX9_see_59 ?_
          refine vr_iload_n (pc := 60) hc dX9_see_60 rfl ?_
          have hb6 := vz_ifp h
          rw [if_pos hb6] at h
          refine vr_iast (pc := 61) hc 24 dX9_see_61 ((gr_9_23 gc_108).2.1) ((gr_9_23 gc_108).2.2) (vz_in_vp hb6) ?_
          obtain ⟨σ7, hσ8⟩ : ∃ x, x = vz_up (vz_up σ 117 ((4 : Int32) * (σ 108 24)).toNatClampNeg x1) 117 (((4 : Int32) * ((vz_up σ 117 ((4 : Int32) * (σ 108 24)).toNatClampNeg x1) 108 24)) + (1 : Int32)).toNatClampNeg x2 := ⟨_, rfl⟩
          rw [← hσ8] at h ⊢
          rw [vz_let_e] at h
          refine vr_aload_n (pc := 62) hc dX9_see_62 rfl ?_
          refine vr_getR (pc := 63) hc dX9_see_63 fl_X9_34 gc_108 (gr_9_23 gc_108).1 ?_
          refine vr_iconst (pc := 66) hc dX9_see_66 (4 : Int32) (by decide) ?_
          refine vr_aload_n (pc := 67) hc dX9_see_67 rfl ?_
          refine vr_getI (pc := 68) hc dX9_see_68 fl_X9_156 gc_108 (gi_9_24 gc_108) ?_
          refine vr_imul (pc := 71) hc dX9_see_71 ?_
          refine vr_iconst (pc := 72) hc dX9_see_72 (2 : Int32) (by decide) ?_
          refine vr_iadd (pc := 73) hc dX9_see_73 ?_
          refine vr_iload_n (pc := 74) hc dX9_see_74 rfl ?_
          have hb9 := vz_ifp h
          rw [if_pos hb9] at h
          refine vr_iast (pc := 75) hc 24 dX9_see_75 ((gr_9_23 gc_108).2.1) ((gr_9_23 gc_108).2.2) (vz_in_vp hb9) ?_
          obtain ⟨σ10, hσ11⟩ : ∃ x, x = vz_up σ7 117 (((4 : Int32) * (σ7 108 24)) + (2 : Int32)).toNatClampNeg x3 := ⟨_, rfl⟩
          rw [← hσ11] at h ⊢
          rw [vz_let_e] at h
          refine vr_aload_n (pc := 76) hc dX9_see_76 rfl ?_
          refine vr_getR (pc := 77) hc dX9_see_77 fl_X9_34 gc_108 (gr_9_23 gc_108).1 ?_
          refine vr_iconst (pc := 80) hc dX9_see_80 (4 : Int32) (by decide) ?_
          refine vr_aload_n (pc := 81) hc dX9_see_81 rfl ?_
          refine vr_getI (pc := 82) hc dX9_see_82 fl_X9_156 gc_108 (gi_9_24 gc_108) ?_
          refine vr_imul (pc := 85) hc dX9_see_85 ?_
          refine vr_iconst (pc := 86) hc dX9_see_86 (3 : Int32) (by decide) ?_
          refine vr_iadd (pc := 87) hc dX9_see_87 ?_
          refine vr_iload (pc := 88) hc dX9_see_88 rfl ?_
          refine vr_if_eq (pc := 90) hc 97 dX9_see_90 (by decide) (fun hb12 => ?_) (fun hb12 => ?_)
          · rw [if_pos hb12] at h
            refine vr_iconst (pc := 97) hc dX9_see_97 (0 : Int32) (by decide) ?_
            have hb13 := vz_ifp h
            rw [if_pos hb13] at h
            refine vr_iast (pc := 98) hc 24 dX9_see_98 ((gr_9_23 gc_108).2.1) ((gr_9_23 gc_108).2.2) (vz_in_vp hb13) ?_
            obtain ⟨σ14, hσ15⟩ : ∃ x, x = vz_up σ10 117 (((4 : Int32) * (σ10 108 24)) + (3 : Int32)).toNatClampNeg (0 : Int32) := ⟨_, rfl⟩
            rw [← hσ15] at h ⊢
            rw [vz_let_e] at h
            refine vr_aload_n (pc := 99) hc dX9_see_99 rfl ?_
            refine vr_dup (pc := 100) hc dX9_see_100 rfl ?_
            refine vr_getI (pc := 101) hc dX9_see_101 fl_X9_156 gc_108 (gi_9_24 gc_108) ?_
            refine vr_iconst (pc := 104) hc dX9_see_104 (1 : Int32) (by decide) ?_
            refine vr_iadd (pc := 105) hc dX9_see_105 ?_
            refine vr_putI (pc := 106) hc dX9_see_106 fl_X9_156 gc_108 (gi_9_24 gc_108) rfl rfl ?_
            refine vr_aload_n (pc := 109) hc dX9_see_109 rfl ?_
            refine vr_getI (pc := 110) hc dX9_see_110 fl_X9_156 gc_108 (gi_9_24 gc_108) ?_
            obtain ⟨rfl, rfl⟩ := vz_in2 h
            exact hret _ _ (vz_ret_i dX9_see_113 rfl)
          · rw [if_neg hb12] at h
            refine vr_iconst (pc := 93) hc dX9_see_93 (1 : Int32) (by decide) ?_
            refine vr_goto (pc := 94) hc 98 dX9_see_94 (by decide) ?_
            have hb16 := vz_ifp h
            rw [if_pos hb16] at h
            refine vr_iast (pc := 98) hc 24 dX9_see_98 ((gr_9_23 gc_108).2.1) ((gr_9_23 gc_108).2.2) (vz_in_vp hb16) ?_
            obtain ⟨σ17, hσ18⟩ : ∃ x, x = vz_up σ10 117 (((4 : Int32) * (σ10 108 24)) + (3 : Int32)).toNatClampNeg (1 : Int32) := ⟨_, rfl⟩
            rw [← hσ18] at h ⊢
            rw [vz_let_e] at h
            refine vr_aload_n (pc := 99) hc dX9_see_99 rfl ?_
            refine vr_dup (pc := 100) hc dX9_see_100 rfl ?_
            refine vr_getI (pc := 101) hc dX9_see_101 fl_X9_156 gc_108 (gi_9_24 gc_108) ?_
            refine vr_iconst (pc := 104) hc dX9_see_104 (1 : Int32) (by decide) ?_
            refine vr_iadd (pc := 105) hc dX9_see_105 ?_
            refine vr_putI (pc := 106) hc dX9_see_106 fl_X9_156 gc_108 (gi_9_24 gc_108) rfl rfl ?_
            refine vr_aload_n (pc := 109) hc dX9_see_109 rfl ?_
            refine vr_getI (pc := 110) hc dX9_see_110 fl_X9_156 gc_108 (gi_9_24 gc_108) ?_
            obtain ⟨rfl, rfl⟩ := vz_in2 h
            exact hret _ _ (vz_ret_i dX9_see_113 rfl)
        · rw [if_pos hb4] at h
          refine vr_bipush (pc := 33) hc dX9_see_33 (-3 : Int32) (by decide) ?_
          obtain ⟨rfl, rfl⟩ := vz_in2 h
          exact hret _ _ (vz_ret_i dX9_see_35 rfl)
      · rw [if_pos hb3] at h
        refine vr_iconst (pc := 22) hc dX9_see_22 (-1 : Int32) (by decide) ?_
        obtain ⟨rfl, rfl⟩ := vz_in2 h
        exact hret _ _ (vz_ret_i dX9_see_23 rfl)
