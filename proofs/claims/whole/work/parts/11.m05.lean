-- X1_agreesWith: depth 4, effects S=True W=False P=True
def f_X1_agreesWith_66 (k2 : Nat → Int32 → Option Int32) (a1 : Nat) (x2 : Int32) (xs0 : Int32) (σ : vz_I) : Option Int32 := if vz_in x2 6 then if xs0 = (σ 61 x2.toNatClampNeg) then k2 a1 (x2 + (1 : Int32)) else some (0 : Int32) else none
set_option maxRecDepth 20000 in
set_option maxHeartbeats 1000000 in
theorem wn_X1_agreesWith_66 (z : vz_Z) (μ : vz_M) (hc : vz_C z μ cX1_agreesWith RX1 4 6) {r : Int32} (σ : vz_I) (hret : ∀ (pc : Nat) (L : vz_L), vz_ret cX1_agreesWith (some .boolean) pc (some (.int r)) → vz_V z μ 0 0 pc L ((some (.int r)) : Option Value).toList vz_G0 σ vz_N0) (k2 : Nat → Int32 → Option Int32) (hk2 : ∀ (a1 : Nat) (x2 : Int32), (vz_G0 a1).1 = 7 → k2 a1 x2 = some r → vz_V z μ 0 0 2 [(0, some (.ref 57)), (1, some (.ref a1)), (2, some (.int x2))] [] vz_G0 σ vz_N0) (a1 : Nat) (x2 : Int32) (xs0 : Int32) (ha1 : (vz_G0 a1).1 = 7) (h : f_X1_agreesWith_66 k2 a1 x2 xs0 σ = some r) : vz_V z μ 0 0 66 [(0, some (.ref 57)), (1, some (.ref a1)), (2, some (.int x2))] [.int xs0] vz_G0 σ vz_N0 := by
  unfold f_X1_agreesWith_66 at h
  refine vr_istore (pc := 66) hc dX1_agreesWith_66 (by decide) rfl ?_
  refine vr_iload (pc := 68) hc dX1_agreesWith_68 rfl ?_
  refine vr_aload_n (pc := 70) hc dX1_agreesWith_70 rfl ?_
  refine vr_getR (pc := 71) hc dX1_agreesWith_71 fl_X1_21 gc_57 (gr_1_4 gc_57).1 ?_
  refine vr_iload_n (pc := 74) hc dX1_agreesWith_74 rfl ?_
  have hb13 := vz_ifp h
  rw [if_pos hb13] at h
  refine vr_zald (pc := 75) hc 6 dX1_agreesWith_75 ((gr_1_4 gc_57).2.1) ((gr_1_4 gc_57).2.2) (vz_in_vp hb13) ?_
  refine vr_icmp_eq (pc := 76) hc 81 dX1_agreesWith_76 (by decide) (fun hb14 => ?_) (fun hb14 => ?_)
  · rw [if_pos hb14] at h
    refine vr_iinc (pc := 81) hc dX1_agreesWith_81 (1 : Int32) (by decide) rfl (by decide) rfl ?_
    refine vr_goto (pc := 84) hc 2 dX1_agreesWith_84 (by decide) ?_
    exact vz_sub (hk2 a1 (x2 + (1 : Int32))  ha1 h) (vz_sb1 rfl (vz_sb1 rfl (vz_sb1 rfl vz_sb0)))
  · rw [if_neg hb14] at h
    refine vr_iconst (pc := 79) hc dX1_agreesWith_79 (0 : Int32) (by decide) ?_
    obtain rfl := Option.some.inj h
    exact hret _ _ (vz_ret_i dX1_agreesWith_80 (by decide))
def f_X1_agreesWith_2 : Nat → Nat → Int32 → vz_I → Option Int32
  | 0, _, _, _ => none
  | n + 1, a1, x2, σ => if (σ 57 0) ≤ x2 then some (1 : Int32) else if vz_in x2 6 then vz_b1 (f_X7_readerAt a1 (σ 58 x2.toNatClampNeg) σ) (fun v4 => vz_mo v4 (some (0 : Int32)) (fun a6 => if vz_in x2 6 then vz_b1 (f_X7_wholeNews a1 a6 (f_X8_span (0 : Int32) (σ 60 x2.toNatClampNeg)) (15 : Int32) σ) (fun v9 => if vz_in x2 6 then if ((v9 >>> ((σ 59 x2.toNatClampNeg) &&& 31)) &&& (1 : Int32)) = (1 : Int32) then f_X1_agreesWith_66 (fun a1 x2 => f_X1_agreesWith_2 n a1 x2 σ) a1 x2 (1 : Int32) σ else f_X1_agreesWith_66 (fun a1 x2 => f_X1_agreesWith_2 n a1 x2 σ) a1 x2 (0 : Int32) σ else none) else none)) else none
theorem f_X1_agreesWith_2_s (n : Nat) (a1 : Nat) (x2 : Int32) (σ : vz_I) : f_X1_agreesWith_2  (n + 1) a1 x2 σ = if (σ 57 0) ≤ x2 then some (1 : Int32) else if vz_in x2 6 then vz_b1 (f_X7_readerAt a1 (σ 58 x2.toNatClampNeg) σ) (fun v4 => vz_mo v4 (some (0 : Int32)) (fun a6 => if vz_in x2 6 then vz_b1 (f_X7_wholeNews a1 a6 (f_X8_span (0 : Int32) (σ 60 x2.toNatClampNeg)) (15 : Int32) σ) (fun v9 => if vz_in x2 6 then if ((v9 >>> ((σ 59 x2.toNatClampNeg) &&& 31)) &&& (1 : Int32)) = (1 : Int32) then f_X1_agreesWith_66 (fun a1 x2 => f_X1_agreesWith_2 n a1 x2 σ) a1 x2 (1 : Int32) σ else f_X1_agreesWith_66 (fun a1 x2 => f_X1_agreesWith_2 n a1 x2 σ) a1 x2 (0 : Int32) σ else none) else none)) else none := rfl
set_option maxRecDepth 20000 in
set_option maxHeartbeats 1000000 in
theorem wn_X1_agreesWith_2 (z : vz_Z) (μ : vz_M) (hc : vz_C z μ cX1_agreesWith RX1 4 6) {r : Int32} (σ : vz_I) (hret : ∀ (pc : Nat) (L : vz_L), vz_ret cX1_agreesWith (some .boolean) pc (some (.int r)) → vz_V z μ 0 0 pc L ((some (.int r)) : Option Value).toList vz_G0 σ vz_N0) : ∀ (n : Nat) (a1 : Nat) (x2 : Int32) (ha1 : (vz_G0 a1).1 = 7) (h : f_X1_agreesWith_2  n a1 x2 σ = some r), vz_V z μ 0 0 2 [(0, some (.ref 57)), (1, some (.ref a1)), (2, some (.int x2))] [] vz_G0 σ vz_N0 := by
  intro n
  induction n with
  | zero =>
    intro a1 x2 ha1 h
    cases h
  | succ n ih =>
    intro a1 x2 ha1 h
    rw [f_X1_agreesWith_2_s] at h
    refine vr_iload_n (pc := 2) hc dX1_agreesWith_2 rfl ?_
    refine vr_aload_n (pc := 3) hc dX1_agreesWith_3 rfl ?_
    refine vr_getI (pc := 4) hc dX1_agreesWith_4 fl_X1_25 gc_57 (gi_1_0 gc_57) ?_
    refine vr_icmp_ge (pc := 7) hc 87 dX1_agreesWith_7 (by decide) (fun hb1 => ?_) (fun hb1 => ?_)
    · rw [if_pos hb1] at h
      refine vr_iconst (pc := 87) hc dX1_agreesWith_87 (1 : Int32) (by decide) ?_
      obtain rfl := Option.some.inj h
      exact hret _ _ (vz_ret_i dX1_agreesWith_88 (by decide))
    · rw [if_neg hb1] at h
      refine vr_aload_n (pc := 10) hc dX1_agreesWith_10 rfl ?_
      refine vr_aload_n (pc := 11) hc dX1_agreesWith_11 rfl ?_
      refine vr_getR (pc := 12) hc dX1_agreesWith_12 fl_X1_9 gc_57 (gr_1_1 gc_57).1 ?_
      refine vr_iload_n (pc := 15) hc dX1_agreesWith_15 rfl ?_
      have hb2 := vz_ifp h
      rw [if_pos hb2] at h
      refine vr_iald (pc := 16) hc 6 dX1_agreesWith_16 ((gr_1_1 gc_57).2.1) ((gr_1_1 gc_57).2.2) (vz_in_vp hb2) ?_
      obtain ⟨v4, he3, h⟩ := vz_b1e h
      cases v4 with
      | none =>
        rw [vz_mo_n] at h
        refine vr_cVn (pc := 17) hc dX1_agreesWith_17 mt_X7_readerAt ml_X1_29 ha1 (w_X7_readerAt z μ.2.1 a1 (σ 58 x2.toNatClampNeg) σ ha1 he3) rfl (by decide) rfl (Nat.le_of_ble_eq_true rfl) ?_
        refine vr_astoreN_n (pc := 20) hc dX1_agreesWith_20 (by decide) rfl ?_
        refine vr_aloadN_n (pc := 21) hc dX1_agreesWith_21 rfl ?_
        refine vr_ifnonnullN (pc := 22) hc dX1_agreesWith_22 ?_
        refine vr_iconst (pc := 25) hc dX1_agreesWith_25 (0 : Int32) (by decide) ?_
        obtain rfl := Option.some.inj h
        exact hret _ _ (vz_ret_i dX1_agreesWith_26 (by decide))
      | some a6 =>
        rw [vz_mo_s] at h
        refine vr_cVa (pc := 17) hc dX1_agreesWith_17 mt_X7_readerAt ml_X1_29 ha1 (w_X7_readerAt z μ.2.1 a1 (σ 58 x2.toNatClampNeg) σ ha1 he3) rfl (by decide) rfl (Nat.le_of_ble_eq_true rfl) ?_
        refine vr_astore_n (pc := 20) hc dX1_agreesWith_20 (by decide) rfl ?_
        refine vr_aload_n (pc := 21) hc dX1_agreesWith_21 rfl ?_
        refine vr_ifnonnull (pc := 22) hc 27 dX1_agreesWith_22 (by decide) ?_
        refine vr_aload_n (pc := 27) hc dX1_agreesWith_27 rfl ?_
        refine vr_aload_n (pc := 28) hc dX1_agreesWith_28 rfl ?_
        refine vr_iconst (pc := 29) hc dX1_agreesWith_29 (0 : Int32) (by decide) ?_
        refine vr_aload_n (pc := 30) hc dX1_agreesWith_30 rfl ?_
        refine vr_getR (pc := 31) hc dX1_agreesWith_31 fl_X1_18 gc_57 (gr_1_3 gc_57).1 ?_
        refine vr_iload_n (pc := 34) hc dX1_agreesWith_34 rfl ?_
        have hb7 := vz_ifp h
        rw [if_pos hb7] at h
        refine vr_iald (pc := 35) hc 6 dX1_agreesWith_35 ((gr_1_3 gc_57).2.1) ((gr_1_3 gc_57).2.2) (vz_in_vp hb7) ?_
        refine vr_cNj (pc := 36) hc dX1_agreesWith_36 mt_X8_span sx_X8_span ml_X1_35  (w_X8_span z μ.2.1 (0 : Int32) (σ 60 x2.toNatClampNeg) σ rfl) rfl (by decide) rfl (Nat.le_of_ble_eq_true rfl) ?_
        refine vr_bipush (pc := 39) hc dX1_agreesWith_39 (15 : Int32) (by decide) ?_
        obtain ⟨v9, he8, h⟩ := vz_b1e h
        refine vr_cVi (pc := 41) hc dX1_agreesWith_41 mt_X7_wholeNews ml_X1_39 ha1 (w_X7_wholeNews z μ.2.1 a1 a6 (f_X8_span (0 : Int32) (σ 60 x2.toNatClampNeg)) (15 : Int32) σ ha1 (wc_X7_readerAt ha1 he3) he8) rfl (by decide) rfl (Nat.le_of_ble_eq_true rfl) ?_
        refine vr_istore (pc := 44) hc dX1_agreesWith_44 (by decide) rfl ?_
        refine vr_iload (pc := 46) hc dX1_agreesWith_46 rfl ?_
        refine vr_aload_n (pc := 48) hc dX1_agreesWith_48 rfl ?_
        refine vr_getR (pc := 49) hc dX1_agreesWith_49 fl_X1_15 gc_57 (gr_1_2 gc_57).1 ?_
        refine vr_iload_n (pc := 52) hc dX1_agreesWith_52 rfl ?_
        have hb11 := vz_ifp h
        rw [if_pos hb11] at h
        refine vr_iald (pc := 53) hc 6 dX1_agreesWith_53 ((gr_1_2 gc_57).2.1) ((gr_1_2 gc_57).2.2) (vz_in_vp hb11) ?_
        refine vr_ishr (pc := 54) hc dX1_agreesWith_54 ?_
        refine vr_iconst (pc := 55) hc dX1_agreesWith_55 (1 : Int32) (by decide) ?_
        refine vr_iand (pc := 56) hc dX1_agreesWith_56 ?_
        refine vr_iconst (pc := 57) hc dX1_agreesWith_57 (1 : Int32) (by decide) ?_
        refine vr_icmp_ne (pc := 58) hc 65 dX1_agreesWith_58 (by decide) (fun hb12 => ?_) (fun hb12 => ?_)
        · rw [if_neg hb12] at h
          refine vr_iconst (pc := 65) hc dX1_agreesWith_65 (0 : Int32) (by decide) ?_
          exact vz_sub (wn_X1_agreesWith_66 z μ hc σ hret (fun a1 x2 => f_X1_agreesWith_2 n a1 x2 σ) ih a1 x2 (0 : Int32) ha1 h) (vz_sb1 rfl (vz_sb1 rfl (vz_sb1 rfl vz_sb0)))
        · rw [if_pos hb12] at h
          refine vr_iconst (pc := 61) hc dX1_agreesWith_61 (1 : Int32) (by decide) ?_
          refine vr_goto (pc := 62) hc 66 dX1_agreesWith_62 (by decide) ?_
          exact vz_sub (wn_X1_agreesWith_66 z μ hc σ hret (fun a1 x2 => f_X1_agreesWith_2 n a1 x2 σ) ih a1 x2 (1 : Int32) ha1 h) (vz_sb1 rfl (vz_sb1 rfl (vz_sb1 rfl vz_sb0)))
def f_X1_agreesWith (a1 : Nat) (σ : vz_I) : Option Int32 := f_X1_agreesWith_2 vz_fu a1 (0 : Int32) σ
set_option maxRecDepth 20000 in
set_option maxHeartbeats 1000000 in
theorem w_X1_agreesWith (z : vz_Z) (l : Launch) (a1 : Nat) (σ : vz_I) (ha1 : (vz_G0 a1).1 = 7) {r : Int32} (h : f_X1_agreesWith a1 σ = some r) : vz_Con z l 4 yX1_agreesWith cX1_agreesWith 6 (some .boolean) [.ref 57, .ref a1] vz_G0 σ vz_N0 (some (.int r)) vz_G0 σ vz_N0 0 0 := by
  refine vz_con (by decide) (Nat.le_of_ble_eq_true rfl) (fun μ hc hl hcap hret => ?_)
  subst hl
  unfold f_X1_agreesWith at h
  refine vr_iconst (pc := 0) hc dX1_agreesWith_0 (0 : Int32) (by decide) ?_
  refine vr_istore_n (pc := 1) hc dX1_agreesWith_1 (by decide) rfl ?_
  exact vz_sub (wn_X1_agreesWith_2 z μ hc σ hret vz_fu a1 (0 : Int32) ha1 h) (vz_sb1 rfl (vz_sb1 rfl (vz_sb1 rfl vz_sb0)))
-- X6_isNamed: depth 4, effects S=True W=False P=True
def f_X6_isNamed_20 : Nat → Nat → Int32 → vz_I → Option Int32
  | 0, _, _, _ => none
  | n + 1, x1, x2, σ => if (vz_slen x1) ≤ x2 then some (1 : Int32) else vz_b1 (f_X5_byteAt ((σ 1 4) + x2) σ) (fun v4 => if vz_in x2 (vz_sl.getD x1 0) then if v4 = (vz_sch x1 x2) then f_X6_isNamed_20 n x1 (x2 + (1 : Int32)) σ else some (0 : Int32) else none)
theorem f_X6_isNamed_20_s (n : Nat) (x1 : Nat) (x2 : Int32) (σ : vz_I) : f_X6_isNamed_20  (n + 1) x1 x2 σ = if (vz_slen x1) ≤ x2 then some (1 : Int32) else vz_b1 (f_X5_byteAt ((σ 1 4) + x2) σ) (fun v4 => if vz_in x2 (vz_sl.getD x1 0) then if v4 = (vz_sch x1 x2) then f_X6_isNamed_20 n x1 (x2 + (1 : Int32)) σ else some (0 : Int32) else none) := rfl
set_option maxRecDepth 20000 in
set_option maxHeartbeats 1000000 in
theorem wn_X6_isNamed_20 (z : vz_Z) (μ : vz_M) (hc : vz_C z μ cX6_isNamed RX6 4 3) {r : Int32} (σ : vz_I) (hret : ∀ (pc : Nat) (L : vz_L), vz_ret cX6_isNamed (some .boolean) pc (some (.int r)) → vz_V z μ 0 0 pc L ((some (.int r)) : Option Value).toList vz_G0 σ vz_N0) : ∀ (n : Nat) (x1 : Nat) (x2 : Int32) (hx1 : x1 < 7) (h : f_X6_isNamed_20  n x1 x2 σ = some r), vz_V z μ 0 0 20 [(0, some (.ref 1)), (1, some (.ref (1048576 + x1))), (2, some (.int x2))] [] vz_G0 σ vz_N0 := by
  intro n
  induction n with
  | zero =>
    intro x1 x2 hx1 h
    cases h
  | succ n ih =>
    intro x1 x2 hx1 h
    rw [f_X6_isNamed_20_s] at h
    refine vr_iload_n (pc := 20) hc dX6_isNamed_20 rfl ?_
    refine vr_aload_n (pc := 21) hc dX6_isNamed_21 rfl ?_
    refine vr_slen (pc := 22) hc hx1 dX6_isNamed_22 ml_X6_167 (by decide) (Nat.le_of_ble_eq_true rfl) ?_
    refine vr_icmp_ge (pc := 25) hc 57 dX6_isNamed_25 (by decide) (fun hb2 => ?_) (fun hb2 => ?_)
    · rw [if_pos hb2] at h
      refine vr_iconst (pc := 57) hc dX6_isNamed_57 (1 : Int32) (by decide) ?_
      obtain rfl := Option.some.inj h
      exact hret _ _ (vz_ret_i dX6_isNamed_58 (by decide))
    · rw [if_neg hb2] at h
      refine vr_aload_n (pc := 28) hc dX6_isNamed_28 rfl ?_
      refine vr_getR (pc := 29) hc dX6_isNamed_29 fl_X6_12 gc_1 (gr_6_0 gc_1).1 ?_
      refine vr_aload_n (pc := 32) hc dX6_isNamed_32 rfl ?_
      refine vr_getI (pc := 33) hc dX6_isNamed_33 fl_X6_62 gc_1 (gi_6_4 gc_1) ?_
      refine vr_iload_n (pc := 36) hc dX6_isNamed_36 rfl ?_
      refine vr_iadd (pc := 37) hc dX6_isNamed_37 ?_
      obtain ⟨v4, he3, h⟩ := vz_b1e h
      refine vr_cVi (pc := 38) hc dX6_isNamed_38 mt_X5_byteAt ml_X6_139 ((gr_6_0 gc_1).2.1) (w_X5_byteAt z μ.2.1 ((σ 1 4) + x2) σ he3) rfl (by decide) rfl (Nat.le_of_ble_eq_true rfl) ?_
      refine vr_aload_n (pc := 41) hc dX6_isNamed_41 rfl ?_
      refine vr_iload_n (pc := 42) hc dX6_isNamed_42 rfl ?_
      have hb6 := vz_ifp h
      rw [if_pos hb6] at h
      refine vr_schr (pc := 43) hc hx1 hb6 dX6_isNamed_43 ml_X6_171 (by decide) (Nat.le_of_ble_eq_true rfl) ?_
      refine vr_icmp_eq (pc := 46) hc 51 dX6_isNamed_46 (by decide) (fun hb7 => ?_) (fun hb7 => ?_)
      · rw [if_pos hb7] at h
        refine vr_iinc (pc := 51) hc dX6_isNamed_51 (1 : Int32) (by decide) rfl (by decide) rfl ?_
        refine vr_goto (pc := 54) hc 20 dX6_isNamed_54 (by decide) ?_
        exact vz_sub (ih x1 (x2 + (1 : Int32))  hx1 h) (vz_sb1 rfl (vz_sb1 rfl (vz_sb1 rfl vz_sb0)))
      · rw [if_neg hb7] at h
        refine vr_iconst (pc := 49) hc dX6_isNamed_49 (0 : Int32) (by decide) ?_
        obtain rfl := Option.some.inj h
        exact hret _ _ (vz_ret_i dX6_isNamed_50 (by decide))
def f_X6_isNamed (x1 : Nat) (σ : vz_I) : Option Int32 := if ((σ 1 2) - (σ 1 4)) = (vz_slen x1) then f_X6_isNamed_20 vz_fu x1 (0 : Int32) σ else some (0 : Int32)
set_option maxRecDepth 20000 in
set_option maxHeartbeats 1000000 in
theorem w_X6_isNamed (z : vz_Z) (l : Launch) (x1 : Nat) (σ : vz_I) (hx1 : x1 < 7) {r : Int32} (h : f_X6_isNamed x1 σ = some r) : vz_Con z l 4 yX6_isNamed cX6_isNamed 3 (some .boolean) [.ref 1, .ref (1048576 + x1)] vz_G0 σ vz_N0 (some (.int r)) vz_G0 σ vz_N0 0 0 := by
  refine vz_con (by decide) (Nat.le_of_ble_eq_true rfl) (fun μ hc hl hcap hret => ?_)
  subst hl
  unfold f_X6_isNamed at h
  refine vr_aload_n (pc := 0) hc dX6_isNamed_0 rfl ?_
  refine vr_getI (pc := 1) hc dX6_isNamed_1 fl_X6_29 gc_1 (gi_6_2 gc_1) ?_
  refine vr_aload_n (pc := 4) hc dX6_isNamed_4 rfl ?_
  refine vr_getI (pc := 5) hc dX6_isNamed_5 fl_X6_62 gc_1 (gi_6_4 gc_1) ?_
  refine vr_isub (pc := 8) hc dX6_isNamed_8 ?_
  refine vr_aload_n (pc := 9) hc dX6_isNamed_9 rfl ?_
  refine vr_slen (pc := 10) hc hx1 dX6_isNamed_10 ml_X6_167 (by decide) (Nat.le_of_ble_eq_true rfl) ?_
  refine vr_icmp_eq (pc := 13) hc 18 dX6_isNamed_13 (by decide) (fun hb1 => ?_) (fun hb1 => ?_)
  · rw [if_pos hb1] at h
    refine vr_iconst (pc := 18) hc dX6_isNamed_18 (0 : Int32) (by decide) ?_
    refine vr_istore_n (pc := 19) hc dX6_isNamed_19 (by decide) rfl ?_
    exact vz_sub (wn_X6_isNamed_20 z μ hc σ hret vz_fu x1 (0 : Int32) hx1 h) (vz_sb1 rfl (vz_sb1 rfl (vz_sb1 rfl vz_sb0)))
  · rw [if_neg hb1] at h
    refine vr_iconst (pc := 16) hc dX6_isNamed_16 (0 : Int32) (by decide) ?_
    obtain rfl := Option.some.inj h
    exact hret _ _ (vz_ret_i dX6_isNamed_17 (by decide))
-- X7_pairs: depth 4, effects S=True W=False P=True
def f_X7_pairs_4 : Nat → Nat → Int32 → Int32 → Int32 → vz_I → Option Int32
  | 0, _, _, _, _, _ => none
  | n + 1, a0, x1, x2, x3, σ => if (σ a0 2) ≤ x3 then some x2 else if vz_in x3 4 then vz_b1 (f_X7_wholeNews a0 (a0 + 13 + x3.toNatClampNeg) (1152921504606846975 : Int64) x1 σ) (fun v4 => f_X7_pairs_4 n a0 x1 (x2 + (f_J6_bitCount_0f7a4 v4)) (x3 + (1 : Int32)) σ) else none
theorem f_X7_pairs_4_s (n : Nat) (a0 : Nat) (x1 : Int32) (x2 : Int32) (x3 : Int32) (σ : vz_I) : f_X7_pairs_4  (n + 1) a0 x1 x2 x3 σ = if (σ a0 2) ≤ x3 then some x2 else if vz_in x3 4 then vz_b1 (f_X7_wholeNews a0 (a0 + 13 + x3.toNatClampNeg) (1152921504606846975 : Int64) x1 σ) (fun v4 => f_X7_pairs_4 n a0 x1 (x2 + (f_J6_bitCount_0f7a4 v4)) (x3 + (1 : Int32)) σ) else none := rfl
set_option maxRecDepth 20000 in
set_option maxHeartbeats 1000000 in
theorem wn_X7_pairs_4 (z : vz_Z) (μ : vz_M) (hc : vz_C z μ cX7_pairs RX7 4 4) {r : Int32} (σ : vz_I) (hret : ∀ (pc : Nat) (L : vz_L), vz_ret cX7_pairs (some .int) pc (some (.int r)) → vz_V z μ 0 0 pc L ((some (.int r)) : Option Value).toList vz_G0 σ vz_N0) : ∀ (n : Nat) (a0 : Nat) (x1 : Int32) (x2 : Int32) (x3 : Int32) (ha0 : (vz_G0 a0).1 = 7) (h : f_X7_pairs_4  n a0 x1 x2 x3 σ = some r), vz_V z μ 0 0 4 [(0, some (.ref a0)), (1, some (.int x1)), (2, some (.int x2)), (3, some (.int x3))] [] vz_G0 σ vz_N0 := by
  intro n
  induction n with
  | zero =>
    intro a0 x1 x2 x3 ha0 h
    cases h
  | succ n ih =>
    intro a0 x1 x2 x3 ha0 h
    rw [f_X7_pairs_4_s] at h
    refine vr_iload_n (pc := 4) hc dX7_pairs_4 rfl ?_
    refine vr_aload_n (pc := 5) hc dX7_pairs_5 rfl ?_
    refine vr_getI (pc := 6) hc dX7_pairs_6 fl_X7_39 ha0 (gi_7_2 ha0) ?_
    refine vr_icmp_ge (pc := 9) hc 38 dX7_pairs_9 (by decide) (fun hb1 => ?_) (fun hb1 => ?_)
    · rw [if_pos hb1] at h
      refine vr_iload_n (pc := 38) hc dX7_pairs_38 rfl ?_
      obtain rfl := Option.some.inj h
      exact hret _ _ (vz_ret_i dX7_pairs_39 rfl)
    · rw [if_neg hb1] at h
      refine vr_iload_n (pc := 12) hc dX7_pairs_12 rfl ?_
      refine vr_aload_n (pc := 13) hc dX7_pairs_13 rfl ?_
      refine vr_aload_n (pc := 14) hc dX7_pairs_14 rfl ?_
      refine vr_getR (pc := 15) hc dX7_pairs_15 fl_X7_19 ha0 (gr_7_6 ha0).1 ?_
      refine vr_iload_n (pc := 18) hc dX7_pairs_18 rfl ?_
      have hb2 := vz_ifp h
      rw [if_pos hb2] at h
      refine vr_aald (pc := 19) hc 14 4 dX7_pairs_19 ((gr_7_6 ha0).2.1) (by decide) (by decide) ((gr_7_6 ha0).2.2) (vz_in_vp hb2) (ge_14 ha0 (vz_in_lt hb2)).1 ?_
      refine vr_ldc2 (pc := 20) hc dX7_pairs_20 (1152921504606846975 : Int64) cl_X7_105 ?_
      refine vr_iload_n (pc := 23) hc dX7_pairs_23 rfl ?_
      obtain ⟨v4, he3, h⟩ := vz_b1e h
      refine vr_cVi (pc := 24) hc dX7_pairs_24 mt_X7_wholeNews ml_X7_107 ha0 (w_X7_wholeNews z μ.2.1 a0 (a0 + 13 + x3.toNatClampNeg) (1152921504606846975 : Int64) x1 σ ha0 ((ge_14 ha0 (vz_in_lt hb2)).2) he3) rfl (by decide) rfl (Nat.le_of_ble_eq_true rfl) ?_
      refine vr_cSi (pc := 27) hc dX7_pairs_27 mt_J6_bitCount_0f7a4 sx_J6_bitCount_0f7a4 ml_X7_111  (w_J6_bitCount_0f7a4 z μ.2.1 v4 σ rfl) rfl (by decide) rfl (Nat.le_of_ble_eq_true rfl) ?_
      refine vr_iadd (pc := 30) hc dX7_pairs_30 ?_
      refine vr_istore_n (pc := 31) hc dX7_pairs_31 (by decide) rfl ?_
      refine vr_iinc (pc := 32) hc dX7_pairs_32 (1 : Int32) (by decide) rfl (by decide) rfl ?_
      refine vr_goto (pc := 35) hc 4 dX7_pairs_35 (by decide) ?_
      exact vz_sub (ih a0 x1 (x2 + (f_J6_bitCount_0f7a4 v4)) (x3 + (1 : Int32))  ha0 h) (vz_sb1 rfl (vz_sb1 rfl (vz_sb1 rfl (vz_sb1 rfl vz_sb0))))
def f_X7_pairs (a0 : Nat) (x1 : Int32) (σ : vz_I) : Option Int32 := f_X7_pairs_4 vz_fu a0 x1 (0 : Int32) (0 : Int32) σ
set_option maxRecDepth 20000 in
set_option maxHeartbeats 1000000 in
theorem w_X7_pairs (z : vz_Z) (l : Launch) (a0 : Nat) (x1 : Int32) (σ : vz_I) (ha0 : (vz_G0 a0).1 = 7) {r : Int32} (h : f_X7_pairs a0 x1 σ = some r) : vz_Con z l 4 yX7_pairs cX7_pairs 4 (some .int) [.ref a0, .int x1] vz_G0 σ vz_N0 (some (.int r)) vz_G0 σ vz_N0 0 0 := by
  refine vz_con (by decide) (Nat.le_of_ble_eq_true rfl) (fun μ hc hl hcap hret => ?_)
  subst hl
  unfold f_X7_pairs at h
  refine vr_iconst (pc := 0) hc dX7_pairs_0 (0 : Int32) (by decide) ?_
  refine vr_istore_n (pc := 1) hc dX7_pairs_1 (by decide) rfl ?_
  refine vr_iconst (pc := 2) hc dX7_pairs_2 (0 : Int32) (by decide) ?_
  refine vr_istore_n (pc := 3) hc dX7_pairs_3 (by decide) rfl ?_
  exact vz_sub (wn_X7_pairs_4 z μ hc σ hret vz_fu a0 x1 (0 : Int32) (0 : Int32) ha0 h) (vz_sb1 rfl (vz_sb1 rfl (vz_sb1 rfl (vz_sb1 rfl vz_sb0))))
-- X8_knows: depth 4, effects S=True W=False P=True
def f_X8_knows (x1 : Int32) (x2 : Int32) (x3 : Int32) (σ : vz_I) : Option Int32 := vz_b1 (f_X7_readerAt 21 x1 σ) (fun v2 => vz_mo v2 (some (-1 : Int32)) (fun a4 => if (f_X8_isMinute x2) = 0 then some (-1 : Int32) else if x3 = 0 then vz_b1 (f_X7_newsRead 21 a4 (0 : Int32) (f_X8_span (0 : Int32) x2) (15 : Int32) σ) (fun v8 => some v8) else if x3 = 1 then vz_b1 (f_X7_newsRead 21 a4 (1 : Int32) (f_X8_span (0 : Int32) x2) (15 : Int32) σ) (fun v12 => some v12) else if x3 = 2 then vz_b1 (f_X7_wholeNews 21 a4 (f_X8_span (0 : Int32) x2) (15 : Int32) σ) (fun v16 => some v16) else some (-1 : Int32)))
set_option maxRecDepth 20000 in
set_option maxHeartbeats 1000000 in
theorem w_X8_knows (z : vz_Z) (l : Launch) (x1 : Int32) (x2 : Int32) (x3 : Int32) (σ : vz_I)  {r : Int32} (h : f_X8_knows x1 x2 x3 σ = some r) : vz_Con z l 4 yX8_knows cX8_knows 7 (some .int) [.ref 0, .int x1, .int x2, .int x3] vz_G0 σ vz_N0 (some (.int r)) vz_G0 σ vz_N0 0 0 := by
  refine vz_con (by decide) (Nat.le_of_ble_eq_true rfl) (fun μ hc hl hcap hret => ?_)
  subst hl
  unfold f_X8_knows at h
  refine vr_aload_n (pc := 0) hc dX8_knows_0 rfl ?_
  refine vr_getR (pc := 1) hc dX8_knows_1 fl_X8_19 gc_0 (gr_8_1 gc_0).1 ?_
  refine vr_iload_n (pc := 4) hc dX8_knows_4 rfl ?_
  obtain ⟨v2, he1, h⟩ := vz_b1e h
  cases v2 with
  | none =>
    rw [vz_mo_n] at h
    refine vr_cVn (pc := 5) hc dX8_knows_5 mt_X7_readerAt ml_X8_169 ((gr_8_1 gc_0).2.1) (w_X7_readerAt z μ.2.1 21 x1 σ ((gr_8_1 gc_0).2.1) he1) rfl (by decide) rfl (Nat.le_of_ble_eq_true rfl) ?_
    refine vr_astoreN (pc := 8) hc dX8_knows_8 (by decide) rfl ?_
    refine vr_aloadN (pc := 10) hc dX8_knows_10 rfl ?_
    refine vr_ifnullN (pc := 12) hc 22 dX8_knows_12 (by decide) ?_
    refine vr_iconst (pc := 22) hc dX8_knows_22 (-1 : Int32) (by decide) ?_
    obtain rfl := Option.some.inj h
    exact hret _ _ (vz_ret_i dX8_knows_23 rfl)
  | some a4 =>
    rw [vz_mo_s] at h
    refine vr_cVa (pc := 5) hc dX8_knows_5 mt_X7_readerAt ml_X8_169 ((gr_8_1 gc_0).2.1) (w_X7_readerAt z μ.2.1 21 x1 σ ((gr_8_1 gc_0).2.1) he1) rfl (by decide) rfl (Nat.le_of_ble_eq_true rfl) ?_
    refine vr_astore (pc := 8) hc dX8_knows_8 (by decide) rfl ?_
    refine vr_aload (pc := 10) hc dX8_knows_10 rfl ?_
    refine vr_ifnull (pc := 12) hc dX8_knows_12 ?_
    refine vr_iload_n (pc := 15) hc dX8_knows_15 rfl ?_
    refine vr_cSi (pc := 16) hc dX8_knows_16 mt_X8_isMinute sx_X8_isMinute ml_X8_205  (w_X8_isMinute z μ.2.1 x2 σ rfl) rfl (by decide) rfl (Nat.le_of_ble_eq_true rfl) ?_
    refine vr_if_ne (pc := 19) hc 24 dX8_knows_19 (by decide) (fun hb5 => ?_) (fun hb5 => ?_)
    · rw [if_neg hb5] at h
      refine vr_iconst (pc := 24) hc dX8_knows_24 (0 : Int32) (by decide) ?_
      refine vr_iload_n (pc := 25) hc dX8_knows_25 rfl ?_
      refine vr_cSj (pc := 26) hc dX8_knows_26 mt_X8_span sx_X8_span ml_X8_223  (w_X8_span z μ.2.1 (0 : Int32) x2 σ rfl) rfl (by decide) rfl (Nat.le_of_ble_eq_true rfl) ?_
      refine vr_lstore (pc := 29) hc dX8_knows_29 (by decide) rfl ?_
      refine vr_iload_n (pc := 31) hc dX8_knows_31 rfl ?_
      by_cases hb6 : x3 = 0
      · rw [if_pos hb6] at h
        refine vr_tableIn (pc := 32) hc _ 60 dX8_knows_32 (by rw [hb6]; decide) (by rw [hb6]; decide) (off := 28) (by rw [hb6]; decide) (by decide) ?_
        refine vr_aload_n (pc := 60) hc dX8_knows_60 rfl ?_
        refine vr_getR (pc := 61) hc dX8_knows_61 fl_X8_19 gc_0 (gr_8_1 gc_0).1 ?_
        refine vr_aload (pc := 64) hc dX8_knows_64 rfl ?_
        refine vr_iconst (pc := 66) hc dX8_knows_66 (0 : Int32) (by decide) ?_
        refine vr_lload (pc := 67) hc dX8_knows_67 rfl ?_
        refine vr_bipush (pc := 69) hc dX8_knows_69 (15 : Int32) (by decide) ?_
        obtain ⟨v8, he7, h⟩ := vz_b1e h
        refine vr_cVi (pc := 71) hc dX8_knows_71 mt_X7_newsRead ml_X8_227 ((gr_8_1 gc_0).2.1) (w_X7_newsRead z μ.2.1 21 a4 (0 : Int32) (f_X8_span (0 : Int32) x2) (15 : Int32) σ ((gr_8_1 gc_0).2.1) (wc_X7_readerAt ((gr_8_1 gc_0).2.1) he1) he7) rfl (by decide) rfl (Nat.le_of_ble_eq_true rfl) ?_
        obtain rfl := Option.some.inj h
        exact hret _ _ (vz_ret_i dX8_knows_74 rfl)
      rw [if_neg hb6] at h
      by_cases hb10 : x3 = 1
      · rw [if_pos hb10] at h
        refine vr_tableIn (pc := 32) hc _ 75 dX8_knows_32 (by rw [hb10]; decide) (by rw [hb10]; decide) (off := 43) (by rw [hb10]; decide) (by decide) ?_
        refine vr_aload_n (pc := 75) hc dX8_knows_75 rfl ?_
        refine vr_getR (pc := 76) hc dX8_knows_76 fl_X8_19 gc_0 (gr_8_1 gc_0).1 ?_
        refine vr_aload (pc := 79) hc dX8_knows_79 rfl ?_
        refine vr_iconst (pc := 81) hc dX8_knows_81 (1 : Int32) (by decide) ?_
        refine vr_lload (pc := 82) hc dX8_knows_82 rfl ?_
        refine vr_bipush (pc := 84) hc dX8_knows_84 (15 : Int32) (by decide) ?_
        obtain ⟨v12, he11, h⟩ := vz_b1e h
        refine vr_cVi (pc := 86) hc dX8_knows_86 mt_X7_newsRead ml_X8_227 ((gr_8_1 gc_0).2.1) (w_X7_newsRead z μ.2.1 21 a4 (1 : Int32) (f_X8_span (0 : Int32) x2) (15 : Int32) σ ((gr_8_1 gc_0).2.1) (wc_X7_readerAt ((gr_8_1 gc_0).2.1) he1) he11) rfl (by decide) rfl (Nat.le_of_ble_eq_true rfl) ?_
        obtain rfl := Option.some.inj h
        exact hret _ _ (vz_ret_i dX8_knows_89 rfl)
      rw [if_neg hb10] at h
      by_cases hb14 : x3 = 2
      · rw [if_pos hb14] at h
        refine vr_tableIn (pc := 32) hc _ 90 dX8_knows_32 (by rw [hb14]; decide) (by rw [hb14]; decide) (off := 58) (by rw [hb14]; decide) (by decide) ?_
        refine vr_aload_n (pc := 90) hc dX8_knows_90 rfl ?_
        refine vr_getR (pc := 91) hc dX8_knows_91 fl_X8_19 gc_0 (gr_8_1 gc_0).1 ?_
        refine vr_aload (pc := 94) hc dX8_knows_94 rfl ?_
        refine vr_lload (pc := 96) hc dX8_knows_96 rfl ?_
        refine vr_bipush (pc := 98) hc dX8_knows_98 (15 : Int32) (by decide) ?_
        obtain ⟨v16, he15, h⟩ := vz_b1e h
        refine vr_cVi (pc := 100) hc dX8_knows_100 mt_X7_wholeNews ml_X8_231 ((gr_8_1 gc_0).2.1) (w_X7_wholeNews z μ.2.1 21 a4 (f_X8_span (0 : Int32) x2) (15 : Int32) σ ((gr_8_1 gc_0).2.1) (wc_X7_readerAt ((gr_8_1 gc_0).2.1) he1) he15) rfl (by decide) rfl (Nat.le_of_ble_eq_true rfl) ?_
        obtain rfl := Option.some.inj h
        exact hret _ _ (vz_ret_i dX8_knows_103 rfl)
      rw [if_neg hb14] at h
      refine vr_tableOut (pc := 32) hc 104 dX8_knows_32 (by have e0 := lv_neT hb6 (show (0 : Int32).toInt = 0 by decide); have e1 := lv_neT hb10 (show (1 : Int32).toInt = 1 by decide); have e2 := lv_neT hb14 (show (2 : Int32).toInt = 2 by decide); omega) (by decide) ?_
      refine vr_iconst (pc := 104) hc dX8_knows_104 (-1 : Int32) (by decide) ?_
      obtain rfl := Option.some.inj h
      exact hret _ _ (vz_ret_i dX8_knows_105 rfl)
    · rw [if_pos hb5] at h
      refine vr_iconst (pc := 22) hc dX8_knows_22 (-1 : Int32) (by decide) ?_
      obtain rfl := Option.some.inj h
      exact hret _ _ (vz_ret_i dX8_knows_23 rfl)
-- X8_first: depth 4, effects S=True W=False P=True
def f_X8_first (x1 : Int32) (x2 : Int32) (σ : vz_I) : Option Int32 := vz_b1 (f_X7_readerAt 21 x1 σ) (fun v2 => vz_mo v2 (some (-1 : Int32)) (fun a4 => if (f_X8_isNews x2) = 0 then some (-1 : Int32) else vz_b1 (f_X7_firstWhole 21 a4 x2 σ) (fun v7 => some v7)))
set_option maxRecDepth 20000 in
set_option maxHeartbeats 1000000 in
theorem w_X8_first (z : vz_Z) (l : Launch) (x1 : Int32) (x2 : Int32) (σ : vz_I)  {r : Int32} (h : f_X8_first x1 x2 σ = some r) : vz_Con z l 4 yX8_first cX8_first 4 (some .int) [.ref 0, .int x1, .int x2] vz_G0 σ vz_N0 (some (.int r)) vz_G0 σ vz_N0 0 0 := by
  refine vz_con (by decide) (Nat.le_of_ble_eq_true rfl) (fun μ hc hl hcap hret => ?_)
  subst hl
  unfold f_X8_first at h
  refine vr_aload_n (pc := 0) hc dX8_first_0 rfl ?_
  refine vr_getR (pc := 1) hc dX8_first_1 fl_X8_19 gc_0 (gr_8_1 gc_0).1 ?_
  refine vr_iload_n (pc := 4) hc dX8_first_4 rfl ?_
  obtain ⟨v2, he1, h⟩ := vz_b1e h
  cases v2 with
  | none =>
    rw [vz_mo_n] at h
    refine vr_cVn (pc := 5) hc dX8_first_5 mt_X7_readerAt ml_X8_169 ((gr_8_1 gc_0).2.1) (w_X7_readerAt z μ.2.1 21 x1 σ ((gr_8_1 gc_0).2.1) he1) rfl (by decide) rfl (Nat.le_of_ble_eq_true rfl) ?_
    refine vr_astoreN_n (pc := 8) hc dX8_first_8 (by decide) rfl ?_
    refine vr_aloadN_n (pc := 9) hc dX8_first_9 rfl ?_
    refine vr_ifnullN (pc := 10) hc 20 dX8_first_10 (by decide) ?_
    refine vr_iconst (pc := 20) hc dX8_first_20 (-1 : Int32) (by decide) ?_
    refine vr_goto (pc := 21) hc 33 dX8_first_21 (by decide) ?_
    obtain rfl := Option.some.inj h
    exact hret _ _ (vz_ret_i dX8_first_33 rfl)
  | some a4 =>
    rw [vz_mo_s] at h
    refine vr_cVa (pc := 5) hc dX8_first_5 mt_X7_readerAt ml_X8_169 ((gr_8_1 gc_0).2.1) (w_X7_readerAt z μ.2.1 21 x1 σ ((gr_8_1 gc_0).2.1) he1) rfl (by decide) rfl (Nat.le_of_ble_eq_true rfl) ?_
    refine vr_astore_n (pc := 8) hc dX8_first_8 (by decide) rfl ?_
    refine vr_aload_n (pc := 9) hc dX8_first_9 rfl ?_
    refine vr_ifnull (pc := 10) hc dX8_first_10 ?_
    refine vr_iload_n (pc := 13) hc dX8_first_13 rfl ?_
    refine vr_cSi (pc := 14) hc dX8_first_14 mt_X8_isNews sx_X8_isNews ml_X8_182  (w_X8_isNews z μ.2.1 x2 σ rfl) rfl (by decide) rfl (Nat.le_of_ble_eq_true rfl) ?_
    refine vr_if_ne (pc := 17) hc 24 dX8_first_17 (by decide) (fun hb5 => ?_) (fun hb5 => ?_)
    · rw [if_neg hb5] at h
      refine vr_aload_n (pc := 24) hc dX8_first_24 rfl ?_
      refine vr_getR (pc := 25) hc dX8_first_25 fl_X8_19 gc_0 (gr_8_1 gc_0).1 ?_
      refine vr_aload_n (pc := 28) hc dX8_first_28 rfl ?_
      refine vr_iload_n (pc := 29) hc dX8_first_29 rfl ?_
      obtain ⟨v7, he6, h⟩ := vz_b1e h
      refine vr_cVi (pc := 30) hc dX8_first_30 mt_X7_firstWhole ml_X8_235 ((gr_8_1 gc_0).2.1) (w_X7_firstWhole z μ.2.1 21 a4 x2 σ ((gr_8_1 gc_0).2.1) (wc_X7_readerAt ((gr_8_1 gc_0).2.1) he1) he6) rfl (by decide) rfl (Nat.le_of_ble_eq_true rfl) ?_
      obtain rfl := Option.some.inj h
      exact hret _ _ (vz_ret_i dX8_first_33 rfl)
    · rw [if_pos hb5] at h
      refine vr_iconst (pc := 20) hc dX8_first_20 (-1 : Int32) (by decide) ?_
      refine vr_goto (pc := 21) hc 33 dX8_first_21 (by decide) ?_
      obtain rfl := Option.some.inj h
      exact hret _ _ (vz_ret_i dX8_first_33 rfl)
-- X8_all: depth 4, effects S=True W=False P=True
def f_X8_all_13 : Nat → Int32 → Int32 → Int32 → vz_I → Option Int32
  | 0, _, _, _, _ => none
  | n + 1, x1, x2, x3, σ => if (σ 21 2) ≤ x3 then some x2 else if vz_in x3 4 then vz_b1 (f_X7_firstWhole 21 (21 + 13 + x3.toNatClampNeg) x1 σ) (fun v5 => if v5 = (-4 : Int32) then f_X8_all_13 n x1 x2 (x3 + (1 : Int32)) σ else f_X8_all_13 n x1 (x2 ||| ((1 : Int32) <<< (x3 &&& 31))) (x3 + (1 : Int32)) σ) else none
theorem f_X8_all_13_s (n : Nat) (x1 : Int32) (x2 : Int32) (x3 : Int32) (σ : vz_I) : f_X8_all_13  (n + 1) x1 x2 x3 σ = if (σ 21 2) ≤ x3 then some x2 else if vz_in x3 4 then vz_b1 (f_X7_firstWhole 21 (21 + 13 + x3.toNatClampNeg) x1 σ) (fun v5 => if v5 = (-4 : Int32) then f_X8_all_13 n x1 x2 (x3 + (1 : Int32)) σ else f_X8_all_13 n x1 (x2 ||| ((1 : Int32) <<< (x3 &&& 31))) (x3 + (1 : Int32)) σ) else none := rfl
set_option maxRecDepth 20000 in
set_option maxHeartbeats 1000000 in
theorem wn_X8_all_13 (z : vz_Z) (μ : vz_M) (hc : vz_C z μ cX8_all RX8 4 4) {r : Int32} (σ : vz_I) (hret : ∀ (pc : Nat) (L : vz_L), vz_ret cX8_all (some .int) pc (some (.int r)) → vz_V z μ 0 0 pc L ((some (.int r)) : Option Value).toList vz_G0 σ vz_N0) : ∀ (n : Nat) (x1 : Int32) (x2 : Int32) (x3 : Int32)  (h : f_X8_all_13  n x1 x2 x3 σ = some r), vz_V z μ 0 0 13 [(0, some (.ref 0)), (1, some (.int x1)), (2, some (.int x2)), (3, some (.int x3))] [] vz_G0 σ vz_N0 := by
  intro n
  induction n with
  | zero =>
    intro x1 x2 x3 h
    cases h
  | succ n ih =>
    intro x1 x2 x3 h
    rw [f_X8_all_13_s] at h
    refine vr_iload_n (pc := 13) hc dX8_all_13 rfl ?_
    refine vr_aload_n (pc := 14) hc dX8_all_14 rfl ?_
    refine vr_getR (pc := 15) hc dX8_all_15 fl_X8_19 gc_0 (gr_8_1 gc_0).1 ?_
    refine vr_getI (pc := 18) hc dX8_all_18 fl_X8_113 ((gr_8_1 gc_0).2.1) (gi_7_2 ((gr_8_1 gc_0).2.1)) ?_
    refine vr_icmp_ge (pc := 21) hc 58 dX8_all_21 (by decide) (fun hb2 => ?_) (fun hb2 => ?_)
    · rw [if_pos hb2] at h
      refine vr_iload_n (pc := 58) hc dX8_all_58 rfl ?_
      obtain rfl := Option.some.inj h
      exact hret _ _ (vz_ret_i dX8_all_59 rfl)
    · rw [if_neg hb2] at h
      refine vr_aload_n (pc := 24) hc dX8_all_24 rfl ?_
      refine vr_getR (pc := 25) hc dX8_all_25 fl_X8_19 gc_0 (gr_8_1 gc_0).1 ?_
      refine vr_aload_n (pc := 28) hc dX8_all_28 rfl ?_
      refine vr_getR (pc := 29) hc dX8_all_29 fl_X8_19 gc_0 (gr_8_1 gc_0).1 ?_
      refine vr_getR (pc := 32) hc dX8_all_32 fl_X8_239 ((gr_8_1 gc_0).2.1) (gr_7_6 ((gr_8_1 gc_0).2.1)).1 ?_
      refine vr_iload_n (pc := 35) hc dX8_all_35 rfl ?_
      have hb3 := vz_ifp h
      rw [if_pos hb3] at h
      refine vr_aald (pc := 36) hc 14 4 dX8_all_36 ((gr_7_6 ((gr_8_1 gc_0).2.1)).2.1) (by decide) (by decide) ((gr_7_6 ((gr_8_1 gc_0).2.1)).2.2) (vz_in_vp hb3) (ge_14 ((gr_8_1 gc_0).2.1) (vz_in_lt hb3)).1 ?_
      refine vr_iload_n (pc := 37) hc dX8_all_37 rfl ?_
      obtain ⟨v5, he4, h⟩ := vz_b1e h
      refine vr_cVi (pc := 38) hc dX8_all_38 mt_X7_firstWhole ml_X8_235 ((gr_8_1 gc_0).2.1) (w_X7_firstWhole z μ.2.1 21 (21 + 13 + x3.toNatClampNeg) x1 σ ((gr_8_1 gc_0).2.1) ((ge_14 ((gr_8_1 gc_0).2.1) (vz_in_lt hb3)).2) he4) rfl (by decide) rfl (Nat.le_of_ble_eq_true rfl) ?_
      refine vr_bipush (pc := 41) hc dX8_all_41 (-4 : Int32) (by decide) ?_
      refine vr_icmp_eq (pc := 43) hc 52 dX8_all_43 (by decide) (fun hb7 => ?_) (fun hb7 => ?_)
      · rw [if_pos hb7] at h
        refine vr_iinc (pc := 52) hc dX8_all_52 (1 : Int32) (by decide) rfl (by decide) rfl ?_
        refine vr_goto (pc := 55) hc 13 dX8_all_55 (by decide) ?_
        exact vz_sub (ih x1 x2 (x3 + (1 : Int32))   h) (vz_sb1 rfl (vz_sb1 rfl (vz_sb1 rfl (vz_sb1 rfl vz_sb0))))
      · rw [if_neg hb7] at h
        refine vr_iload_n (pc := 46) hc dX8_all_46 rfl ?_
        refine vr_iconst (pc := 47) hc dX8_all_47 (1 : Int32) (by decide) ?_
        refine vr_iload_n (pc := 48) hc dX8_all_48 rfl ?_
        refine vr_ishl (pc := 49) hc dX8_all_49 ?_
        refine vr_ior (pc := 50) hc dX8_all_50 ?_
        refine vr_istore_n (pc := 51) hc dX8_all_51 (by decide) rfl ?_
        refine vr_iinc (pc := 52) hc dX8_all_52 (1 : Int32) (by decide) rfl (by decide) rfl ?_
        refine vr_goto (pc := 55) hc 13 dX8_all_55 (by decide) ?_
        exact vz_sub (ih x1 (x2 ||| ((1 : Int32) <<< (x3 &&& 31))) (x3 + (1 : Int32))   h) (vz_sb1 rfl (vz_sb1 rfl (vz_sb1 rfl (vz_sb1 rfl vz_sb0))))
def f_X8_all (x1 : Int32) (σ : vz_I) : Option Int32 := if (f_X8_isNews x1) = 0 then some (-1 : Int32) else f_X8_all_13 vz_fu x1 (0 : Int32) (0 : Int32) σ
set_option maxRecDepth 20000 in
set_option maxHeartbeats 1000000 in
theorem w_X8_all (z : vz_Z) (l : Launch) (x1 : Int32) (σ : vz_I)  {r : Int32} (h : f_X8_all x1 σ = some r) : vz_Con z l 4 yX8_all cX8_all 4 (some .int) [.ref 0, .int x1] vz_G0 σ vz_N0 (some (.int r)) vz_G0 σ vz_N0 0 0 := by
  refine vz_con (by decide) (Nat.le_of_ble_eq_true rfl) (fun μ hc hl hcap hret => ?_)
  subst hl
  unfold f_X8_all at h
  refine vr_iload_n (pc := 0) hc dX8_all_0 rfl ?_
  refine vr_cSi (pc := 1) hc dX8_all_1 mt_X8_isNews sx_X8_isNews ml_X8_182  (w_X8_isNews z μ.2.1 x1 σ rfl) rfl (by decide) rfl (Nat.le_of_ble_eq_true rfl) ?_
  refine vr_if_ne (pc := 4) hc 9 dX8_all_4 (by decide) (fun hb1 => ?_) (fun hb1 => ?_)
  · rw [if_neg hb1] at h
    refine vr_iconst (pc := 9) hc dX8_all_9 (0 : Int32) (by decide) ?_
    refine vr_istore_n (pc := 10) hc dX8_all_10 (by decide) rfl ?_
    refine vr_iconst (pc := 11) hc dX8_all_11 (0 : Int32) (by decide) ?_
    refine vr_istore_n (pc := 12) hc dX8_all_12 (by decide) rfl ?_
    exact vz_sub (wn_X8_all_13 z μ hc σ hret vz_fu x1 (0 : Int32) (0 : Int32) h) (vz_sb1 rfl (vz_sb1 rfl (vz_sb1 rfl (vz_sb1 rfl vz_sb0))))
  · rw [if_pos hb1] at h
    refine vr_iconst (pc := 7) hc dX8_all_7 (-1 : Int32) (by decide) ?_
    obtain rfl := Option.some.inj h
    exact hret _ _ (vz_ret_i dX8_all_8 rfl)
-- X8_best: depth 4, effects S=True W=True P=True
def f_X8_best_43 : Nat → Int32 → Int32 → vz_I → Option (Int32 × vz_I)
  | 0, _, _, _ => none
  | n + 1, x2, x4, σ => if (8 : Int32) ≤ x4 then some (f_X2_told x2 σ, σ) else vz_b1 (f_X7_wholeNews 21 63 (1152921504606846975 : Int64) (15 : Int32) (vz_up σ 63 0 x4)) (fun v8 => f_X8_best_43 n x2 (x4 + (1 : Int32)) (f_X2_offer x4 (f_J6_bitCount_0f7a4 v8) (vz_up σ 63 0 x4)))
theorem f_X8_best_43_s (n : Nat) (x2 : Int32) (x4 : Int32) (σ : vz_I) : f_X8_best_43  (n + 1) x2 x4 σ = if (8 : Int32) ≤ x4 then some (f_X2_told x2 σ, σ) else vz_b1 (f_X7_wholeNews 21 63 (1152921504606846975 : Int64) (15 : Int32) (vz_up σ 63 0 x4)) (fun v8 => f_X8_best_43 n x2 (x4 + (1 : Int32)) (f_X2_offer x4 (f_J6_bitCount_0f7a4 v8) (vz_up σ 63 0 x4))) := rfl
set_option maxRecDepth 20000 in
set_option maxHeartbeats 1000000 in
theorem wn_X8_best_43 (z : vz_Z) (μ : vz_M) (hc : vz_C z μ cX8_best RX8 4 5) {r : Int32} {σ' : vz_I} (hret : ∀ (pc : Nat) (L : vz_L), vz_ret cX8_best (some .int) pc (some (.int r)) → vz_V z μ 0 0 pc L ((some (.int r)) : Option Value).toList vz_G0 σ' vz_N0) : ∀ (n : Nat) (x2 : Int32) (x4 : Int32) (σ : vz_I)  (h : f_X8_best_43  n x2 x4 σ = some (r, σ')), vz_V z μ 0 0 43 [(0, some (.ref 0)), (2, some (.int x2)), (4, some (.int x4))] [] vz_G0 σ vz_N0 := by
  intro n
  induction n with
  | zero =>
    intro x2 x4 σ h
    cases h
  | succ n ih =>
    intro x2 x4 σ h
    rw [f_X8_best_43_s] at h
    refine vr_iload (pc := 43) hc dX8_best_43 rfl ?_
    refine vr_bipush (pc := 45) hc dX8_best_45 (8 : Int32) (by decide) ?_
    refine vr_icmp_ge (pc := 47) hc 93 dX8_best_47 (by decide) (fun hb6 => ?_) (fun hb6 => ?_)
    · rw [if_pos hb6] at h
      refine vr_aload_n (pc := 93) hc dX8_best_93 rfl ?_
      refine vr_getR (pc := 94) hc dX8_best_94 fl_X8_57 gc_0 (gr_8_8 gc_0).1 ?_
      refine vr_iload_n (pc := 97) hc dX8_best_97 rfl ?_
      refine vr_cVi (pc := 98) hc dX8_best_98 mt_X2_told ml_X8_258 ((gr_8_8 gc_0).2.1) (w_X2_told z μ.2.1 x2 σ rfl) rfl (by decide) rfl (Nat.le_of_ble_eq_true rfl) ?_
      obtain ⟨rfl, rfl⟩ := vz_in2 h
      exact hret _ _ (vz_ret_i dX8_best_101 rfl)
    · rw [if_neg hb6] at h
      refine vr_aload_n (pc := 50) hc dX8_best_50 rfl ?_
      refine vr_getR (pc := 51) hc dX8_best_51 fl_X8_50 gc_0 (gr_8_7 gc_0).1 ?_
      refine vr_iload (pc := 54) hc dX8_best_54 rfl ?_
      refine vr_putI (pc := 56) hc dX8_best_56 fl_X8_173 ((gr_8_7 gc_0).2.1) (gi_3_0 ((gr_8_7 gc_0).2.1)) rfl rfl ?_
      refine vr_aload_n (pc := 59) hc dX8_best_59 rfl ?_
      refine vr_getR (pc := 60) hc dX8_best_60 fl_X8_57 gc_0 (gr_8_8 gc_0).1 ?_
      refine vr_iload (pc := 63) hc dX8_best_63 rfl ?_
      refine vr_aload_n (pc := 65) hc dX8_best_65 rfl ?_
      refine vr_getR (pc := 66) hc dX8_best_66 fl_X8_19 gc_0 (gr_8_1 gc_0).1 ?_
      refine vr_aload_n (pc := 69) hc dX8_best_69 rfl ?_
      refine vr_getR (pc := 70) hc dX8_best_70 fl_X8_50 gc_0 (gr_8_7 gc_0).1 ?_
      refine vr_ldc2 (pc := 73) hc dX8_best_73 (1152921504606846975 : Int64) cl_X8_249 ?_
      refine vr_bipush (pc := 76) hc dX8_best_76 (15 : Int32) (by decide) ?_
      obtain ⟨v8, he7, h⟩ := vz_b1e h
      refine vr_cVi (pc := 78) hc dX8_best_78 mt_X7_wholeNews ml_X8_231 ((gr_8_1 gc_0).2.1) (w_X7_wholeNews z μ.2.1 21 63 (1152921504606846975 : Int64) (15 : Int32) (vz_up σ 63 0 x4) ((gr_8_1 gc_0).2.1) ((gr_8_7 gc_0).2.1) he7) rfl (by decide) rfl (Nat.le_of_ble_eq_true rfl) ?_
      refine vr_cSi (pc := 81) hc dX8_best_81 mt_J6_bitCount_0f7a4 sx_J6_bitCount_0f7a4 ml_X8_251  (w_J6_bitCount_0f7a4 z μ.2.1 v8 (vz_up σ 63 0 x4) rfl) rfl (by decide) rfl (Nat.le_of_ble_eq_true rfl) ?_
      refine vr_cVv (pc := 84) hc dX8_best_84 mt_X2_offer ml_X8_255 ((gr_8_8 gc_0).2.1) (w_X2_offer z μ.2.1 x4 (f_J6_bitCount_0f7a4 v8) (vz_up σ 63 0 x4) rfl) rfl (by decide) rfl (Nat.le_of_ble_eq_true rfl) ?_
      refine vr_iinc (pc := 87) hc dX8_best_87 (1 : Int32) (by decide) rfl (by decide) rfl ?_
      refine vr_goto (pc := 90) hc 43 dX8_best_90 (by decide) ?_
      exact vz_sub (ih x2 (x4 + (1 : Int32)) (f_X2_offer x4 (f_J6_bitCount_0f7a4 v8) (vz_up σ 63 0 x4))  h) (vz_sb1 rfl (vz_sb1 rfl (vz_sb1 rfl vz_sb0)))
def f_X8_best (x1 : Int32) (x2 : Int32) (σ : vz_I) : Option (Int32 × vz_I) := vz_b1 (f_X7_readerAt 21 x1 σ) (fun v2 => vz_mo v2 (some ((-1 : Int32), σ)) (fun a4 => if (f_X8_isEither x2) = 0 then some ((-1 : Int32), σ) else f_X8_best_43 vz_fu x2 (0 : Int32) (f_X2_restart (-1000 : Int32) (f_X3_copyFrom 63 a4 σ))))
set_option maxRecDepth 20000 in
set_option maxHeartbeats 1000000 in
theorem w_X8_best (z : vz_Z) (l : Launch) (x1 : Int32) (x2 : Int32) (σ : vz_I)  {r : Int32} {σ' : vz_I} (h : f_X8_best x1 x2 σ = some (r, σ')) : vz_Con z l 4 yX8_best cX8_best 5 (some .int) [.ref 0, .int x1, .int x2] vz_G0 σ vz_N0 (some (.int r)) vz_G0 σ' vz_N0 0 0 := by
  refine vz_con (by decide) (Nat.le_of_ble_eq_true rfl) (fun μ hc hl hcap hret => ?_)
  subst hl
  unfold f_X8_best at h
  refine vr_aload_n (pc := 0) hc dX8_best_0 rfl ?_
  refine vr_getR (pc := 1) hc dX8_best_1 fl_X8_19 gc_0 (gr_8_1 gc_0).1 ?_
  refine vr_iload_n (pc := 4) hc dX8_best_4 rfl ?_
  obtain ⟨v2, he1, h⟩ := vz_b1e h
  cases v2 with
  | none =>
    rw [vz_mo_n] at h
    refine vr_cVn (pc := 5) hc dX8_best_5 mt_X7_readerAt ml_X8_169 ((gr_8_1 gc_0).2.1) (w_X7_readerAt z μ.2.1 21 x1 σ ((gr_8_1 gc_0).2.1) he1) rfl (by decide) rfl (Nat.le_of_ble_eq_true rfl) ?_
    refine vr_astoreN_n (pc := 8) hc dX8_best_8 (by decide) rfl ?_
    refine vr_aloadN_n (pc := 9) hc dX8_best_9 rfl ?_
    refine vr_ifnullN (pc := 10) hc 20 dX8_best_10 (by decide) ?_
    refine vr_iconst (pc := 20) hc dX8_best_20 (-1 : Int32) (by decide) ?_
    obtain ⟨rfl, rfl⟩ := vz_in2 h
    exact hret _ _ (vz_ret_i dX8_best_21 rfl)
  | some a4 =>
    rw [vz_mo_s] at h
    refine vr_cVa (pc := 5) hc dX8_best_5 mt_X7_readerAt ml_X8_169 ((gr_8_1 gc_0).2.1) (w_X7_readerAt z μ.2.1 21 x1 σ ((gr_8_1 gc_0).2.1) he1) rfl (by decide) rfl (Nat.le_of_ble_eq_true rfl) ?_
    refine vr_astore_n (pc := 8) hc dX8_best_8 (by decide) rfl ?_
    refine vr_aload_n (pc := 9) hc dX8_best_9 rfl ?_
    refine vr_ifnull (pc := 10) hc dX8_best_10 ?_
    refine vr_iload_n (pc := 13) hc dX8_best_13 rfl ?_
    refine vr_cSi (pc := 14) hc dX8_best_14 mt_X8_isEither sx_X8_isEither ml_X8_160  (w_X8_isEither z μ.2.1 x2 σ rfl) rfl (by decide) rfl (Nat.le_of_ble_eq_true rfl) ?_
    refine vr_if_ne (pc := 17) hc 22 dX8_best_17 (by decide) (fun hb5 => ?_) (fun hb5 => ?_)
    · rw [if_neg hb5] at h
      refine vr_aload_n (pc := 22) hc dX8_best_22 rfl ?_
      refine vr_getR (pc := 23) hc dX8_best_23 fl_X8_50 gc_0 (gr_8_7 gc_0).1 ?_
      refine vr_aload_n (pc := 26) hc dX8_best_26 rfl ?_
      refine vr_cVv (pc := 27) hc dX8_best_27 mt_X3_copyFrom ml_X8_243 ((gr_8_7 gc_0).2.1) (w_X3_copyFrom z μ.2.1 63 a4 σ ((gr_8_7 gc_0).2.1) (wc_X7_readerAt ((gr_8_1 gc_0).2.1) he1) rfl) rfl (by decide) rfl (Nat.le_of_ble_eq_true rfl) ?_
      refine vr_aload_n (pc := 30) hc dX8_best_30 rfl ?_
      refine vr_getR (pc := 31) hc dX8_best_31 fl_X8_57 gc_0 (gr_8_8 gc_0).1 ?_
      refine vr_sipush (pc := 34) hc dX8_best_34 (-1000 : Int32) (by decide) ?_
      refine vr_cVv (pc := 37) hc dX8_best_37 mt_X2_restart ml_X8_246 ((gr_8_8 gc_0).2.1) (w_X2_restart z μ.2.1 (-1000 : Int32) (f_X3_copyFrom 63 a4 σ) rfl) rfl (by decide) rfl (Nat.le_of_ble_eq_true rfl) ?_
      refine vr_iconst (pc := 40) hc dX8_best_40 (0 : Int32) (by decide) ?_
      refine vr_istore (pc := 41) hc dX8_best_41 (by decide) rfl ?_
      exact vz_sub (wn_X8_best_43 z μ hc hret vz_fu x2 (0 : Int32) (f_X2_restart (-1000 : Int32) (f_X3_copyFrom 63 a4 σ)) h) (vz_sb1 rfl (vz_sb1 rfl (vz_sb1 rfl vz_sb0)))
    · rw [if_pos hb5] at h
      refine vr_iconst (pc := 20) hc dX8_best_20 (-1 : Int32) (by decide) ?_
      obtain ⟨rfl, rfl⟩ := vz_in2 h
      exact hret _ _ (vz_ret_i dX8_best_21 rfl)
-- X8_soon: depth 4, effects S=True W=True P=True
def f_X8_soon (x1 : Int32) (x2 : Int32) (σ : vz_I) : Option (Int32 × vz_I) := vz_b1 (f_X7_readerAt 21 x1 σ) (fun v2 => vz_mo v2 (some ((-1 : Int32), σ)) (fun a4 => if (f_X8_isNews x2) = 0 then some ((-1 : Int32), σ) else vz_b1 (f_X7_firstWhole 21 63 x2 (vz_up (f_X3_copyFrom 63 a4 σ) 63 2 (59 : Int32))) (fun v7 => some (v7, vz_up (f_X3_copyFrom 63 a4 σ) 63 2 (59 : Int32)))))
set_option maxRecDepth 20000 in
set_option maxHeartbeats 1000000 in
theorem w_X8_soon (z : vz_Z) (l : Launch) (x1 : Int32) (x2 : Int32) (σ : vz_I)  {r : Int32} {σ' : vz_I} (h : f_X8_soon x1 x2 σ = some (r, σ')) : vz_Con z l 4 yX8_soon cX8_soon 4 (some .int) [.ref 0, .int x1, .int x2] vz_G0 σ vz_N0 (some (.int r)) vz_G0 σ' vz_N0 0 0 := by
  refine vz_con (by decide) (Nat.le_of_ble_eq_true rfl) (fun μ hc hl hcap hret => ?_)
  subst hl
  unfold f_X8_soon at h
  refine vr_aload_n (pc := 0) hc dX8_soon_0 rfl ?_
  refine vr_getR (pc := 1) hc dX8_soon_1 fl_X8_19 gc_0 (gr_8_1 gc_0).1 ?_
  refine vr_iload_n (pc := 4) hc dX8_soon_4 rfl ?_
  obtain ⟨v2, he1, h⟩ := vz_b1e h
  cases v2 with
  | none =>
    rw [vz_mo_n] at h
    refine vr_cVn (pc := 5) hc dX8_soon_5 mt_X7_readerAt ml_X8_169 ((gr_8_1 gc_0).2.1) (w_X7_readerAt z μ.2.1 21 x1 σ ((gr_8_1 gc_0).2.1) he1) rfl (by decide) rfl (Nat.le_of_ble_eq_true rfl) ?_
    refine vr_astoreN_n (pc := 8) hc dX8_soon_8 (by decide) rfl ?_
    refine vr_aloadN_n (pc := 9) hc dX8_soon_9 rfl ?_
    refine vr_ifnullN (pc := 10) hc 20 dX8_soon_10 (by decide) ?_
    refine vr_iconst (pc := 20) hc dX8_soon_20 (-1 : Int32) (by decide) ?_
    obtain ⟨rfl, rfl⟩ := vz_in2 h
    exact hret _ _ (vz_ret_i dX8_soon_21 rfl)
  | some a4 =>
    rw [vz_mo_s] at h
    refine vr_cVa (pc := 5) hc dX8_soon_5 mt_X7_readerAt ml_X8_169 ((gr_8_1 gc_0).2.1) (w_X7_readerAt z μ.2.1 21 x1 σ ((gr_8_1 gc_0).2.1) he1) rfl (by decide) rfl (Nat.le_of_ble_eq_true rfl) ?_
    refine vr_astore_n (pc := 8) hc dX8_soon_8 (by decide) rfl ?_
    refine vr_aload_n (pc := 9) hc dX8_soon_9 rfl ?_
    refine vr_ifnull (pc := 10) hc dX8_soon_10 ?_
    refine vr_iload_n (pc := 13) hc dX8_soon_13 rfl ?_
    refine vr_cSi (pc := 14) hc dX8_soon_14 mt_X8_isNews sx_X8_isNews ml_X8_182  (w_X8_isNews z μ.2.1 x2 σ rfl) rfl (by decide) rfl (Nat.le_of_ble_eq_true rfl) ?_
    refine vr_if_ne (pc := 17) hc 22 dX8_soon_17 (by decide) (fun hb5 => ?_) (fun hb5 => ?_)
    · rw [if_neg hb5] at h
      refine vr_aload_n (pc := 22) hc dX8_soon_22 rfl ?_
      refine vr_getR (pc := 23) hc dX8_soon_23 fl_X8_50 gc_0 (gr_8_7 gc_0).1 ?_
      refine vr_aload_n (pc := 26) hc dX8_soon_26 rfl ?_
      refine vr_cVv (pc := 27) hc dX8_soon_27 mt_X3_copyFrom ml_X8_243 ((gr_8_7 gc_0).2.1) (w_X3_copyFrom z μ.2.1 63 a4 σ ((gr_8_7 gc_0).2.1) (wc_X7_readerAt ((gr_8_1 gc_0).2.1) he1) rfl) rfl (by decide) rfl (Nat.le_of_ble_eq_true rfl) ?_
      refine vr_aload_n (pc := 30) hc dX8_soon_30 rfl ?_
      refine vr_getR (pc := 31) hc dX8_soon_31 fl_X8_50 gc_0 (gr_8_7 gc_0).1 ?_
      refine vr_bipush (pc := 34) hc dX8_soon_34 (59 : Int32) (by decide) ?_
      refine vr_putI (pc := 36) hc dX8_soon_36 fl_X8_179 ((gr_8_7 gc_0).2.1) (gi_3_2 ((gr_8_7 gc_0).2.1)) rfl rfl ?_
      refine vr_aload_n (pc := 39) hc dX8_soon_39 rfl ?_
      refine vr_getR (pc := 40) hc dX8_soon_40 fl_X8_19 gc_0 (gr_8_1 gc_0).1 ?_
      refine vr_aload_n (pc := 43) hc dX8_soon_43 rfl ?_
      refine vr_getR (pc := 44) hc dX8_soon_44 fl_X8_50 gc_0 (gr_8_7 gc_0).1 ?_
      refine vr_iload_n (pc := 47) hc dX8_soon_47 rfl ?_
      obtain ⟨v7, he6, h⟩ := vz_b1e h
      refine vr_cVi (pc := 48) hc dX8_soon_48 mt_X7_firstWhole ml_X8_235 ((gr_8_1 gc_0).2.1) (w_X7_firstWhole z μ.2.1 21 63 x2 (vz_up (f_X3_copyFrom 63 a4 σ) 63 2 (59 : Int32)) ((gr_8_1 gc_0).2.1) ((gr_8_7 gc_0).2.1) he6) rfl (by decide) rfl (Nat.le_of_ble_eq_true rfl) ?_
      obtain ⟨rfl, rfl⟩ := vz_in2 h
      exact hret _ _ (vz_ret_i dX8_soon_51 rfl)
    · rw [if_pos hb5] at h
      refine vr_iconst (pc := 20) hc dX8_soon_20 (-1 : Int32) (by decide) ?_
      obtain ⟨rfl, rfl⟩ := vz_in2 h
      exact hret _ _ (vz_ret_i dX8_soon_21 rfl)
-- X8_luck: depth 4, effects S=True W=False P=True
def f_X8_luck_50 : Nat → Int32 → Int32 → Int32 → Nat → Int64 → Int32 → vz_I → Option Int64
  | 0, _, _, _, _, _, _, _ => none
  | n + 1, x1, x3, x4, a5, j6, x8, σ => if ((1 : Int32) <<< ((σ 21 0) &&& 31)) ≤ x8 then vz_b1 (f_X7_weightOfAll 21 σ) (fun v11 => vz_b1 (f_X8_partOfFraction j6 v11 x4) (fun v14 => some v14)) else vz_b1 (f_X7_weight 21 x1 x8 σ) (fun v17 => vz_b1 (f_X7_wholeNews 21 a5 (1152921504606846975 : Int64) x8 σ) (fun v20 => f_X8_luck_50 n x1 x3 x4 a5 (j6 + (v17 * (((v20 >>> (x3 &&& 31)) &&& (1 : Int32)).toInt64))) (x8 + (1 : Int32)) σ))
theorem f_X8_luck_50_s (n : Nat) (x1 : Int32) (x3 : Int32) (x4 : Int32) (a5 : Nat) (j6 : Int64) (x8 : Int32) (σ : vz_I) : f_X8_luck_50  (n + 1) x1 x3 x4 a5 j6 x8 σ = if ((1 : Int32) <<< ((σ 21 0) &&& 31)) ≤ x8 then vz_b1 (f_X7_weightOfAll 21 σ) (fun v11 => vz_b1 (f_X8_partOfFraction j6 v11 x4) (fun v14 => some v14)) else vz_b1 (f_X7_weight 21 x1 x8 σ) (fun v17 => vz_b1 (f_X7_wholeNews 21 a5 (1152921504606846975 : Int64) x8 σ) (fun v20 => f_X8_luck_50 n x1 x3 x4 a5 (j6 + (v17 * (((v20 >>> (x3 &&& 31)) &&& (1 : Int32)).toInt64))) (x8 + (1 : Int32)) σ)) := rfl
set_option maxRecDepth 20000 in
set_option maxHeartbeats 1000000 in
theorem wn_X8_luck_50 (z : vz_Z) (μ : vz_M) (hc : vz_C z μ cX8_luck RX8 4 9) {r : Int64} (σ : vz_I) (hret : ∀ (pc : Nat) (L : vz_L), vz_ret cX8_luck (some .long) pc (some (.long r)) → vz_V z μ 0 0 pc L ((some (.long r)) : Option Value).toList vz_G0 σ vz_N0) : ∀ (n : Nat) (x1 : Int32) (x3 : Int32) (x4 : Int32) (a5 : Nat) (j6 : Int64) (x8 : Int32) (ha5 : (vz_G0 a5).1 = 3) (h : f_X8_luck_50  n x1 x3 x4 a5 j6 x8 σ = some r), vz_V z μ 0 0 50 [(0, some (.ref 0)), (1, some (.int x1)), (3, some (.int x3)), (4, some (.int x4)), (5, some (.ref a5)), (6, some (.long j6)), (8, some (.int x8))] [] vz_G0 σ vz_N0 := by
  intro n
  induction n with
  | zero =>
    intro x1 x3 x4 a5 j6 x8 ha5 h
    cases h
  | succ n ih =>
    intro x1 x3 x4 a5 j6 x8 ha5 h
    rw [f_X8_luck_50_s] at h
    refine vr_iload (pc := 50) hc dX8_luck_50 rfl ?_
    refine vr_iconst (pc := 52) hc dX8_luck_52 (1 : Int32) (by decide) ?_
    refine vr_aload_n (pc := 53) hc dX8_luck_53 rfl ?_
    refine vr_getR (pc := 54) hc dX8_luck_54 fl_X8_19 gc_0 (gr_8_1 gc_0).1 ?_
    refine vr_getI (pc := 57) hc dX8_luck_57 fl_X8_107 ((gr_8_1 gc_0).2.1) (gi_7_0 ((gr_8_1 gc_0).2.1)) ?_
    refine vr_ishl (pc := 60) hc dX8_luck_60 ?_
    refine vr_icmp_ge (pc := 61) hc 105 dX8_luck_61 (by decide) (fun hb9 => ?_) (fun hb9 => ?_)
    · rw [if_pos hb9] at h
      refine vr_lload (pc := 105) hc dX8_luck_105 rfl ?_
      refine vr_aload_n (pc := 107) hc dX8_luck_107 rfl ?_
      refine vr_getR (pc := 108) hc dX8_luck_108 fl_X8_19 gc_0 (gr_8_1 gc_0).1 ?_
      obtain ⟨v11, he10, h⟩ := vz_b1e h
      refine vr_cVj (pc := 111) hc dX8_luck_111 mt_X7_weightOfAll ml_X8_285 ((gr_8_1 gc_0).2.1) (w_X7_weightOfAll z μ.2.1 21 σ ((gr_8_1 gc_0).2.1) he10) rfl (by decide) rfl (Nat.le_of_ble_eq_true rfl) ?_
      refine vr_iload (pc := 114) hc dX8_luck_114 rfl ?_
      obtain ⟨v14, he13, h⟩ := vz_b1e h
      refine vr_cSj (pc := 116) hc dX8_luck_116 mt_X8_partOfFraction sx_X8_partOfFraction ml_X8_289  (w_X8_partOfFraction z μ.2.1 j6 v11 x4 σ he13) rfl (by decide) rfl (Nat.le_of_ble_eq_true rfl) ?_
      obtain rfl := Option.some.inj h
      exact hret _ _ (vz_ret_l dX8_luck_119)
    · rw [if_neg hb9] at h
      refine vr_lload (pc := 64) hc dX8_luck_64 rfl ?_
      refine vr_aload_n (pc := 66) hc dX8_luck_66 rfl ?_
      refine vr_getR (pc := 67) hc dX8_luck_67 fl_X8_19 gc_0 (gr_8_1 gc_0).1 ?_
      refine vr_iload_n (pc := 70) hc dX8_luck_70 rfl ?_
      refine vr_iload (pc := 71) hc dX8_luck_71 rfl ?_
      obtain ⟨v17, he16, h⟩ := vz_b1e h
      refine vr_cVj (pc := 73) hc dX8_luck_73 mt_X7_weight ml_X8_282 ((gr_8_1 gc_0).2.1) (w_X7_weight z μ.2.1 21 x1 x8 σ ((gr_8_1 gc_0).2.1) he16) rfl (by decide) rfl (Nat.le_of_ble_eq_true rfl) ?_
      refine vr_aload_n (pc := 76) hc dX8_luck_76 rfl ?_
      refine vr_getR (pc := 77) hc dX8_luck_77 fl_X8_19 gc_0 (gr_8_1 gc_0).1 ?_
      refine vr_aload (pc := 80) hc dX8_luck_80 rfl ?_
      refine vr_ldc2 (pc := 82) hc dX8_luck_82 (1152921504606846975 : Int64) cl_X8_249 ?_
      refine vr_iload (pc := 85) hc dX8_luck_85 rfl ?_
      obtain ⟨v20, he19, h⟩ := vz_b1e h
      refine vr_cVi (pc := 87) hc dX8_luck_87 mt_X7_wholeNews ml_X8_231 ((gr_8_1 gc_0).2.1) (w_X7_wholeNews z μ.2.1 21 a5 (1152921504606846975 : Int64) x8 σ ((gr_8_1 gc_0).2.1) ha5 he19) rfl (by decide) rfl (Nat.le_of_ble_eq_true rfl) ?_
      refine vr_iload_n (pc := 90) hc dX8_luck_90 rfl ?_
      refine vr_ishr (pc := 91) hc dX8_luck_91 ?_
      refine vr_iconst (pc := 92) hc dX8_luck_92 (1 : Int32) (by decide) ?_
      refine vr_iand (pc := 93) hc dX8_luck_93 ?_
      refine vr_i2l (pc := 94) hc dX8_luck_94 ?_
      refine vr_lmul (pc := 95) hc dX8_luck_95 ?_
      refine vr_ladd (pc := 96) hc dX8_luck_96 ?_
      refine vr_lstore (pc := 97) hc dX8_luck_97 (by decide) rfl ?_
      refine vr_iinc (pc := 99) hc dX8_luck_99 (1 : Int32) (by decide) rfl (by decide) rfl ?_
      refine vr_goto (pc := 102) hc 50 dX8_luck_102 (by decide) ?_
      exact vz_sub (ih x1 x3 x4 a5 (j6 + (v17 * (((v20 >>> (x3 &&& 31)) &&& (1 : Int32)).toInt64))) (x8 + (1 : Int32))  ha5 h) (vz_sb1 rfl (vz_sb1 rfl (vz_sb1 rfl (vz_sb1 rfl (vz_sb1 rfl (vz_sb1 rfl (vz_sb1 rfl vz_sb0)))))))
def f_X8_luck (x1 : Int32) (x2 : Int32) (x3 : Int32) (x4 : Int32) (σ : vz_I) : Option Int64 := vz_b1 (f_X7_readerAt 21 x2 σ) (fun v2 => vz_mo v2 (if (f_X8_isWithin x1 (0 : Int32) (10 : Int32)) = 0 then some (-1 : Int64) else some (-1 : Int64)) (fun a5 => if (f_X8_isWithin x1 (0 : Int32) (10 : Int32)) = 0 then some (-1 : Int64) else if (f_X8_isNews x3) = 0 then some (-1 : Int64) else if (f_X8_isEither x4) = 0 then some (-1 : Int64) else f_X8_luck_50 vz_fu x1 x3 x4 a5 (0 : Int64) (0 : Int32) σ))
set_option maxRecDepth 20000 in
set_option maxHeartbeats 1000000 in
theorem w_X8_luck (z : vz_Z) (l : Launch) (x1 : Int32) (x2 : Int32) (x3 : Int32) (x4 : Int32) (σ : vz_I)  {r : Int64} (h : f_X8_luck x1 x2 x3 x4 σ = some r) : vz_Con z l 4 yX8_luck cX8_luck 9 (some .long) [.ref 0, .int x1, .int x2, .int x3, .int x4] vz_G0 σ vz_N0 (some (.long r)) vz_G0 σ vz_N0 0 0 := by
  refine vz_con (by decide) (Nat.le_of_ble_eq_true rfl) (fun μ hc hl hcap hret => ?_)
  subst hl
  unfold f_X8_luck at h
  refine vr_aload_n (pc := 0) hc dX8_luck_0 rfl ?_
  refine vr_getR (pc := 1) hc dX8_luck_1 fl_X8_19 gc_0 (gr_8_1 gc_0).1 ?_
  refine vr_iload_n (pc := 4) hc dX8_luck_4 rfl ?_
  obtain ⟨v2, he1, h⟩ := vz_b1e h
  cases v2 with
  | none =>
    rw [vz_mo_n] at h
    refine vr_cVn (pc := 5) hc dX8_luck_5 mt_X7_readerAt ml_X8_169 ((gr_8_1 gc_0).2.1) (w_X7_readerAt z μ.2.1 21 x2 σ ((gr_8_1 gc_0).2.1) he1) rfl (by decide) rfl (Nat.le_of_ble_eq_true rfl) ?_
    refine vr_astoreN (pc := 8) hc dX8_luck_8 (by decide) rfl ?_
    refine vr_iload_n (pc := 10) hc dX8_luck_10 rfl ?_
    refine vr_iconst (pc := 11) hc dX8_luck_11 (0 : Int32) (by decide) ?_
    refine vr_bipush (pc := 12) hc dX8_luck_12 (10 : Int32) (by decide) ?_
    refine vr_cSi (pc := 14) hc dX8_luck_14 mt_X8_isWithin sx_X8_isWithin ml_X8_70  (w_X8_isWithin z μ.2.1 x1 (0 : Int32) (10 : Int32) σ rfl) rfl (by decide) rfl (Nat.le_of_ble_eq_true rfl) ?_
    refine vr_if_eq (pc := 17) hc 40 dX8_luck_17 (by decide) (fun hb4 => ?_) (fun hb4 => ?_)
    · rw [if_pos hb4] at h
      refine vr_ldc2 (pc := 40) hc dX8_luck_40 (-1 : Int64) cl_X8_280 ?_
      obtain rfl := Option.some.inj h
      exact hret _ _ (vz_ret_l dX8_luck_43)
    · rw [if_neg hb4] at h
      refine vr_aloadN (pc := 20) hc dX8_luck_20 rfl ?_
      refine vr_ifnullN (pc := 22) hc 40 dX8_luck_22 (by decide) ?_
      refine vr_ldc2 (pc := 40) hc dX8_luck_40 (-1 : Int64) cl_X8_280 ?_
      obtain rfl := Option.some.inj h
      exact hret _ _ (vz_ret_l dX8_luck_43)
  | some a5 =>
    rw [vz_mo_s] at h
    refine vr_cVa (pc := 5) hc dX8_luck_5 mt_X7_readerAt ml_X8_169 ((gr_8_1 gc_0).2.1) (w_X7_readerAt z μ.2.1 21 x2 σ ((gr_8_1 gc_0).2.1) he1) rfl (by decide) rfl (Nat.le_of_ble_eq_true rfl) ?_
    refine vr_astore (pc := 8) hc dX8_luck_8 (by decide) rfl ?_
    refine vr_iload_n (pc := 10) hc dX8_luck_10 rfl ?_
    refine vr_iconst (pc := 11) hc dX8_luck_11 (0 : Int32) (by decide) ?_
    refine vr_bipush (pc := 12) hc dX8_luck_12 (10 : Int32) (by decide) ?_
    refine vr_cSi (pc := 14) hc dX8_luck_14 mt_X8_isWithin sx_X8_isWithin ml_X8_70  (w_X8_isWithin z μ.2.1 x1 (0 : Int32) (10 : Int32) σ rfl) rfl (by decide) rfl (Nat.le_of_ble_eq_true rfl) ?_
    refine vr_if_eq (pc := 17) hc 40 dX8_luck_17 (by decide) (fun hb6 => ?_) (fun hb6 => ?_)
    · rw [if_pos hb6] at h
      refine vr_ldc2 (pc := 40) hc dX8_luck_40 (-1 : Int64) cl_X8_280 ?_
      obtain rfl := Option.some.inj h
      exact hret _ _ (vz_ret_l dX8_luck_43)
    · rw [if_neg hb6] at h
      refine vr_aload (pc := 20) hc dX8_luck_20 rfl ?_
      refine vr_ifnull (pc := 22) hc dX8_luck_22 ?_
      refine vr_iload_n (pc := 25) hc dX8_luck_25 rfl ?_
      refine vr_cSi (pc := 26) hc dX8_luck_26 mt_X8_isNews sx_X8_isNews ml_X8_182  (w_X8_isNews z μ.2.1 x3 σ rfl) rfl (by decide) rfl (Nat.le_of_ble_eq_true rfl) ?_
      refine vr_if_eq (pc := 29) hc 40 dX8_luck_29 (by decide) (fun hb7 => ?_) (fun hb7 => ?_)
      · rw [if_pos hb7] at h
        refine vr_ldc2 (pc := 40) hc dX8_luck_40 (-1 : Int64) cl_X8_280 ?_
        obtain rfl := Option.some.inj h
        exact hret _ _ (vz_ret_l dX8_luck_43)
      · rw [if_neg hb7] at h
        refine vr_iload (pc := 32) hc dX8_luck_32 rfl ?_
        refine vr_cSi (pc := 34) hc dX8_luck_34 mt_X8_isEither sx_X8_isEither ml_X8_160  (w_X8_isEither z μ.2.1 x4 σ rfl) rfl (by decide) rfl (Nat.le_of_ble_eq_true rfl) ?_
        refine vr_if_ne (pc := 37) hc 44 dX8_luck_37 (by decide) (fun hb8 => ?_) (fun hb8 => ?_)
        · rw [if_neg hb8] at h
          refine vr_lconst (pc := 44) hc dX8_luck_44 (0 : Int64) (by decide) ?_
          refine vr_lstore (pc := 45) hc dX8_luck_45 (by decide) rfl ?_
          refine vr_iconst (pc := 47) hc dX8_luck_47 (0 : Int32) (by decide) ?_
          refine vr_istore (pc := 48) hc dX8_luck_48 (by decide) rfl ?_
          exact vz_sub (wn_X8_luck_50 z μ hc σ hret vz_fu x1 x3 x4 a5 (0 : Int64) (0 : Int32) (wc_X7_readerAt ((gr_8_1 gc_0).2.1) he1) h) (vz_sb1 rfl (vz_sb1 rfl (vz_sb1 rfl (vz_sb1 rfl (vz_sb1 rfl (vz_sb1 rfl (vz_sb1 rfl vz_sb0)))))))
        · rw [if_pos hb8] at h
          refine vr_ldc2 (pc := 40) hc dX8_luck_40 (-1 : Int64) cl_X8_280 ?_
          obtain rfl := Option.some.inj h
          exact hret _ _ (vz_ret_l dX8_luck_43)
-- X8_noteWhenKnown: depth 4, effects S=True W=True P=True
def f_X8_noteWhenKnown_33 : Nat → Int32 → vz_I → Option vz_I
  | 0, _, _ => none
  | n + 1, x5, σ => some σ
theorem f_X8_noteWhenKnown_33_s (n : Nat) (x5 : Int32) (σ : vz_I) : f_X8_noteWhenKnown_33  (n + 1) x5 σ = some σ := rfl
set_option maxRecDepth 20000 in
set_option maxHeartbeats 1000000 in
theorem wn_X8_noteWhenKnown_33 (z : vz_Z) (μ : vz_M) (hc : vz_C z μ cX8_noteWhenKnown RX8 4 6) {σ' : vz_I} (hret : ∀ (pc : Nat) (L : vz_L), vz_ret cX8_noteWhenKnown none pc none → vz_V z μ 0 0 pc L (none : Option Value).toList vz_G0 σ' vz_N0) : ∀ (n : Nat) (x5 : Int32) (σ : vz_I)  (h : f_X8_noteWhenKnown_33  n x5 σ = some σ'), vz_V z μ 0 0 33 [(0, some (.ref 0)), (3, some (.null)), (4, some (.null)), (5, some (.int x5))] [] vz_G0 σ vz_N0 := by
  intro n
  induction n with
  | zero =>
    intro x5 σ h
    cases h
  | succ n ih =>
    intro x5 σ h
    rw [f_X8_noteWhenKnown_33_s] at h
    refine vr_aloadN_n (pc := 33) hc dX8_noteWhenKnown_33 rfl ?_
    refine vr_ifnullN (pc := 34) hc 80 dX8_noteWhenKnown_34 (by decide) ?_
    obtain rfl := Option.some.inj h
    exact hret _ _ (vz_ret_v dX8_noteWhenKnown_80)
def f_X8_noteWhenKnown_33_2 : Nat → Nat → Int32 → vz_I → Option vz_I
  | 0, _, _, _ => none
  | n + 1, a4, x5, σ => some σ
theorem f_X8_noteWhenKnown_33_2_s (n : Nat) (a4 : Nat) (x5 : Int32) (σ : vz_I) : f_X8_noteWhenKnown_33_2  (n + 1) a4 x5 σ = some σ := rfl
set_option maxRecDepth 20000 in
set_option maxHeartbeats 1000000 in
theorem wn_X8_noteWhenKnown_33_2 (z : vz_Z) (μ : vz_M) (hc : vz_C z μ cX8_noteWhenKnown RX8 4 6) {σ' : vz_I} (hret : ∀ (pc : Nat) (L : vz_L), vz_ret cX8_noteWhenKnown none pc none → vz_V z μ 0 0 pc L (none : Option Value).toList vz_G0 σ' vz_N0) : ∀ (n : Nat) (a4 : Nat) (x5 : Int32) (σ : vz_I) (ha4 : (vz_G0 a4).1 = 3) (h : f_X8_noteWhenKnown_33_2  n a4 x5 σ = some σ'), vz_V z μ 0 0 33 [(0, some (.ref 0)), (3, some (.null)), (4, some (.ref a4)), (5, some (.int x5))] [] vz_G0 σ vz_N0 := by
  intro n
  induction n with
  | zero =>
    intro a4 x5 σ ha4 h
    cases h
  | succ n ih =>
    intro a4 x5 σ ha4 h
    rw [f_X8_noteWhenKnown_33_2_s] at h
    refine vr_aloadN_n (pc := 33) hc dX8_noteWhenKnown_33 rfl ?_
    refine vr_ifnullN (pc := 34) hc 80 dX8_noteWhenKnown_34 (by decide) ?_
    obtain rfl := Option.some.inj h
    exact hret _ _ (vz_ret_v dX8_noteWhenKnown_80)
def f_X8_noteWhenKnown_33_3 : Nat → Nat → Int32 → vz_I → Option vz_I
  | 0, _, _, _ => none
  | n + 1, a3, x5, σ => some σ
theorem f_X8_noteWhenKnown_33_3_s (n : Nat) (a3 : Nat) (x5 : Int32) (σ : vz_I) : f_X8_noteWhenKnown_33_3  (n + 1) a3 x5 σ = some σ := rfl
set_option maxRecDepth 20000 in
set_option maxHeartbeats 1000000 in
theorem wn_X8_noteWhenKnown_33_3 (z : vz_Z) (μ : vz_M) (hc : vz_C z μ cX8_noteWhenKnown RX8 4 6) {σ' : vz_I} (hret : ∀ (pc : Nat) (L : vz_L), vz_ret cX8_noteWhenKnown none pc none → vz_V z μ 0 0 pc L (none : Option Value).toList vz_G0 σ' vz_N0) : ∀ (n : Nat) (a3 : Nat) (x5 : Int32) (σ : vz_I) (ha3 : (vz_G0 a3).1 = 0) (h : f_X8_noteWhenKnown_33_3  n a3 x5 σ = some σ'), vz_V z μ 0 0 33 [(0, some (.ref 0)), (3, some (.ref a3)), (4, some (.null)), (5, some (.int x5))] [] vz_G0 σ vz_N0 := by
  intro n
  induction n with
  | zero =>
    intro a3 x5 σ ha3 h
    cases h
  | succ n ih =>
    intro a3 x5 σ ha3 h
    rw [f_X8_noteWhenKnown_33_3_s] at h
    refine vr_aload_n (pc := 33) hc dX8_noteWhenKnown_33 rfl ?_
    refine vr_ifnull (pc := 34) hc dX8_noteWhenKnown_34 ?_
    refine vr_aloadN (pc := 37) hc dX8_noteWhenKnown_37 rfl ?_
    refine vr_ifnullN (pc := 39) hc 80 dX8_noteWhenKnown_39 (by decide) ?_
    obtain rfl := Option.some.inj h
    exact hret _ _ (vz_ret_v dX8_noteWhenKnown_80)
def f_X8_noteWhenKnown_33_4 : Nat → Nat → Nat → Int32 → vz_I → Option vz_I
  | 0, _, _, _, _ => none
  | n + 1, a3, a4, x5, σ => if (4 : Int32) ≤ x5 then some σ else vz_b1 (f_X7_firstWhole 38 a4 ((vz_up σ a3 0 x5) a3 1) (vz_up σ a3 0 x5)) (fun v18 => if vz_in x5 4 then f_X8_noteWhenKnown_33_4 n a3 a4 (x5 + (1 : Int32)) (vz_up (vz_up σ a3 0 x5) 65 x5.toNatClampNeg v18) else none)
theorem f_X8_noteWhenKnown_33_4_s (n : Nat) (a3 : Nat) (a4 : Nat) (x5 : Int32) (σ : vz_I) : f_X8_noteWhenKnown_33_4  (n + 1) a3 a4 x5 σ = if (4 : Int32) ≤ x5 then some σ else vz_b1 (f_X7_firstWhole 38 a4 ((vz_up σ a3 0 x5) a3 1) (vz_up σ a3 0 x5)) (fun v18 => if vz_in x5 4 then f_X8_noteWhenKnown_33_4 n a3 a4 (x5 + (1 : Int32)) (vz_up (vz_up σ a3 0 x5) 65 x5.toNatClampNeg v18) else none) := rfl
set_option maxRecDepth 20000 in
set_option maxHeartbeats 1000000 in
theorem wn_X8_noteWhenKnown_33_4 (z : vz_Z) (μ : vz_M) (hc : vz_C z μ cX8_noteWhenKnown RX8 4 6) {σ' : vz_I} (hret : ∀ (pc : Nat) (L : vz_L), vz_ret cX8_noteWhenKnown none pc none → vz_V z μ 0 0 pc L (none : Option Value).toList vz_G0 σ' vz_N0) : ∀ (n : Nat) (a3 : Nat) (a4 : Nat) (x5 : Int32) (σ : vz_I) (ha3 : (vz_G0 a3).1 = 0) (ha4 : (vz_G0 a4).1 = 3) (h : f_X8_noteWhenKnown_33_4  n a3 a4 x5 σ = some σ'), vz_V z μ 0 0 33 [(0, some (.ref 0)), (3, some (.ref a3)), (4, some (.ref a4)), (5, some (.int x5))] [] vz_G0 σ vz_N0 := by
  intro n
  induction n with
  | zero =>
    intro a3 a4 x5 σ ha3 ha4 h
    cases h
  | succ n ih =>
    intro a3 a4 x5 σ ha3 ha4 h
    rw [f_X8_noteWhenKnown_33_4_s] at h
    refine vr_aload_n (pc := 33) hc dX8_noteWhenKnown_33 rfl ?_
    refine vr_ifnull (pc := 34) hc dX8_noteWhenKnown_34 ?_
    refine vr_aload (pc := 37) hc dX8_noteWhenKnown_37 rfl ?_
    refine vr_ifnull (pc := 39) hc dX8_noteWhenKnown_39 ?_
    refine vr_iload (pc := 42) hc dX8_noteWhenKnown_42 rfl ?_
    refine vr_iconst (pc := 44) hc dX8_noteWhenKnown_44 (4 : Int32) (by decide) ?_
    refine vr_icmp_ge (pc := 45) hc 80 dX8_noteWhenKnown_45 (by decide) (fun hb16 => ?_) (fun hb16 => ?_)
    · rw [if_pos hb16] at h
      obtain rfl := Option.some.inj h
      exact hret _ _ (vz_ret_v dX8_noteWhenKnown_80)
    · rw [if_neg hb16] at h
      refine vr_aload_n (pc := 48) hc dX8_noteWhenKnown_48 rfl ?_
      refine vr_iload (pc := 49) hc dX8_noteWhenKnown_49 rfl ?_
      refine vr_putI (pc := 51) hc dX8_noteWhenKnown_51 fl_X8_130 ha3 (gi_0_0 ha3) rfl rfl ?_
      refine vr_aload_n (pc := 54) hc dX8_noteWhenKnown_54 rfl ?_
      refine vr_getR (pc := 55) hc dX8_noteWhenKnown_55 fl_X8_61 gc_0 (gr_8_9 gc_0).1 ?_
      refine vr_iload (pc := 58) hc dX8_noteWhenKnown_58 rfl ?_
      refine vr_aload_n (pc := 60) hc dX8_noteWhenKnown_60 rfl ?_
      refine vr_getR (pc := 61) hc dX8_noteWhenKnown_61 fl_X8_23 gc_0 (gr_8_2 gc_0).1 ?_
      refine vr_aload (pc := 64) hc dX8_noteWhenKnown_64 rfl ?_
      refine vr_aload_n (pc := 66) hc dX8_noteWhenKnown_66 rfl ?_
      refine vr_getI (pc := 67) hc dX8_noteWhenKnown_67 fl_X8_135 ha3 (gi_0_1 ha3) ?_
      obtain ⟨v18, he17, h⟩ := vz_b1e h
      refine vr_cVi (pc := 70) hc dX8_noteWhenKnown_70 mt_X7_firstWhole ml_X8_235 ((gr_8_2 gc_0).2.1) (w_X7_firstWhole z μ.2.1 38 a4 ((vz_up σ a3 0 x5) a3 1) (vz_up σ a3 0 x5) ((gr_8_2 gc_0).2.1) ha4 he17) rfl (by decide) rfl (Nat.le_of_ble_eq_true rfl) ?_
      have hb20 := vz_ifp h
      rw [if_pos hb20] at h
      refine vr_iast (pc := 73) hc 4 dX8_noteWhenKnown_73 ((gr_8_9 gc_0).2.1) ((gr_8_9 gc_0).2.2) (vz_in_vp hb20) ?_
      refine vr_iinc (pc := 74) hc dX8_noteWhenKnown_74 (1 : Int32) (by decide) rfl (by decide) rfl ?_
      refine vr_goto (pc := 77) hc 33 dX8_noteWhenKnown_77 (by decide) ?_
      exact vz_sub (ih a3 a4 (x5 + (1 : Int32)) (vz_up (vz_up σ a3 0 x5) 65 x5.toNatClampNeg v18) ha3 ha4 h) (vz_sb1 rfl (vz_sb1 rfl (vz_sb1 rfl (vz_sb1 rfl vz_sb0))))
def f_X8_noteWhenKnown (x1 : Int32) (x2 : Int32) (σ : vz_I) : Option vz_I := vz_b1 (f_X7_copyFrom 38 21 σ) (fun σ3 => vz_b1 (f_X7_manAt 38 x1 σ3) (fun v5 => vz_mo v5 (vz_b1 (f_X7_readerAt 38 x2 σ3) (fun v8 => vz_mo v8 (f_X8_noteWhenKnown_33 vz_fu (0 : Int32) σ3) (fun a10 => f_X8_noteWhenKnown_33_2 vz_fu a10 (0 : Int32) σ3))) (fun a11 => vz_b1 (f_X7_readerAt 38 x2 σ3) (fun v13 => vz_mo v13 (f_X8_noteWhenKnown_33_3 vz_fu a11 (0 : Int32) σ3) (fun a15 => f_X8_noteWhenKnown_33_4 vz_fu a11 a15 (0 : Int32) σ3)))))
set_option maxRecDepth 20000 in
set_option maxHeartbeats 1000000 in
theorem w_X8_noteWhenKnown (z : vz_Z) (l : Launch) (x1 : Int32) (x2 : Int32) (σ : vz_I)  {σ' : vz_I} (h : f_X8_noteWhenKnown x1 x2 σ = some σ') : vz_Con z l 4 yX8_noteWhenKnown cX8_noteWhenKnown 6 none [.ref 0, .int x1, .int x2] vz_G0 σ vz_N0 none vz_G0 σ' vz_N0 0 0 := by
  refine vz_con (by decide) (Nat.le_of_ble_eq_true rfl) (fun μ hc hl hcap hret => ?_)
  subst hl
  unfold f_X8_noteWhenKnown at h
  refine vr_aload_n (pc := 0) hc dX8_noteWhenKnown_0 rfl ?_
  refine vr_getR (pc := 1) hc dX8_noteWhenKnown_1 fl_X8_23 gc_0 (gr_8_2 gc_0).1 ?_
  refine vr_aload_n (pc := 4) hc dX8_noteWhenKnown_4 rfl ?_
  refine vr_getR (pc := 5) hc dX8_noteWhenKnown_5 fl_X8_19 gc_0 (gr_8_1 gc_0).1 ?_
  obtain ⟨σ3, he1, h⟩ := vz_b1e h
  refine vr_cVv (pc := 8) hc dX8_noteWhenKnown_8 mt_X7_copyFrom ml_X8_97 ((gr_8_2 gc_0).2.1) (w_X7_copyFrom z μ.2.1 38 21 σ ((gr_8_2 gc_0).2.1) ((gr_8_1 gc_0).2.1) he1) rfl (by decide) rfl (Nat.le_of_ble_eq_true rfl) ?_
  refine vr_aload_n (pc := 11) hc dX8_noteWhenKnown_11 rfl ?_
  refine vr_getR (pc := 12) hc dX8_noteWhenKnown_12 fl_X8_23 gc_0 (gr_8_2 gc_0).1 ?_
  refine vr_iload_n (pc := 15) hc dX8_noteWhenKnown_15 rfl ?_
  obtain ⟨v5, he4, h⟩ := vz_b1e h
  cases v5 with
  | none =>
    rw [vz_mo_n] at h
    refine vr_cVn (pc := 16) hc dX8_noteWhenKnown_16 mt_X7_manAt ml_X8_126 ((gr_8_2 gc_0).2.1) (w_X7_manAt z μ.2.1 38 x1 σ3 ((gr_8_2 gc_0).2.1) he4) rfl (by decide) rfl (Nat.le_of_ble_eq_true rfl) ?_
    refine vr_astoreN_n (pc := 19) hc dX8_noteWhenKnown_19 (by decide) rfl ?_
    refine vr_aload_n (pc := 20) hc dX8_noteWhenKnown_20 rfl ?_
    refine vr_getR (pc := 21) hc dX8_noteWhenKnown_21 fl_X8_23 gc_0 (gr_8_2 gc_0).1 ?_
    refine vr_iload_n (pc := 24) hc dX8_noteWhenKnown_24 rfl ?_
    obtain ⟨v8, he7, h⟩ := vz_b1e h
    cases v8 with
    | none =>
      rw [vz_mo_n] at h
      refine vr_cVn (pc := 25) hc dX8_noteWhenKnown_25 mt_X7_readerAt ml_X8_169 ((gr_8_2 gc_0).2.1) (w_X7_readerAt z μ.2.1 38 x2 σ3 ((gr_8_2 gc_0).2.1) he7) rfl (by decide) rfl (Nat.le_of_ble_eq_true rfl) ?_
      refine vr_astoreN (pc := 28) hc dX8_noteWhenKnown_28 (by decide) rfl ?_
      refine vr_iconst (pc := 30) hc dX8_noteWhenKnown_30 (0 : Int32) (by decide) ?_
      refine vr_istore (pc := 31) hc dX8_noteWhenKnown_31 (by decide) rfl ?_
      exact vz_sub (wn_X8_noteWhenKnown_33 z μ hc hret vz_fu (0 : Int32) σ3 h) (vz_sb1 rfl (vz_sb1 rfl (vz_sb1 rfl (vz_sb1 rfl vz_sb0))))
    | some a10 =>
      rw [vz_mo_s] at h
      refine vr_cVa (pc := 25) hc dX8_noteWhenKnown_25 mt_X7_readerAt ml_X8_169 ((gr_8_2 gc_0).2.1) (w_X7_readerAt z μ.2.1 38 x2 σ3 ((gr_8_2 gc_0).2.1) he7) rfl (by decide) rfl (Nat.le_of_ble_eq_true rfl) ?_
      refine vr_astore (pc := 28) hc dX8_noteWhenKnown_28 (by decide) rfl ?_
      refine vr_iconst (pc := 30) hc dX8_noteWhenKnown_30 (0 : Int32) (by decide) ?_
      refine vr_istore (pc := 31) hc dX8_noteWhenKnown_31 (by decide) rfl ?_
      exact vz_sub (wn_X8_noteWhenKnown_33_2 z μ hc hret vz_fu a10 (0 : Int32) σ3 (wc_X7_readerAt ((gr_8_2 gc_0).2.1) he7) h) (vz_sb1 rfl (vz_sb1 rfl (vz_sb1 rfl (vz_sb1 rfl vz_sb0))))
  | some a11 =>
    rw [vz_mo_s] at h
    refine vr_cVa (pc := 16) hc dX8_noteWhenKnown_16 mt_X7_manAt ml_X8_126 ((gr_8_2 gc_0).2.1) (w_X7_manAt z μ.2.1 38 x1 σ3 ((gr_8_2 gc_0).2.1) he4) rfl (by decide) rfl (Nat.le_of_ble_eq_true rfl) ?_
    refine vr_astore_n (pc := 19) hc dX8_noteWhenKnown_19 (by decide) rfl ?_
    refine vr_aload_n (pc := 20) hc dX8_noteWhenKnown_20 rfl ?_
    refine vr_getR (pc := 21) hc dX8_noteWhenKnown_21 fl_X8_23 gc_0 (gr_8_2 gc_0).1 ?_
    refine vr_iload_n (pc := 24) hc dX8_noteWhenKnown_24 rfl ?_
    obtain ⟨v13, he12, h⟩ := vz_b1e h
    cases v13 with
    | none =>
      rw [vz_mo_n] at h
      refine vr_cVn (pc := 25) hc dX8_noteWhenKnown_25 mt_X7_readerAt ml_X8_169 ((gr_8_2 gc_0).2.1) (w_X7_readerAt z μ.2.1 38 x2 σ3 ((gr_8_2 gc_0).2.1) he12) rfl (by decide) rfl (Nat.le_of_ble_eq_true rfl) ?_
      refine vr_astoreN (pc := 28) hc dX8_noteWhenKnown_28 (by decide) rfl ?_
      refine vr_iconst (pc := 30) hc dX8_noteWhenKnown_30 (0 : Int32) (by decide) ?_
      refine vr_istore (pc := 31) hc dX8_noteWhenKnown_31 (by decide) rfl ?_
      exact vz_sub (wn_X8_noteWhenKnown_33_3 z μ hc hret vz_fu a11 (0 : Int32) σ3 (wc_X7_manAt ((gr_8_2 gc_0).2.1) he4) h) (vz_sb1 rfl (vz_sb1 rfl (vz_sb1 rfl (vz_sb1 rfl vz_sb0))))
    | some a15 =>
      rw [vz_mo_s] at h
      refine vr_cVa (pc := 25) hc dX8_noteWhenKnown_25 mt_X7_readerAt ml_X8_169 ((gr_8_2 gc_0).2.1) (w_X7_readerAt z μ.2.1 38 x2 σ3 ((gr_8_2 gc_0).2.1) he12) rfl (by decide) rfl (Nat.le_of_ble_eq_true rfl) ?_
      refine vr_astore (pc := 28) hc dX8_noteWhenKnown_28 (by decide) rfl ?_
      refine vr_iconst (pc := 30) hc dX8_noteWhenKnown_30 (0 : Int32) (by decide) ?_
      refine vr_istore (pc := 31) hc dX8_noteWhenKnown_31 (by decide) rfl ?_
      exact vz_sub (wn_X8_noteWhenKnown_33_4 z μ hc hret vz_fu a11 a15 (0 : Int32) σ3 (wc_X7_manAt ((gr_8_2 gc_0).2.1) he4) (wc_X7_readerAt ((gr_8_2 gc_0).2.1) he12) h) (vz_sb1 rfl (vz_sb1 rfl (vz_sb1 rfl (vz_sb1 rfl vz_sb0))))
-- X9_readMore: depth 4, effects S=True W=True P=True
def f_X9_readMore (x1 : Int32) (σ : vz_I) : Option vz_I := if (3 : Int32) < x1 then if x1 = (4 : Int32) then vz_b1 (f_X9_readStreet  σ) (fun σ17 => some σ17) else if x1 = (5 : Int32) then vz_b1 (f_X9_readReader  σ) (fun σ14 => some σ14) else vz_b2 (f_X9_number (0 : Int32) (59 : Int32) σ) (fun v5 σ6 => if vz_in (40 : Int32) 61 then vz_b2 (f_X9_number (0 : Int32) (59 : Int32) (vz_up σ6 110 (40 : Int32).toNatClampNeg v5)) (fun v9 σ10 => if vz_in (41 : Int32) 61 then some (vz_up σ10 110 (41 : Int32).toNatClampNeg v9) else none) else none) else vz_b1 (f_X9_readMan x1 σ) (fun σ20 => some σ20)
set_option maxRecDepth 20000 in
set_option maxHeartbeats 1000000 in
theorem w_X9_readMore (z : vz_Z) (l : Launch) (x1 : Int32) (σ : vz_I)  {σ' : vz_I} (h : f_X9_readMore x1 σ = some σ') : vz_Con z l 4 yX9_readMore cX9_readMore 2 none [.ref 108, .int x1] vz_G0 σ vz_N0 none vz_G0 σ' vz_N0 0 0 := by
  refine vz_con (by decide) (Nat.le_of_ble_eq_true rfl) (fun μ hc hl hcap hret => ?_)
  subst hl
  unfold f_X9_readMore at h
  refine vr_iload_n (pc := 0) hc dX9_readMore_0 rfl ?_
  refine vr_iconst (pc := 1) hc dX9_readMore_1 (3 : Int32) (by decide) ?_
  refine vr_icmp_gt (pc := 2) hc 13 dX9_readMore_2 (by decide) (fun hb1 => ?_) (fun hb1 => ?_)
  · rw [if_pos hb1] at h
    refine vr_iload_n (pc := 13) hc dX9_readMore_13 rfl ?_
    refine vr_iconst (pc := 14) hc dX9_readMore_14 (4 : Int32) (by decide) ?_
    refine vr_icmp_ne (pc := 15) hc 25 dX9_readMore_15 (by decide) (fun hb2 => ?_) (fun hb2 => ?_)
    · rw [if_neg hb2] at h
      refine vr_iload_n (pc := 25) hc dX9_readMore_25 rfl ?_
      refine vr_iconst (pc := 26) hc dX9_readMore_26 (5 : Int32) (by decide) ?_
      refine vr_icmp_ne (pc := 27) hc 37 dX9_readMore_27 (by decide) (fun hb3 => ?_) (fun hb3 => ?_)
      · rw [if_neg hb3] at h
        refine vr_aload_n (pc := 37) hc dX9_readMore_37 rfl ?_
        refine vr_getR (pc := 38) hc dX9_readMore_38 fl_X9_13 gc_108 (gr_9_3 gc_108).1 ?_
        refine vr_bipush (pc := 41) hc dX9_readMore_41 (40 : Int32) (by decide) ?_
        refine vr_aload_n (pc := 43) hc dX9_readMore_43 rfl ?_
        refine vr_iconst (pc := 44) hc dX9_readMore_44 (0 : Int32) (by decide) ?_
        refine vr_bipush (pc := 45) hc dX9_readMore_45 (59 : Int32) (by decide) ?_
        obtain ⟨v5, σ6, he4, h⟩ := vz_b2e h
        refine vr_cVi (pc := 47) hc dX9_readMore_47 mt_X9_number ml_X9_103 gc_108 (w_X9_number z μ.2.1 (0 : Int32) (59 : Int32) σ he4) rfl (by decide) rfl (Nat.le_of_ble_eq_true rfl) ?_
        have hb7 := vz_ifp h
        rw [if_pos hb7] at h
        refine vr_iast (pc := 50) hc 61 dX9_readMore_50 ((gr_9_3 gc_108).2.1) ((gr_9_3 gc_108).2.2) (vz_in_vp hb7) ?_
        refine vr_aload_n (pc := 51) hc dX9_readMore_51 rfl ?_
        refine vr_getR (pc := 52) hc dX9_readMore_52 fl_X9_13 gc_108 (gr_9_3 gc_108).1 ?_
        refine vr_bipush (pc := 55) hc dX9_readMore_55 (41 : Int32) (by decide) ?_
        refine vr_aload_n (pc := 57) hc dX9_readMore_57 rfl ?_
        refine vr_iconst (pc := 58) hc dX9_readMore_58 (0 : Int32) (by decide) ?_
        refine vr_bipush (pc := 59) hc dX9_readMore_59 (59 : Int32) (by decide) ?_
        obtain ⟨v9, σ10, he8, h⟩ := vz_b2e h
        refine vr_cVi (pc := 61) hc dX9_readMore_61 mt_X9_number ml_X9_103 gc_108 (w_X9_number z μ.2.1 (0 : Int32) (59 : Int32) (vz_up σ6 110 (40 : Int32).toNatClampNeg v5) he8) rfl (by decide) rfl (Nat.le_of_ble_eq_true rfl) ?_
        have hb11 := vz_ifp h
        rw [if_pos hb11] at h
        refine vr_iast (pc := 64) hc 61 dX9_readMore_64 ((gr_9_3 gc_108).2.1) ((gr_9_3 gc_108).2.2) (vz_in_vp hb11) ?_
        obtain rfl := Option.some.inj h
        exact hret _ _ (vz_ret_v dX9_readMore_65)
      · rw [if_pos hb3] at h
        refine vr_aload_n (pc := 30) hc dX9_readMore_30 rfl ?_
        obtain ⟨σ14, he12, h⟩ := vz_b1e h
        refine vr_cVv (pc := 31) hc dX9_readMore_31 mt_X9_readReader ml_X9_116 gc_108 (w_X9_readReader z μ.2.1  σ he12) rfl (by decide) rfl (Nat.le_of_ble_eq_true rfl) ?_
        refine vr_goto (pc := 34) hc 65 dX9_readMore_34 (by decide) ?_
        obtain rfl := Option.some.inj h
        exact hret _ _ (vz_ret_v dX9_readMore_65)
    · rw [if_pos hb2] at h
      refine vr_aload_n (pc := 18) hc dX9_readMore_18 rfl ?_
      obtain ⟨σ17, he15, h⟩ := vz_b1e h
      refine vr_cVv (pc := 19) hc dX9_readMore_19 mt_X9_readStreet ml_X9_113 gc_108 (w_X9_readStreet z μ.2.1  σ he15) rfl (by decide) rfl (Nat.le_of_ble_eq_true rfl) ?_
      refine vr_goto (pc := 22) hc 65 dX9_readMore_22 (by decide) ?_
      obtain rfl := Option.some.inj h
      exact hret _ _ (vz_ret_v dX9_readMore_65)
  · rw [if_neg hb1] at h
    refine vr_aload_n (pc := 5) hc dX9_readMore_5 rfl ?_
    refine vr_iload_n (pc := 6) hc dX9_readMore_6 rfl ?_
    obtain ⟨σ20, he18, h⟩ := vz_b1e h
    refine vr_cVv (pc := 7) hc dX9_readMore_7 mt_X9_readMan ml_X9_110 gc_108 (w_X9_readMan z μ.2.1 x1 σ he18) rfl (by decide) rfl (Nat.le_of_ble_eq_true rfl) ?_
    refine vr_goto (pc := 10) hc 65 dX9_readMore_10 (by decide) ?_
    obtain rfl := Option.some.inj h
    exact hret _ _ (vz_ret_v dX9_readMore_65)
-- X9_pairsOn: depth 4, effects S=True W=True P=True
def f_X9_pairsOn_9 : Nat → Int32 → Int32 → vz_I → Option (Int32 × vz_I)
  | 0, _, _, _ => none
  | n + 1, x2, x3, σ => if (σ 108 2) ≤ x3 then some (x2, σ) else vz_b1 (f_X9_knownOf x3 σ) (fun v6 => f_X9_pairsOn_9 n (x2 + v6) (x3 + (1 : Int32)) σ)
theorem f_X9_pairsOn_9_s (n : Nat) (x2 : Int32) (x3 : Int32) (σ : vz_I) : f_X9_pairsOn_9  (n + 1) x2 x3 σ = if (σ 108 2) ≤ x3 then some (x2, σ) else vz_b1 (f_X9_knownOf x3 σ) (fun v6 => f_X9_pairsOn_9 n (x2 + v6) (x3 + (1 : Int32)) σ) := rfl
set_option maxRecDepth 20000 in
set_option maxHeartbeats 1000000 in
theorem wn_X9_pairsOn_9 (z : vz_Z) (μ : vz_M) (hc : vz_C z μ cX9_pairsOn RX9 4 4) {r : Int32} {σ' : vz_I} (hret : ∀ (pc : Nat) (L : vz_L), vz_ret cX9_pairsOn (some .int) pc (some (.int r)) → vz_V z μ 0 0 pc L ((some (.int r)) : Option Value).toList vz_G0 σ' vz_N0) : ∀ (n : Nat) (x2 : Int32) (x3 : Int32) (σ : vz_I)  (h : f_X9_pairsOn_9  n x2 x3 σ = some (r, σ')), vz_V z μ 0 0 9 [(0, some (.ref 108)), (2, some (.int x2)), (3, some (.int x3))] [] vz_G0 σ vz_N0 := by
  intro n
  induction n with
  | zero =>
    intro x2 x3 σ h
    cases h
  | succ n ih =>
    intro x2 x3 σ h
    rw [f_X9_pairsOn_9_s] at h
    refine vr_iload_n (pc := 9) hc dX9_pairsOn_9 rfl ?_
    refine vr_aload_n (pc := 10) hc dX9_pairsOn_10 rfl ?_
    refine vr_getI (pc := 11) hc dX9_pairsOn_11 fl_X9_153 gc_108 (gi_9_2 gc_108) ?_
    refine vr_icmp_ge (pc := 14) hc 31 dX9_pairsOn_14 (by decide) (fun hb4 => ?_) (fun hb4 => ?_)
    · rw [if_pos hb4] at h
      refine vr_iload_n (pc := 31) hc dX9_pairsOn_31 rfl ?_
      obtain ⟨rfl, rfl⟩ := vz_in2 h
      exact hret _ _ (vz_ret_i dX9_pairsOn_32 rfl)
    · rw [if_neg hb4] at h
      refine vr_iload_n (pc := 17) hc dX9_pairsOn_17 rfl ?_
      refine vr_aload_n (pc := 18) hc dX9_pairsOn_18 rfl ?_
      refine vr_iload_n (pc := 19) hc dX9_pairsOn_19 rfl ?_
      obtain ⟨v6, he5, h⟩ := vz_b1e h
      refine vr_cVi (pc := 20) hc dX9_pairsOn_20 mt_X9_knownOf ml_X9_192 gc_108 (w_X9_knownOf z μ.2.1 x3 σ he5) rfl (by decide) rfl (Nat.le_of_ble_eq_true rfl) ?_
      refine vr_iadd (pc := 23) hc dX9_pairsOn_23 ?_
      refine vr_istore_n (pc := 24) hc dX9_pairsOn_24 (by decide) rfl ?_
      refine vr_iinc (pc := 25) hc dX9_pairsOn_25 (1 : Int32) (by decide) rfl (by decide) rfl ?_
      refine vr_goto (pc := 28) hc 9 dX9_pairsOn_28 (by decide) ?_
      exact vz_sub (ih (x2 + v6) (x3 + (1 : Int32)) σ  h) (vz_sb1 rfl (vz_sb1 rfl (vz_sb1 rfl vz_sb0)))
def f_X9_pairsOn (x1 : Int32) (σ : vz_I) : Option (Int32 × vz_I) := vz_b1 (f_X9_learnsOn x1 σ) (fun σ3 => f_X9_pairsOn_9 vz_fu (0 : Int32) (0 : Int32) σ3)
set_option maxRecDepth 20000 in
set_option maxHeartbeats 1000000 in
theorem w_X9_pairsOn (z : vz_Z) (l : Launch) (x1 : Int32) (σ : vz_I)  {r : Int32} {σ' : vz_I} (h : f_X9_pairsOn x1 σ = some (r, σ')) : vz_Con z l 4 yX9_pairsOn cX9_pairsOn 4 (some .int) [.ref 108, .int x1] vz_G0 σ vz_N0 (some (.int r)) vz_G0 σ' vz_N0 0 0 := by
  refine vz_con (by decide) (Nat.le_of_ble_eq_true rfl) (fun μ hc hl hcap hret => ?_)
  subst hl
  unfold f_X9_pairsOn at h
  refine vr_aload_n (pc := 0) hc dX9_pairsOn_0 rfl ?_
  refine vr_iload_n (pc := 1) hc dX9_pairsOn_1 rfl ?_
  obtain ⟨σ3, he1, h⟩ := vz_b1e h
  refine vr_cVv (pc := 2) hc dX9_pairsOn_2 mt_X9_learnsOn ml_X9_189 gc_108 (w_X9_learnsOn z μ.2.1 x1 σ he1) rfl (by decide) rfl (Nat.le_of_ble_eq_true rfl) ?_
  refine vr_iconst (pc := 5) hc dX9_pairsOn_5 (0 : Int32) (by decide) ?_
  refine vr_istore_n (pc := 6) hc dX9_pairsOn_6 (by decide) rfl ?_
  refine vr_iconst (pc := 7) hc dX9_pairsOn_7 (0 : Int32) (by decide) ?_
  refine vr_istore_n (pc := 8) hc dX9_pairsOn_8 (by decide) rfl ?_
  exact vz_sub (wn_X9_pairsOn_9 z μ hc hret vz_fu (0 : Int32) (0 : Int32) σ3 h) (vz_sb1 rfl (vz_sb1 rfl (vz_sb1 rfl vz_sb0)))
-- X9_knows: depth 4, effects S=True W=True P=True
def f_X9_knows_93 (k40 : Int32 → Int32 → Int32 → Int32 → Int32 → vz_I → Option (Int32 × vz_I)) (x1 : Int32) (x2 : Int32) (x3 : Int32) (x4 : Int32) (x5 : Int32) (xs0 : Int32) (σ : vz_I) : Option (Int32 × vz_I) := if x2 < xs0 then k40 x1 x2 x3 (x4 ||| (0 : Int32)) (x5 + (1 : Int32)) σ else k40 x1 x2 x3 (x4 ||| ((1 : Int32) <<< (x5 &&& 31))) (x5 + (1 : Int32)) σ
set_option maxRecDepth 20000 in
set_option maxHeartbeats 1000000 in
theorem wn_X9_knows_93 (z : vz_Z) (μ : vz_M) (hc : vz_C z μ cX9_knows RX9 4 7) {r : Int32} {σ' : vz_I} (hret : ∀ (pc : Nat) (L : vz_L), vz_ret cX9_knows (some .int) pc (some (.int r)) → vz_V z μ 0 0 pc L ((some (.int r)) : Option Value).toList vz_G0 σ' vz_N0) (k40 : Int32 → Int32 → Int32 → Int32 → Int32 → vz_I → Option (Int32 × vz_I)) (hk40 : ∀ (x1 : Int32) (x2 : Int32) (x3 : Int32) (x4 : Int32) (x5 : Int32) (σ : vz_I), k40 x1 x2 x3 x4 x5 σ = some (r, σ') → vz_V z μ 0 0 40 [(0, some (.ref 108)), (1, some (.int x1)), (2, some (.int x2)), (3, some (.int x3)), (4, some (.int x4)), (5, some (.int x5))] [] vz_G0 σ vz_N0) (x1 : Int32) (x2 : Int32) (x3 : Int32) (x4 : Int32) (x5 : Int32) (xs0 : Int32) (σ : vz_I)  (h : f_X9_knows_93 k40 x1 x2 x3 x4 x5 xs0 σ = some (r, σ')) : vz_V z μ 0 0 93 [(0, some (.ref 108)), (1, some (.int x1)), (2, some (.int x2)), (3, some (.int x3)), (4, some (.int x4)), (5, some (.int x5))] [.int xs0] vz_G0 σ vz_N0 := by
  unfold f_X9_knows_93 at h
  refine vr_istore (pc := 93) hc dX9_knows_93 (by decide) rfl ?_
  refine vr_iload (pc := 95) hc dX9_knows_95 rfl ?_
  refine vr_iload (pc := 97) hc dX9_knows_97 rfl ?_
  refine vr_iload_n (pc := 99) hc dX9_knows_99 rfl ?_
  refine vr_icmp_gt (pc := 100) hc 110 dX9_knows_100 (by decide) (fun hb13 => ?_) (fun hb13 => ?_)
  · rw [if_pos hb13] at h
    refine vr_iconst (pc := 110) hc dX9_knows_110 (0 : Int32) (by decide) ?_
    refine vr_ior (pc := 111) hc dX9_knows_111 ?_
    refine vr_istore (pc := 112) hc dX9_knows_112 (by decide) rfl ?_
    refine vr_iinc (pc := 114) hc dX9_knows_114 (1 : Int32) (by decide) rfl (by decide) rfl ?_
    refine vr_goto (pc := 117) hc 40 dX9_knows_117 (by decide) ?_
    exact vz_sub (hk40 x1 x2 x3 (x4 ||| (0 : Int32)) (x5 + (1 : Int32)) σ  h) (vz_sb1 rfl (vz_sb1 rfl (vz_sb1 rfl (vz_sb1 rfl (vz_sb1 rfl (vz_sb1 rfl vz_sb0))))))
  · rw [if_neg hb13] at h
    refine vr_iconst (pc := 103) hc dX9_knows_103 (1 : Int32) (by decide) ?_
    refine vr_iload (pc := 104) hc dX9_knows_104 rfl ?_
    refine vr_ishl (pc := 106) hc dX9_knows_106 ?_
    refine vr_goto (pc := 107) hc 111 dX9_knows_107 (by decide) ?_
    refine vr_ior (pc := 111) hc dX9_knows_111 ?_
    refine vr_istore (pc := 112) hc dX9_knows_112 (by decide) rfl ?_
    refine vr_iinc (pc := 114) hc dX9_knows_114 (1 : Int32) (by decide) rfl (by decide) rfl ?_
    refine vr_goto (pc := 117) hc 40 dX9_knows_117 (by decide) ?_
    exact vz_sub (hk40 x1 x2 x3 (x4 ||| ((1 : Int32) <<< (x5 &&& 31))) (x5 + (1 : Int32)) σ  h) (vz_sb1 rfl (vz_sb1 rfl (vz_sb1 rfl (vz_sb1 rfl (vz_sb1 rfl (vz_sb1 rfl vz_sb0))))))
def f_X9_knows_40 : Nat → Int32 → Int32 → Int32 → Int32 → Int32 → vz_I → Option (Int32 × vz_I)
  | 0, _, _, _, _, _, _ => none
  | n + 1, x1, x2, x3, x4, x5, σ => if (10 : Int32) ≤ x5 then some (x4, σ) else if x3 = 0 then if vz_in (((10 : Int32) * x1) + x5) 40 then f_X9_knows_93 (f_X9_knows_40 n) x1 x2 x3 x4 x5 (σ 114 (((10 : Int32) * x1) + x5).toNatClampNeg) σ else none else if x3 = (1 : Int32) then if vz_in (((10 : Int32) * x1) + x5) 40 then f_X9_knows_93 (f_X9_knows_40 n) x1 x2 x3 x4 x5 (σ 115 (((10 : Int32) * x1) + x5).toNatClampNeg) σ else none else vz_b1 (f_X9_wholeOf x1 x5 σ) (fun v11 => f_X9_knows_93 (f_X9_knows_40 n) x1 x2 x3 x4 x5 v11 σ)
theorem f_X9_knows_40_s (n : Nat) (x1 : Int32) (x2 : Int32) (x3 : Int32) (x4 : Int32) (x5 : Int32) (σ : vz_I) : f_X9_knows_40  (n + 1) x1 x2 x3 x4 x5 σ = if (10 : Int32) ≤ x5 then some (x4, σ) else if x3 = 0 then if vz_in (((10 : Int32) * x1) + x5) 40 then f_X9_knows_93 (f_X9_knows_40 n) x1 x2 x3 x4 x5 (σ 114 (((10 : Int32) * x1) + x5).toNatClampNeg) σ else none else if x3 = (1 : Int32) then if vz_in (((10 : Int32) * x1) + x5) 40 then f_X9_knows_93 (f_X9_knows_40 n) x1 x2 x3 x4 x5 (σ 115 (((10 : Int32) * x1) + x5).toNatClampNeg) σ else none else vz_b1 (f_X9_wholeOf x1 x5 σ) (fun v11 => f_X9_knows_93 (f_X9_knows_40 n) x1 x2 x3 x4 x5 v11 σ) := rfl
set_option maxRecDepth 20000 in
set_option maxHeartbeats 1000000 in
theorem wn_X9_knows_40 (z : vz_Z) (μ : vz_M) (hc : vz_C z μ cX9_knows RX9 4 7) {r : Int32} {σ' : vz_I} (hret : ∀ (pc : Nat) (L : vz_L), vz_ret cX9_knows (some .int) pc (some (.int r)) → vz_V z μ 0 0 pc L ((some (.int r)) : Option Value).toList vz_G0 σ' vz_N0) : ∀ (n : Nat) (x1 : Int32) (x2 : Int32) (x3 : Int32) (x4 : Int32) (x5 : Int32) (σ : vz_I)  (h : f_X9_knows_40  n x1 x2 x3 x4 x5 σ = some (r, σ')), vz_V z μ 0 0 40 [(0, some (.ref 108)), (1, some (.int x1)), (2, some (.int x2)), (3, some (.int x3)), (4, some (.int x4)), (5, some (.int x5))] [] vz_G0 σ vz_N0 := by
  intro n
  induction n with
  | zero =>
    intro x1 x2 x3 x4 x5 σ h
    cases h
  | succ n ih =>
    intro x1 x2 x3 x4 x5 σ h
    rw [f_X9_knows_40_s] at h
    refine vr_iload (pc := 40) hc dX9_knows_40 rfl ?_
    refine vr_bipush (pc := 42) hc dX9_knows_42 (10 : Int32) (by decide) ?_
    refine vr_icmp_ge (pc := 44) hc 120 dX9_knows_44 (by decide) (fun hb7 => ?_) (fun hb7 => ?_)
    · rw [if_pos hb7] at h
      refine vr_iload (pc := 120) hc dX9_knows_120 rfl ?_
      obtain ⟨rfl, rfl⟩ := vz_in2 h
      exact hret _ _ (vz_ret_i dX9_knows_122 rfl)
    · rw [if_neg hb7] at h
      refine vr_iload_n (pc := 47) hc dX9_knows_47 rfl ?_
      refine vr_if_ne (pc := 48) hc 66 dX9_knows_48 (by decide) (fun hb8 => ?_) (fun hb8 => ?_)
      · rw [if_neg hb8] at h
        refine vr_iload_n (pc := 66) hc dX9_knows_66 rfl ?_
        refine vr_iconst (pc := 67) hc dX9_knows_67 (1 : Int32) (by decide) ?_
        refine vr_icmp_ne (pc := 68) hc 86 dX9_knows_68 (by decide) (fun hb9 => ?_) (fun hb9 => ?_)
        · rw [if_neg hb9] at h
          refine vr_aload_n (pc := 86) hc dX9_knows_86 rfl ?_
          refine vr_iload_n (pc := 87) hc dX9_knows_87 rfl ?_
          refine vr_iload (pc := 88) hc dX9_knows_88 rfl ?_
          obtain ⟨v11, he10, h⟩ := vz_b1e h
          refine vr_cVi (pc := 90) hc dX9_knows_90 mt_X9_wholeOf ml_X9_186 gc_108 (w_X9_wholeOf z μ.2.1 x1 x5 σ he10) rfl (by decide) rfl (Nat.le_of_ble_eq_true rfl) ?_
          exact vz_sub (wn_X9_knows_93 z μ hc hret (f_X9_knows_40 n) ih x1 x2 x3 x4 x5 v11 σ h) (vz_sb1 rfl (vz_sb1 rfl (vz_sb1 rfl (vz_sb1 rfl (vz_sb1 rfl (vz_sb1 rfl vz_sb0))))))
        · rw [if_pos hb9] at h
          refine vr_aload_n (pc := 71) hc dX9_knows_71 rfl ?_
          refine vr_getR (pc := 72) hc dX9_knows_72 fl_X9_28 gc_108 (gr_9_20 gc_108).1 ?_
          refine vr_bipush (pc := 75) hc dX9_knows_75 (10 : Int32) (by decide) ?_
          refine vr_iload_n (pc := 77) hc dX9_knows_77 rfl ?_
          refine vr_imul (pc := 78) hc dX9_knows_78 ?_
          refine vr_iload (pc := 79) hc dX9_knows_79 rfl ?_
          refine vr_iadd (pc := 81) hc dX9_knows_81 ?_
          have hb14 := vz_ifp h
          rw [if_pos hb14] at h
          refine vr_iald (pc := 82) hc 40 dX9_knows_82 ((gr_9_20 gc_108).2.1) ((gr_9_20 gc_108).2.2) (vz_in_vp hb14) ?_
          refine vr_goto (pc := 83) hc 93 dX9_knows_83 (by decide) ?_
          exact vz_sub (wn_X9_knows_93 z μ hc hret (f_X9_knows_40 n) ih x1 x2 x3 x4 x5 (σ 115 (((10 : Int32) * x1) + x5).toNatClampNeg) σ h) (vz_sb1 rfl (vz_sb1 rfl (vz_sb1 rfl (vz_sb1 rfl (vz_sb1 rfl (vz_sb1 rfl vz_sb0))))))
      · rw [if_pos hb8] at h
        refine vr_aload_n (pc := 51) hc dX9_knows_51 rfl ?_
        refine vr_getR (pc := 52) hc dX9_knows_52 fl_X9_25 gc_108 (gr_9_19 gc_108).1 ?_
        refine vr_bipush (pc := 55) hc dX9_knows_55 (10 : Int32) (by decide) ?_
        refine vr_iload_n (pc := 57) hc dX9_knows_57 rfl ?_
        refine vr_imul (pc := 58) hc dX9_knows_58 ?_
        refine vr_iload (pc := 59) hc dX9_knows_59 rfl ?_
        refine vr_iadd (pc := 61) hc dX9_knows_61 ?_
        have hb15 := vz_ifp h
        rw [if_pos hb15] at h
        refine vr_iald (pc := 62) hc 40 dX9_knows_62 ((gr_9_19 gc_108).2.1) ((gr_9_19 gc_108).2.2) (vz_in_vp hb15) ?_
        refine vr_goto (pc := 63) hc 93 dX9_knows_63 (by decide) ?_
        exact vz_sub (wn_X9_knows_93 z μ hc hret (f_X9_knows_40 n) ih x1 x2 x3 x4 x5 (σ 114 (((10 : Int32) * x1) + x5).toNatClampNeg) σ h) (vz_sb1 rfl (vz_sb1 rfl (vz_sb1 rfl (vz_sb1 rfl (vz_sb1 rfl (vz_sb1 rfl vz_sb0))))))
def f_X9_knows (x1 : Int32) (x2 : Int32) (x3 : Int32) (σ : vz_I) : Option (Int32 × vz_I) := if (f_X9_isReader x1 σ) = 0 then some ((-1 : Int32), σ) else if (f_X9_isMinute x2) = 0 then some ((-1 : Int32), σ) else if (f_X9_in x3.toInt64 (0 : Int64) (2 : Int64)) = 0 then some ((-1 : Int32), σ) else vz_b1 (f_X9_learnsOn (0 : Int32) σ) (fun σ6 => f_X9_knows_40 vz_fu x1 x2 x3 (0 : Int32) (0 : Int32) σ6)
set_option maxRecDepth 20000 in
set_option maxHeartbeats 1000000 in
theorem w_X9_knows (z : vz_Z) (l : Launch) (x1 : Int32) (x2 : Int32) (x3 : Int32) (σ : vz_I)  {r : Int32} {σ' : vz_I} (h : f_X9_knows x1 x2 x3 σ = some (r, σ')) : vz_Con z l 4 yX9_knows cX9_knows 7 (some .int) [.ref 108, .int x1, .int x2, .int x3] vz_G0 σ vz_N0 (some (.int r)) vz_G0 σ' vz_N0 0 0 := by
  refine vz_con (by decide) (Nat.le_of_ble_eq_true rfl) (fun μ hc hl hcap hret => ?_)
  subst hl
  unfold f_X9_knows at h
  refine vr_aload_n (pc := 0) hc dX9_knows_0 rfl ?_
  refine vr_iload_n (pc := 1) hc dX9_knows_1 rfl ?_
  refine vr_cVi (pc := 2) hc dX9_knows_2 mt_X9_isReader ml_X9_204 gc_108 (w_X9_isReader z μ.2.1 x1 σ rfl) rfl (by decide) rfl (Nat.le_of_ble_eq_true rfl) ?_
  refine vr_if_eq (pc := 5) hc 27 dX9_knows_5 (by decide) (fun hb1 => ?_) (fun hb1 => ?_)
  · rw [if_pos hb1] at h
    refine vr_iconst (pc := 27) hc dX9_knows_27 (-1 : Int32) (by decide) ?_
    obtain ⟨rfl, rfl⟩ := vz_in2 h
    exact hret _ _ (vz_ret_i dX9_knows_28 rfl)
  · rw [if_neg hb1] at h
    refine vr_iload_n (pc := 8) hc dX9_knows_8 rfl ?_
    refine vr_cSi (pc := 9) hc dX9_knows_9 mt_X9_isMinute sx_X9_isMinute ml_X9_222  (w_X9_isMinute z μ.2.1 x2 σ rfl) rfl (by decide) rfl (Nat.le_of_ble_eq_true rfl) ?_
    refine vr_if_eq (pc := 12) hc 27 dX9_knows_12 (by decide) (fun hb2 => ?_) (fun hb2 => ?_)
    · rw [if_pos hb2] at h
      refine vr_iconst (pc := 27) hc dX9_knows_27 (-1 : Int32) (by decide) ?_
      obtain ⟨rfl, rfl⟩ := vz_in2 h
      exact hret _ _ (vz_ret_i dX9_knows_28 rfl)
    · rw [if_neg hb2] at h
      refine vr_iload_n (pc := 15) hc dX9_knows_15 rfl ?_
      refine vr_i2l (pc := 16) hc dX9_knows_16 ?_
      refine vr_lconst (pc := 17) hc dX9_knows_17 (0 : Int64) (by decide) ?_
      refine vr_ldc2 (pc := 18) hc dX9_knows_18 (2 : Int64) cl_X9_207 ?_
      refine vr_cSi (pc := 21) hc dX9_knows_21 mt_X9_in sx_X9_in ml_X9_55  (w_X9_in z μ.2.1 x3.toInt64 (0 : Int64) (2 : Int64) σ rfl) rfl (by decide) rfl (Nat.le_of_ble_eq_true rfl) ?_
      refine vr_if_ne (pc := 24) hc 29 dX9_knows_24 (by decide) (fun hb3 => ?_) (fun hb3 => ?_)
      · rw [if_neg hb3] at h
        refine vr_aload_n (pc := 29) hc dX9_knows_29 rfl ?_
        refine vr_iconst (pc := 30) hc dX9_knows_30 (0 : Int32) (by decide) ?_
        obtain ⟨σ6, he4, h⟩ := vz_b1e h
        refine vr_cVv (pc := 31) hc dX9_knows_31 mt_X9_learnsOn ml_X9_189 gc_108 (w_X9_learnsOn z μ.2.1 (0 : Int32) σ he4) rfl (by decide) rfl (Nat.le_of_ble_eq_true rfl) ?_
        refine vr_iconst (pc := 34) hc dX9_knows_34 (0 : Int32) (by decide) ?_
        refine vr_istore (pc := 35) hc dX9_knows_35 (by decide) rfl ?_
        refine vr_iconst (pc := 37) hc dX9_knows_37 (0 : Int32) (by decide) ?_
        refine vr_istore (pc := 38) hc dX9_knows_38 (by decide) rfl ?_
        exact vz_sub (wn_X9_knows_40 z μ hc hret vz_fu x1 x2 x3 (0 : Int32) (0 : Int32) σ6 h) (vz_sb1 rfl (vz_sb1 rfl (vz_sb1 rfl (vz_sb1 rfl (vz_sb1 rfl (vz_sb1 rfl vz_sb0))))))
      · rw [if_pos hb3] at h
        refine vr_iconst (pc := 27) hc dX9_knows_27 (-1 : Int32) (by decide) ?_
        obtain ⟨rfl, rfl⟩ := vz_in2 h
        exact hret _ _ (vz_ret_i dX9_knows_28 rfl)
-- X9_first: depth 4, effects S=True W=True P=True
def f_X9_first (x1 : Int32) (x2 : Int32) (σ : vz_I) : Option (Int32 × vz_I) := if (f_X9_isReader x1 σ) = 0 then some ((-1 : Int32), σ) else if (f_X9_isNews x2) = 0 then some ((-1 : Int32), σ) else vz_b1 (f_X9_learnsOn (0 : Int32) σ) (fun σ5 => vz_b1 (f_X9_wholeOf x1 x2 σ5) (fun v7 => if (1000 : Int32) ≤ v7 then some ((-4 : Int32), σ5) else vz_b1 (f_X9_wholeOf x1 x2 σ5) (fun v11 => some (v11, σ5))))
set_option maxRecDepth 20000 in
set_option maxHeartbeats 1000000 in
theorem w_X9_first (z : vz_Z) (l : Launch) (x1 : Int32) (x2 : Int32) (σ : vz_I)  {r : Int32} {σ' : vz_I} (h : f_X9_first x1 x2 σ = some (r, σ')) : vz_Con z l 4 yX9_first cX9_first 3 (some .int) [.ref 108, .int x1, .int x2] vz_G0 σ vz_N0 (some (.int r)) vz_G0 σ' vz_N0 0 0 := by
  refine vz_con (by decide) (Nat.le_of_ble_eq_true rfl) (fun μ hc hl hcap hret => ?_)
  subst hl
  unfold f_X9_first at h
  refine vr_aload_n (pc := 0) hc dX9_first_0 rfl ?_
  refine vr_iload_n (pc := 1) hc dX9_first_1 rfl ?_
  refine vr_cVi (pc := 2) hc dX9_first_2 mt_X9_isReader ml_X9_204 gc_108 (w_X9_isReader z μ.2.1 x1 σ rfl) rfl (by decide) rfl (Nat.le_of_ble_eq_true rfl) ?_
  refine vr_if_eq (pc := 5) hc 15 dX9_first_5 (by decide) (fun hb1 => ?_) (fun hb1 => ?_)
  · rw [if_pos hb1] at h
    refine vr_iconst (pc := 15) hc dX9_first_15 (-1 : Int32) (by decide) ?_
    obtain ⟨rfl, rfl⟩ := vz_in2 h
    exact hret _ _ (vz_ret_i dX9_first_16 rfl)
  · rw [if_neg hb1] at h
    refine vr_iload_n (pc := 8) hc dX9_first_8 rfl ?_
    refine vr_cSi (pc := 9) hc dX9_first_9 mt_X9_isNews sx_X9_isNews ml_X9_229  (w_X9_isNews z μ.2.1 x2 σ rfl) rfl (by decide) rfl (Nat.le_of_ble_eq_true rfl) ?_
    refine vr_if_ne (pc := 12) hc 17 dX9_first_12 (by decide) (fun hb2 => ?_) (fun hb2 => ?_)
    · rw [if_neg hb2] at h
      refine vr_aload_n (pc := 17) hc dX9_first_17 rfl ?_
      refine vr_iconst (pc := 18) hc dX9_first_18 (0 : Int32) (by decide) ?_
      obtain ⟨σ5, he3, h⟩ := vz_b1e h
      refine vr_cVv (pc := 19) hc dX9_first_19 mt_X9_learnsOn ml_X9_189 gc_108 (w_X9_learnsOn z μ.2.1 (0 : Int32) σ he3) rfl (by decide) rfl (Nat.le_of_ble_eq_true rfl) ?_
      refine vr_aload_n (pc := 22) hc dX9_first_22 rfl ?_
      refine vr_iload_n (pc := 23) hc dX9_first_23 rfl ?_
      refine vr_iload_n (pc := 24) hc dX9_first_24 rfl ?_
      obtain ⟨v7, he6, h⟩ := vz_b1e h
      refine vr_cVi (pc := 25) hc dX9_first_25 mt_X9_wholeOf ml_X9_186 gc_108 (w_X9_wholeOf z μ.2.1 x1 x2 σ5 he6) rfl (by decide) rfl (Nat.le_of_ble_eq_true rfl) ?_
      refine vr_sipush (pc := 28) hc dX9_first_28 (1000 : Int32) (by decide) ?_
      refine vr_icmp_ge (pc := 31) hc 43 dX9_first_31 (by decide) (fun hb9 => ?_) (fun hb9 => ?_)
      · rw [if_pos hb9] at h
        refine vr_bipush (pc := 43) hc dX9_first_43 (-4 : Int32) (by decide) ?_
        obtain ⟨rfl, rfl⟩ := vz_in2 h
        exact hret _ _ (vz_ret_i dX9_first_45 rfl)
      · rw [if_neg hb9] at h
        refine vr_aload_n (pc := 34) hc dX9_first_34 rfl ?_
        refine vr_iload_n (pc := 35) hc dX9_first_35 rfl ?_
        refine vr_iload_n (pc := 36) hc dX9_first_36 rfl ?_
        obtain ⟨v11, he10, h⟩ := vz_b1e h
        refine vr_cVi (pc := 37) hc dX9_first_37 mt_X9_wholeOf ml_X9_186 gc_108 (w_X9_wholeOf z μ.2.1 x1 x2 σ5 he10) rfl (by decide) rfl (Nat.le_of_ble_eq_true rfl) ?_
        refine vr_goto (pc := 40) hc 45 dX9_first_40 (by decide) ?_
        obtain ⟨rfl, rfl⟩ := vz_in2 h
        exact hret _ _ (vz_ret_i dX9_first_45 rfl)
    · rw [if_pos hb2] at h
      refine vr_iconst (pc := 15) hc dX9_first_15 (-1 : Int32) (by decide) ?_
      obtain ⟨rfl, rfl⟩ := vz_in2 h
      exact hret _ _ (vz_ret_i dX9_first_16 rfl)
-- X9_all: depth 4, effects S=True W=True P=True
def f_X9_all_18 : Nat → Int32 → Int32 → Int32 → vz_I → Option (Int32 × vz_I)
  | 0, _, _, _, _ => none
  | n + 1, x1, x2, x3, σ => if (σ 108 2) ≤ x3 then some (x2, σ) else vz_b1 (f_X9_wholeOf x3 x1 σ) (fun v7 => if (1000 : Int32) ≤ v7 then f_X9_all_18 n x1 (x2 ||| (0 : Int32)) (x3 + (1 : Int32)) σ else f_X9_all_18 n x1 (x2 ||| ((1 : Int32) <<< (x3 &&& 31))) (x3 + (1 : Int32)) σ)
theorem f_X9_all_18_s (n : Nat) (x1 : Int32) (x2 : Int32) (x3 : Int32) (σ : vz_I) : f_X9_all_18  (n + 1) x1 x2 x3 σ = if (σ 108 2) ≤ x3 then some (x2, σ) else vz_b1 (f_X9_wholeOf x3 x1 σ) (fun v7 => if (1000 : Int32) ≤ v7 then f_X9_all_18 n x1 (x2 ||| (0 : Int32)) (x3 + (1 : Int32)) σ else f_X9_all_18 n x1 (x2 ||| ((1 : Int32) <<< (x3 &&& 31))) (x3 + (1 : Int32)) σ) := rfl
set_option maxRecDepth 20000 in
set_option maxHeartbeats 1000000 in
theorem wn_X9_all_18 (z : vz_Z) (μ : vz_M) (hc : vz_C z μ cX9_all RX9 4 4) {r : Int32} {σ' : vz_I} (hret : ∀ (pc : Nat) (L : vz_L), vz_ret cX9_all (some .int) pc (some (.int r)) → vz_V z μ 0 0 pc L ((some (.int r)) : Option Value).toList vz_G0 σ' vz_N0) : ∀ (n : Nat) (x1 : Int32) (x2 : Int32) (x3 : Int32) (σ : vz_I)  (h : f_X9_all_18  n x1 x2 x3 σ = some (r, σ')), vz_V z μ 0 0 18 [(0, some (.ref 108)), (1, some (.int x1)), (2, some (.int x2)), (3, some (.int x3))] [] vz_G0 σ vz_N0 := by
  intro n
  induction n with
  | zero =>
    intro x1 x2 x3 σ h
    cases h
  | succ n ih =>
    intro x1 x2 x3 σ h
    rw [f_X9_all_18_s] at h
    refine vr_iload_n (pc := 18) hc dX9_all_18 rfl ?_
    refine vr_aload_n (pc := 19) hc dX9_all_19 rfl ?_
    refine vr_getI (pc := 20) hc dX9_all_20 fl_X9_153 gc_108 (gi_9_2 gc_108) ?_
    refine vr_icmp_ge (pc := 23) hc 54 dX9_all_23 (by decide) (fun hb5 => ?_) (fun hb5 => ?_)
    · rw [if_pos hb5] at h
      refine vr_iload_n (pc := 54) hc dX9_all_54 rfl ?_
      obtain ⟨rfl, rfl⟩ := vz_in2 h
      exact hret _ _ (vz_ret_i dX9_all_55 rfl)
    · rw [if_neg hb5] at h
      refine vr_iload_n (pc := 26) hc dX9_all_26 rfl ?_
      refine vr_aload_n (pc := 27) hc dX9_all_27 rfl ?_
      refine vr_iload_n (pc := 28) hc dX9_all_28 rfl ?_
      refine vr_iload_n (pc := 29) hc dX9_all_29 rfl ?_
      obtain ⟨v7, he6, h⟩ := vz_b1e h
      refine vr_cVi (pc := 30) hc dX9_all_30 mt_X9_wholeOf ml_X9_186 gc_108 (w_X9_wholeOf z μ.2.1 x3 x1 σ he6) rfl (by decide) rfl (Nat.le_of_ble_eq_true rfl) ?_
      refine vr_sipush (pc := 33) hc dX9_all_33 (1000 : Int32) (by decide) ?_
      refine vr_icmp_ge (pc := 36) hc 45 dX9_all_36 (by decide) (fun hb9 => ?_) (fun hb9 => ?_)
      · rw [if_pos hb9] at h
        refine vr_iconst (pc := 45) hc dX9_all_45 (0 : Int32) (by decide) ?_
        refine vr_ior (pc := 46) hc dX9_all_46 ?_
        refine vr_istore_n (pc := 47) hc dX9_all_47 (by decide) rfl ?_
        refine vr_iinc (pc := 48) hc dX9_all_48 (1 : Int32) (by decide) rfl (by decide) rfl ?_
        refine vr_goto (pc := 51) hc 18 dX9_all_51 (by decide) ?_
        exact vz_sub (ih x1 (x2 ||| (0 : Int32)) (x3 + (1 : Int32)) σ  h) (vz_sb1 rfl (vz_sb1 rfl (vz_sb1 rfl (vz_sb1 rfl vz_sb0))))
      · rw [if_neg hb9] at h
        refine vr_iconst (pc := 39) hc dX9_all_39 (1 : Int32) (by decide) ?_
        refine vr_iload_n (pc := 40) hc dX9_all_40 rfl ?_
        refine vr_ishl (pc := 41) hc dX9_all_41 ?_
        refine vr_goto (pc := 42) hc 46 dX9_all_42 (by decide) ?_
        refine vr_ior (pc := 46) hc dX9_all_46 ?_
        refine vr_istore_n (pc := 47) hc dX9_all_47 (by decide) rfl ?_
        refine vr_iinc (pc := 48) hc dX9_all_48 (1 : Int32) (by decide) rfl (by decide) rfl ?_
        refine vr_goto (pc := 51) hc 18 dX9_all_51 (by decide) ?_
        exact vz_sub (ih x1 (x2 ||| ((1 : Int32) <<< (x3 &&& 31))) (x3 + (1 : Int32)) σ  h) (vz_sb1 rfl (vz_sb1 rfl (vz_sb1 rfl (vz_sb1 rfl vz_sb0))))
def f_X9_all (x1 : Int32) (σ : vz_I) : Option (Int32 × vz_I) := if (f_X9_isNews x1) = 0 then some ((-1 : Int32), σ) else vz_b1 (f_X9_learnsOn (0 : Int32) σ) (fun σ4 => f_X9_all_18 vz_fu x1 (0 : Int32) (0 : Int32) σ4)
set_option maxRecDepth 20000 in
set_option maxHeartbeats 1000000 in
theorem w_X9_all (z : vz_Z) (l : Launch) (x1 : Int32) (σ : vz_I)  {r : Int32} {σ' : vz_I} (h : f_X9_all x1 σ = some (r, σ')) : vz_Con z l 4 yX9_all cX9_all 4 (some .int) [.ref 108, .int x1] vz_G0 σ vz_N0 (some (.int r)) vz_G0 σ' vz_N0 0 0 := by
  refine vz_con (by decide) (Nat.le_of_ble_eq_true rfl) (fun μ hc hl hcap hret => ?_)
  subst hl
  unfold f_X9_all at h
  refine vr_iload_n (pc := 0) hc dX9_all_0 rfl ?_
  refine vr_cSi (pc := 1) hc dX9_all_1 mt_X9_isNews sx_X9_isNews ml_X9_229  (w_X9_isNews z μ.2.1 x1 σ rfl) rfl (by decide) rfl (Nat.le_of_ble_eq_true rfl) ?_
  refine vr_if_ne (pc := 4) hc 9 dX9_all_4 (by decide) (fun hb1 => ?_) (fun hb1 => ?_)
  · rw [if_neg hb1] at h
    refine vr_aload_n (pc := 9) hc dX9_all_9 rfl ?_
    refine vr_iconst (pc := 10) hc dX9_all_10 (0 : Int32) (by decide) ?_
    obtain ⟨σ4, he2, h⟩ := vz_b1e h
    refine vr_cVv (pc := 11) hc dX9_all_11 mt_X9_learnsOn ml_X9_189 gc_108 (w_X9_learnsOn z μ.2.1 (0 : Int32) σ he2) rfl (by decide) rfl (Nat.le_of_ble_eq_true rfl) ?_
    refine vr_iconst (pc := 14) hc dX9_all_14 (0 : Int32) (by decide) ?_
    refine vr_istore_n (pc := 15) hc dX9_all_15 (by decide) rfl ?_
    refine vr_iconst (pc := 16) hc dX9_all_16 (0 : Int32) (by decide) ?_
    refine vr_istore_n (pc := 17) hc dX9_all_17 (by decide) rfl ?_
    exact vz_sub (wn_X9_all_18 z μ hc hret vz_fu x1 (0 : Int32) (0 : Int32) σ4 h) (vz_sb1 rfl (vz_sb1 rfl (vz_sb1 rfl (vz_sb1 rfl vz_sb0))))
  · rw [if_pos hb1] at h
    refine vr_iconst (pc := 7) hc dX9_all_7 (-1 : Int32) (by decide) ?_
    obtain ⟨rfl, rfl⟩ := vz_in2 h
    exact hret _ _ (vz_ret_i dX9_all_8 rfl)
-- X9_best: depth 4, effects S=True W=True P=True
def f_X9_best_38 : Nat → Int32 → Int32 → Int32 → Int32 → vz_I → Option (Int32 × vz_I)
  | 0, _, _, _, _, _ => none
  | n + 1, x1, x2, x3, x4, σ => if (8 : Int32) ≤ x4 then if x2 = 0 then some (x3, σ) else some (σ 108 22, σ) else if vz_in ((272 : Int32) + x1) 305 then vz_b1 (f_X9_learnsOn (244 : Int32) (vz_up σ 109 ((272 : Int32) + x1).toNatClampNeg x4)) (fun σ11 => vz_b1 (f_X9_knownOf x1 σ11) (fun v13 => vz_b2 (f_X9_isMore v13 σ11) (fun v16 σ17 => if v16 = 0 then f_X9_best_38 n x1 x2 x3 (x4 + (1 : Int32)) σ17 else f_X9_best_38 n x1 x2 x4 (x4 + (1 : Int32)) σ17))) else none
theorem f_X9_best_38_s (n : Nat) (x1 : Int32) (x2 : Int32) (x3 : Int32) (x4 : Int32) (σ : vz_I) : f_X9_best_38  (n + 1) x1 x2 x3 x4 σ = if (8 : Int32) ≤ x4 then if x2 = 0 then some (x3, σ) else some (σ 108 22, σ) else if vz_in ((272 : Int32) + x1) 305 then vz_b1 (f_X9_learnsOn (244 : Int32) (vz_up σ 109 ((272 : Int32) + x1).toNatClampNeg x4)) (fun σ11 => vz_b1 (f_X9_knownOf x1 σ11) (fun v13 => vz_b2 (f_X9_isMore v13 σ11) (fun v16 σ17 => if v16 = 0 then f_X9_best_38 n x1 x2 x3 (x4 + (1 : Int32)) σ17 else f_X9_best_38 n x1 x2 x4 (x4 + (1 : Int32)) σ17))) else none := rfl
set_option maxRecDepth 20000 in
set_option maxHeartbeats 1000000 in
theorem wn_X9_best_38 (z : vz_Z) (μ : vz_M) (hc : vz_C z μ cX9_best RX9 4 5) {r : Int32} {σ' : vz_I} (hret : ∀ (pc : Nat) (L : vz_L), vz_ret cX9_best (some .int) pc (some (.int r)) → vz_V z μ 0 0 pc L ((some (.int r)) : Option Value).toList vz_G0 σ' vz_N0) : ∀ (n : Nat) (x1 : Int32) (x2 : Int32) (x3 : Int32) (x4 : Int32) (σ : vz_I)  (h : f_X9_best_38  n x1 x2 x3 x4 σ = some (r, σ')), vz_V z μ 0 0 38 [(0, some (.ref 108)), (1, some (.int x1)), (2, some (.int x2)), (3, some (.int x3)), (4, some (.int x4))] [] vz_G0 σ vz_N0 := by
  intro n
  induction n with
  | zero =>
    intro x1 x2 x3 x4 σ h
    cases h
  | succ n ih =>
    intro x1 x2 x3 x4 σ h
    rw [f_X9_best_38_s] at h
    refine vr_iload (pc := 38) hc dX9_best_38 rfl ?_
    refine vr_bipush (pc := 40) hc dX9_best_40 (8 : Int32) (by decide) ?_
    refine vr_icmp_ge (pc := 42) hc 89 dX9_best_42 (by decide) (fun hb6 => ?_) (fun hb6 => ?_)
    · rw [if_pos hb6] at h
      refine vr_iload_n (pc := 89) hc dX9_best_89 rfl ?_
      refine vr_if_ne (pc := 90) hc 97 dX9_best_90 (by decide) (fun hb7 => ?_) (fun hb7 => ?_)
      · rw [if_neg hb7] at h
        refine vr_aload_n (pc := 97) hc dX9_best_97 rfl ?_
        refine vr_getI (pc := 98) hc dX9_best_98 fl_X9_232 gc_108 (gi_9_22 gc_108) ?_
        obtain ⟨rfl, rfl⟩ := vz_in2 h
        exact hret _ _ (vz_ret_i dX9_best_101 rfl)
      · rw [if_pos hb7] at h
        refine vr_iload_n (pc := 93) hc dX9_best_93 rfl ?_
        refine vr_goto (pc := 94) hc 101 dX9_best_94 (by decide) ?_
        obtain ⟨rfl, rfl⟩ := vz_in2 h
        exact hret _ _ (vz_ret_i dX9_best_101 rfl)
    · rw [if_neg hb6] at h
      refine vr_aload_n (pc := 45) hc dX9_best_45 rfl ?_
      refine vr_getR (pc := 46) hc dX9_best_46 fl_X9_7 gc_108 (gr_9_0 gc_108).1 ?_
      refine vr_sipush (pc := 49) hc dX9_best_49 (272 : Int32) (by decide) ?_
      refine vr_iload_n (pc := 52) hc dX9_best_52 rfl ?_
      refine vr_iadd (pc := 53) hc dX9_best_53 ?_
      refine vr_iload (pc := 54) hc dX9_best_54 rfl ?_
      have hb8 := vz_ifp h
      rw [if_pos hb8] at h
      refine vr_iast (pc := 56) hc 305 dX9_best_56 ((gr_9_0 gc_108).2.1) ((gr_9_0 gc_108).2.2) (vz_in_vp hb8) ?_
      refine vr_aload_n (pc := 57) hc dX9_best_57 rfl ?_
      refine vr_sipush (pc := 58) hc dX9_best_58 (244 : Int32) (by decide) ?_
      obtain ⟨σ11, he9, h⟩ := vz_b1e h
      refine vr_cVv (pc := 61) hc dX9_best_61 mt_X9_learnsOn ml_X9_189 gc_108 (w_X9_learnsOn z μ.2.1 (244 : Int32) (vz_up σ 109 ((272 : Int32) + x1).toNatClampNeg x4) he9) rfl (by decide) rfl (Nat.le_of_ble_eq_true rfl) ?_
      refine vr_aload_n (pc := 64) hc dX9_best_64 rfl ?_
      refine vr_aload_n (pc := 65) hc dX9_best_65 rfl ?_
      refine vr_iload_n (pc := 66) hc dX9_best_66 rfl ?_
      obtain ⟨v13, he12, h⟩ := vz_b1e h
      refine vr_cVi (pc := 67) hc dX9_best_67 mt_X9_knownOf ml_X9_192 gc_108 (w_X9_knownOf z μ.2.1 x1 σ11 he12) rfl (by decide) rfl (Nat.le_of_ble_eq_true rfl) ?_
      obtain ⟨v16, σ17, he15, h⟩ := vz_b2e h
      refine vr_cVi (pc := 70) hc dX9_best_70 mt_X9_isMore ml_X9_239 gc_108 (w_X9_isMore z μ.2.1 v13 σ11 he15) rfl (by decide) rfl (Nat.le_of_ble_eq_true rfl) ?_
      refine vr_if_eq (pc := 73) hc 81 dX9_best_73 (by decide) (fun hb18 => ?_) (fun hb18 => ?_)
      · rw [if_pos hb18] at h
        refine vr_iload_n (pc := 81) hc dX9_best_81 rfl ?_
        refine vr_istore_n (pc := 82) hc dX9_best_82 (by decide) rfl ?_
        refine vr_iinc (pc := 83) hc dX9_best_83 (1 : Int32) (by decide) rfl (by decide) rfl ?_
        refine vr_goto (pc := 86) hc 38 dX9_best_86 (by decide) ?_
        exact vz_sub (ih x1 x2 x3 (x4 + (1 : Int32)) σ17  h) (vz_sb1 rfl (vz_sb1 rfl (vz_sb1 rfl (vz_sb1 rfl (vz_sb1 rfl vz_sb0)))))
      · rw [if_neg hb18] at h
        refine vr_iload (pc := 76) hc dX9_best_76 rfl ?_
        refine vr_goto (pc := 78) hc 82 dX9_best_78 (by decide) ?_
        refine vr_istore_n (pc := 82) hc dX9_best_82 (by decide) rfl ?_
        refine vr_iinc (pc := 83) hc dX9_best_83 (1 : Int32) (by decide) rfl (by decide) rfl ?_
        refine vr_goto (pc := 86) hc 38 dX9_best_86 (by decide) ?_
        exact vz_sub (ih x1 x2 x4 (x4 + (1 : Int32)) σ17  h) (vz_sb1 rfl (vz_sb1 rfl (vz_sb1 rfl (vz_sb1 rfl (vz_sb1 rfl vz_sb0)))))
def f_X9_best (x1 : Int32) (x2 : Int32) (σ : vz_I) : Option (Int32 × vz_I) := if (f_X9_isReader x1 σ) = 0 then some ((-1 : Int32), σ) else if (f_X9_in x2.toInt64 (0 : Int64) (1 : Int64)) = 0 then some ((-1 : Int32), σ) else vz_b1 (f_X9_copies (0 : Int32) (244 : Int32) (vz_up σ 108 22 (-1 : Int32))) (fun σ5 => f_X9_best_38 vz_fu x1 x2 (0 : Int32) (0 : Int32) σ5)
set_option maxRecDepth 20000 in
set_option maxHeartbeats 1000000 in
theorem w_X9_best (z : vz_Z) (l : Launch) (x1 : Int32) (x2 : Int32) (σ : vz_I)  {r : Int32} {σ' : vz_I} (h : f_X9_best x1 x2 σ = some (r, σ')) : vz_Con z l 4 yX9_best cX9_best 5 (some .int) [.ref 108, .int x1, .int x2] vz_G0 σ vz_N0 (some (.int r)) vz_G0 σ' vz_N0 0 0 := by
  refine vz_con (by decide) (Nat.le_of_ble_eq_true rfl) (fun μ hc hl hcap hret => ?_)
  subst hl
  unfold f_X9_best at h
  refine vr_aload_n (pc := 0) hc dX9_best_0 rfl ?_
  refine vr_iload_n (pc := 1) hc dX9_best_1 rfl ?_
  refine vr_cVi (pc := 2) hc dX9_best_2 mt_X9_isReader ml_X9_204 gc_108 (w_X9_isReader z μ.2.1 x1 σ rfl) rfl (by decide) rfl (Nat.le_of_ble_eq_true rfl) ?_
  refine vr_if_eq (pc := 5) hc 18 dX9_best_5 (by decide) (fun hb1 => ?_) (fun hb1 => ?_)
  · rw [if_pos hb1] at h
    refine vr_iconst (pc := 18) hc dX9_best_18 (-1 : Int32) (by decide) ?_
    obtain ⟨rfl, rfl⟩ := vz_in2 h
    exact hret _ _ (vz_ret_i dX9_best_19 rfl)
  · rw [if_neg hb1] at h
    refine vr_iload_n (pc := 8) hc dX9_best_8 rfl ?_
    refine vr_i2l (pc := 9) hc dX9_best_9 ?_
    refine vr_lconst (pc := 10) hc dX9_best_10 (0 : Int64) (by decide) ?_
    refine vr_lconst (pc := 11) hc dX9_best_11 (1 : Int64) (by decide) ?_
    refine vr_cSi (pc := 12) hc dX9_best_12 mt_X9_in sx_X9_in ml_X9_55  (w_X9_in z μ.2.1 x2.toInt64 (0 : Int64) (1 : Int64) σ rfl) rfl (by decide) rfl (Nat.le_of_ble_eq_true rfl) ?_
    refine vr_if_ne (pc := 15) hc 20 dX9_best_15 (by decide) (fun hb2 => ?_) (fun hb2 => ?_)
    · rw [if_neg hb2] at h
      refine vr_aload_n (pc := 20) hc dX9_best_20 rfl ?_
      refine vr_iconst (pc := 21) hc dX9_best_21 (-1 : Int32) (by decide) ?_
      refine vr_putI (pc := 22) hc dX9_best_22 fl_X9_232 gc_108 (gi_9_22 gc_108) rfl rfl ?_
      refine vr_iconst (pc := 25) hc dX9_best_25 (0 : Int32) (by decide) ?_
      refine vr_istore_n (pc := 26) hc dX9_best_26 (by decide) rfl ?_
      refine vr_aload_n (pc := 27) hc dX9_best_27 rfl ?_
      refine vr_iconst (pc := 28) hc dX9_best_28 (0 : Int32) (by decide) ?_
      refine vr_sipush (pc := 29) hc dX9_best_29 (244 : Int32) (by decide) ?_
      obtain ⟨σ5, he3, h⟩ := vz_b1e h
      refine vr_cVv (pc := 32) hc dX9_best_32 mt_X9_copies ml_X9_235 gc_108 (w_X9_copies z μ.2.1 (0 : Int32) (244 : Int32) (vz_up σ 108 22 (-1 : Int32)) he3) rfl (by decide) rfl (Nat.le_of_ble_eq_true rfl) ?_
      refine vr_iconst (pc := 35) hc dX9_best_35 (0 : Int32) (by decide) ?_
      refine vr_istore (pc := 36) hc dX9_best_36 (by decide) rfl ?_
      exact vz_sub (wn_X9_best_38 z μ hc hret vz_fu x1 x2 (0 : Int32) (0 : Int32) σ5 h) (vz_sb1 rfl (vz_sb1 rfl (vz_sb1 rfl (vz_sb1 rfl (vz_sb1 rfl vz_sb0)))))
    · rw [if_pos hb2] at h
      refine vr_iconst (pc := 18) hc dX9_best_18 (-1 : Int32) (by decide) ?_
      obtain ⟨rfl, rfl⟩ := vz_in2 h
      exact hret _ _ (vz_ret_i dX9_best_19 rfl)
-- X9_late: depth 4, effects S=True W=True P=True
def f_X9_late_35 : Nat → Int32 → Int32 → Int32 → vz_I → Option (Int32 × vz_I)
  | 0, _, _, _, _ => none
  | n + 1, x1, x2, x3, σ => if x3 < 0 then some ((-4 : Int32), σ) else if vz_in ((276 : Int32) + x1) 305 then vz_b1 (f_X9_learnsOn (244 : Int32) (vz_up σ 109 ((276 : Int32) + x1).toNatClampNeg x3)) (fun σ11 => vz_b1 (f_X9_wholeOf x1 x2 σ11) (fun v13 => if (1000 : Int32) ≤ v13 then f_X9_late_35 n x1 x2 (x3 + (-1 : Int32)) σ11 else some (x3, σ11))) else none
theorem f_X9_late_35_s (n : Nat) (x1 : Int32) (x2 : Int32) (x3 : Int32) (σ : vz_I) : f_X9_late_35  (n + 1) x1 x2 x3 σ = if x3 < 0 then some ((-4 : Int32), σ) else if vz_in ((276 : Int32) + x1) 305 then vz_b1 (f_X9_learnsOn (244 : Int32) (vz_up σ 109 ((276 : Int32) + x1).toNatClampNeg x3)) (fun σ11 => vz_b1 (f_X9_wholeOf x1 x2 σ11) (fun v13 => if (1000 : Int32) ≤ v13 then f_X9_late_35 n x1 x2 (x3 + (-1 : Int32)) σ11 else some (x3, σ11))) else none := rfl
set_option maxRecDepth 20000 in
set_option maxHeartbeats 1000000 in
theorem wn_X9_late_35 (z : vz_Z) (μ : vz_M) (hc : vz_C z μ cX9_late RX9 4 4) {r : Int32} {σ' : vz_I} (hret : ∀ (pc : Nat) (L : vz_L), vz_ret cX9_late (some .int) pc (some (.int r)) → vz_V z μ 0 0 pc L ((some (.int r)) : Option Value).toList vz_G0 σ' vz_N0) : ∀ (n : Nat) (x1 : Int32) (x2 : Int32) (x3 : Int32) (σ : vz_I)  (h : f_X9_late_35  n x1 x2 x3 σ = some (r, σ')), vz_V z μ 0 0 35 [(0, some (.ref 108)), (1, some (.int x1)), (2, some (.int x2)), (3, some (.int x3))] [] vz_G0 σ vz_N0 := by
  intro n
  induction n with
  | zero =>
    intro x1 x2 x3 σ h
    cases h
  | succ n ih =>
    intro x1 x2 x3 σ h
    rw [f_X9_late_35_s] at h
    refine vr_iload_n (pc := 35) hc dX9_late_35 rfl ?_
    refine vr_if_lt (pc := 36) hc 77 dX9_late_36 (by decide) (fun hb7 => ?_) (fun hb7 => ?_)
    · rw [if_pos hb7] at h
      refine vr_bipush (pc := 77) hc dX9_late_77 (-4 : Int32) (by decide) ?_
      obtain ⟨rfl, rfl⟩ := vz_in2 h
      exact hret _ _ (vz_ret_i dX9_late_79 rfl)
    · rw [if_neg hb7] at h
      refine vr_aload_n (pc := 39) hc dX9_late_39 rfl ?_
      refine vr_getR (pc := 40) hc dX9_late_40 fl_X9_7 gc_108 (gr_9_0 gc_108).1 ?_
      refine vr_sipush (pc := 43) hc dX9_late_43 (276 : Int32) (by decide) ?_
      refine vr_iload_n (pc := 46) hc dX9_late_46 rfl ?_
      refine vr_iadd (pc := 47) hc dX9_late_47 ?_
      refine vr_iload_n (pc := 48) hc dX9_late_48 rfl ?_
      have hb8 := vz_ifp h
      rw [if_pos hb8] at h
      refine vr_iast (pc := 49) hc 305 dX9_late_49 ((gr_9_0 gc_108).2.1) ((gr_9_0 gc_108).2.2) (vz_in_vp hb8) ?_
      refine vr_aload_n (pc := 50) hc dX9_late_50 rfl ?_
      refine vr_sipush (pc := 51) hc dX9_late_51 (244 : Int32) (by decide) ?_
      obtain ⟨σ11, he9, h⟩ := vz_b1e h
      refine vr_cVv (pc := 54) hc dX9_late_54 mt_X9_learnsOn ml_X9_189 gc_108 (w_X9_learnsOn z μ.2.1 (244 : Int32) (vz_up σ 109 ((276 : Int32) + x1).toNatClampNeg x3) he9) rfl (by decide) rfl (Nat.le_of_ble_eq_true rfl) ?_
      refine vr_aload_n (pc := 57) hc dX9_late_57 rfl ?_
      refine vr_iload_n (pc := 58) hc dX9_late_58 rfl ?_
      refine vr_iload_n (pc := 59) hc dX9_late_59 rfl ?_
      obtain ⟨v13, he12, h⟩ := vz_b1e h
      refine vr_cVi (pc := 60) hc dX9_late_60 mt_X9_wholeOf ml_X9_186 gc_108 (w_X9_wholeOf z μ.2.1 x1 x2 σ11 he12) rfl (by decide) rfl (Nat.le_of_ble_eq_true rfl) ?_
      refine vr_sipush (pc := 63) hc dX9_late_63 (1000 : Int32) (by decide) ?_
      refine vr_icmp_ge (pc := 66) hc 71 dX9_late_66 (by decide) (fun hb15 => ?_) (fun hb15 => ?_)
      · rw [if_pos hb15] at h
        refine vr_iinc (pc := 71) hc dX9_late_71 (-1 : Int32) (by decide) rfl (by decide) rfl ?_
        refine vr_goto (pc := 74) hc 35 dX9_late_74 (by decide) ?_
        exact vz_sub (ih x1 x2 (x3 + (-1 : Int32)) σ11  h) (vz_sb1 rfl (vz_sb1 rfl (vz_sb1 rfl (vz_sb1 rfl vz_sb0))))
      · rw [if_neg hb15] at h
        refine vr_iload_n (pc := 69) hc dX9_late_69 rfl ?_
        obtain ⟨rfl, rfl⟩ := vz_in2 h
        exact hret _ _ (vz_ret_i dX9_late_70 rfl)
def f_X9_late (x1 : Int32) (x2 : Int32) (σ : vz_I) : Option (Int32 × vz_I) := if (f_X9_isReader x1 σ) = 0 then some ((-1 : Int32), σ) else if (f_X9_isNews x2) = 0 then some ((-1 : Int32), σ) else vz_b1 (f_X9_copies (0 : Int32) (244 : Int32) σ) (fun σ5 => if vz_in ((36 : Int32) + x1) 305 then f_X9_late_35 vz_fu x1 x2 (σ5 109 ((36 : Int32) + x1).toNatClampNeg) σ5 else none)
set_option maxRecDepth 20000 in
set_option maxHeartbeats 1000000 in
theorem w_X9_late (z : vz_Z) (l : Launch) (x1 : Int32) (x2 : Int32) (σ : vz_I)  {r : Int32} {σ' : vz_I} (h : f_X9_late x1 x2 σ = some (r, σ')) : vz_Con z l 4 yX9_late cX9_late 4 (some .int) [.ref 108, .int x1, .int x2] vz_G0 σ vz_N0 (some (.int r)) vz_G0 σ' vz_N0 0 0 := by
  refine vz_con (by decide) (Nat.le_of_ble_eq_true rfl) (fun μ hc hl hcap hret => ?_)
  subst hl
  unfold f_X9_late at h
  refine vr_aload_n (pc := 0) hc dX9_late_0 rfl ?_
  refine vr_iload_n (pc := 1) hc dX9_late_1 rfl ?_
  refine vr_cVi (pc := 2) hc dX9_late_2 mt_X9_isReader ml_X9_204 gc_108 (w_X9_isReader z μ.2.1 x1 σ rfl) rfl (by decide) rfl (Nat.le_of_ble_eq_true rfl) ?_
  refine vr_if_eq (pc := 5) hc 15 dX9_late_5 (by decide) (fun hb1 => ?_) (fun hb1 => ?_)
  · rw [if_pos hb1] at h
    refine vr_iconst (pc := 15) hc dX9_late_15 (-1 : Int32) (by decide) ?_
    obtain ⟨rfl, rfl⟩ := vz_in2 h
    exact hret _ _ (vz_ret_i dX9_late_16 rfl)
  · rw [if_neg hb1] at h
    refine vr_iload_n (pc := 8) hc dX9_late_8 rfl ?_
    refine vr_cSi (pc := 9) hc dX9_late_9 mt_X9_isNews sx_X9_isNews ml_X9_229  (w_X9_isNews z μ.2.1 x2 σ rfl) rfl (by decide) rfl (Nat.le_of_ble_eq_true rfl) ?_
    refine vr_if_ne (pc := 12) hc 17 dX9_late_12 (by decide) (fun hb2 => ?_) (fun hb2 => ?_)
    · rw [if_neg hb2] at h
      refine vr_aload_n (pc := 17) hc dX9_late_17 rfl ?_
      refine vr_iconst (pc := 18) hc dX9_late_18 (0 : Int32) (by decide) ?_
      refine vr_sipush (pc := 19) hc dX9_late_19 (244 : Int32) (by decide) ?_
      obtain ⟨σ5, he3, h⟩ := vz_b1e h
      refine vr_cVv (pc := 22) hc dX9_late_22 mt_X9_copies ml_X9_235 gc_108 (w_X9_copies z μ.2.1 (0 : Int32) (244 : Int32) σ he3) rfl (by decide) rfl (Nat.le_of_ble_eq_true rfl) ?_
      refine vr_aload_n (pc := 25) hc dX9_late_25 rfl ?_
      refine vr_getR (pc := 26) hc dX9_late_26 fl_X9_7 gc_108 (gr_9_0 gc_108).1 ?_
      refine vr_bipush (pc := 29) hc dX9_late_29 (36 : Int32) (by decide) ?_
      refine vr_iload_n (pc := 31) hc dX9_late_31 rfl ?_
      refine vr_iadd (pc := 32) hc dX9_late_32 ?_
      have hb6 := vz_ifp h
      rw [if_pos hb6] at h
      refine vr_iald (pc := 33) hc 305 dX9_late_33 ((gr_9_0 gc_108).2.1) ((gr_9_0 gc_108).2.2) (vz_in_vp hb6) ?_
      refine vr_istore_n (pc := 34) hc dX9_late_34 (by decide) rfl ?_
      exact vz_sub (wn_X9_late_35 z μ hc hret vz_fu x1 x2 (σ5 109 ((36 : Int32) + x1).toNatClampNeg) σ5 h) (vz_sb1 rfl (vz_sb1 rfl (vz_sb1 rfl (vz_sb1 rfl vz_sb0))))
    · rw [if_pos hb2] at h
      refine vr_iconst (pc := 15) hc dX9_late_15 (-1 : Int32) (by decide) ?_
      obtain ⟨rfl, rfl⟩ := vz_in2 h
      exact hret _ _ (vz_ret_i dX9_late_16 rfl)
-- X9_soon: depth 4, effects S=True W=True P=True
def f_X9_soon_35 : Nat → Int32 → Int32 → Int32 → vz_I → Option (Int32 × vz_I)
  | 0, _, _, _, _ => none
  | n + 1, x1, x2, x3, σ => if (60 : Int32) ≤ x3 then some ((-4 : Int32), σ) else if vz_in ((280 : Int32) + x1) 305 then vz_b1 (f_X9_learnsOn (244 : Int32) (vz_up σ 109 ((280 : Int32) + x1).toNatClampNeg x3)) (fun σ11 => vz_b1 (f_X9_wholeOf x1 x2 σ11) (fun v13 => if (1000 : Int32) ≤ v13 then f_X9_soon_35 n x1 x2 (x3 + (1 : Int32)) σ11 else some (x3, σ11))) else none
theorem f_X9_soon_35_s (n : Nat) (x1 : Int32) (x2 : Int32) (x3 : Int32) (σ : vz_I) : f_X9_soon_35  (n + 1) x1 x2 x3 σ = if (60 : Int32) ≤ x3 then some ((-4 : Int32), σ) else if vz_in ((280 : Int32) + x1) 305 then vz_b1 (f_X9_learnsOn (244 : Int32) (vz_up σ 109 ((280 : Int32) + x1).toNatClampNeg x3)) (fun σ11 => vz_b1 (f_X9_wholeOf x1 x2 σ11) (fun v13 => if (1000 : Int32) ≤ v13 then f_X9_soon_35 n x1 x2 (x3 + (1 : Int32)) σ11 else some (x3, σ11))) else none := rfl
set_option maxRecDepth 20000 in
set_option maxHeartbeats 1000000 in
theorem wn_X9_soon_35 (z : vz_Z) (μ : vz_M) (hc : vz_C z μ cX9_soon RX9 4 4) {r : Int32} {σ' : vz_I} (hret : ∀ (pc : Nat) (L : vz_L), vz_ret cX9_soon (some .int) pc (some (.int r)) → vz_V z μ 0 0 pc L ((some (.int r)) : Option Value).toList vz_G0 σ' vz_N0) : ∀ (n : Nat) (x1 : Int32) (x2 : Int32) (x3 : Int32) (σ : vz_I)  (h : f_X9_soon_35  n x1 x2 x3 σ = some (r, σ')), vz_V z μ 0 0 35 [(0, some (.ref 108)), (1, some (.int x1)), (2, some (.int x2)), (3, some (.int x3))] [] vz_G0 σ vz_N0 := by
  intro n
  induction n with
  | zero =>
    intro x1 x2 x3 σ h
    cases h
  | succ n ih =>
    intro x1 x2 x3 σ h
    rw [f_X9_soon_35_s] at h
    refine vr_iload_n (pc := 35) hc dX9_soon_35 rfl ?_
    refine vr_bipush (pc := 36) hc dX9_soon_36 (60 : Int32) (by decide) ?_
    refine vr_icmp_ge (pc := 38) hc 79 dX9_soon_38 (by decide) (fun hb7 => ?_) (fun hb7 => ?_)
    · rw [if_pos hb7] at h
      refine vr_bipush (pc := 79) hc dX9_soon_79 (-4 : Int32) (by decide) ?_
      obtain ⟨rfl, rfl⟩ := vz_in2 h
      exact hret _ _ (vz_ret_i dX9_soon_81 rfl)
    · rw [if_neg hb7] at h
      refine vr_aload_n (pc := 41) hc dX9_soon_41 rfl ?_
      refine vr_getR (pc := 42) hc dX9_soon_42 fl_X9_7 gc_108 (gr_9_0 gc_108).1 ?_
      refine vr_sipush (pc := 45) hc dX9_soon_45 (280 : Int32) (by decide) ?_
      refine vr_iload_n (pc := 48) hc dX9_soon_48 rfl ?_
      refine vr_iadd (pc := 49) hc dX9_soon_49 ?_
      refine vr_iload_n (pc := 50) hc dX9_soon_50 rfl ?_
      have hb8 := vz_ifp h
      rw [if_pos hb8] at h
      refine vr_iast (pc := 51) hc 305 dX9_soon_51 ((gr_9_0 gc_108).2.1) ((gr_9_0 gc_108).2.2) (vz_in_vp hb8) ?_
      refine vr_aload_n (pc := 52) hc dX9_soon_52 rfl ?_
      refine vr_sipush (pc := 53) hc dX9_soon_53 (244 : Int32) (by decide) ?_
      obtain ⟨σ11, he9, h⟩ := vz_b1e h
      refine vr_cVv (pc := 56) hc dX9_soon_56 mt_X9_learnsOn ml_X9_189 gc_108 (w_X9_learnsOn z μ.2.1 (244 : Int32) (vz_up σ 109 ((280 : Int32) + x1).toNatClampNeg x3) he9) rfl (by decide) rfl (Nat.le_of_ble_eq_true rfl) ?_
      refine vr_aload_n (pc := 59) hc dX9_soon_59 rfl ?_
      refine vr_iload_n (pc := 60) hc dX9_soon_60 rfl ?_
      refine vr_iload_n (pc := 61) hc dX9_soon_61 rfl ?_
      obtain ⟨v13, he12, h⟩ := vz_b1e h
      refine vr_cVi (pc := 62) hc dX9_soon_62 mt_X9_wholeOf ml_X9_186 gc_108 (w_X9_wholeOf z μ.2.1 x1 x2 σ11 he12) rfl (by decide) rfl (Nat.le_of_ble_eq_true rfl) ?_
      refine vr_sipush (pc := 65) hc dX9_soon_65 (1000 : Int32) (by decide) ?_
      refine vr_icmp_ge (pc := 68) hc 73 dX9_soon_68 (by decide) (fun hb15 => ?_) (fun hb15 => ?_)
      · rw [if_pos hb15] at h
        refine vr_iinc (pc := 73) hc dX9_soon_73 (1 : Int32) (by decide) rfl (by decide) rfl ?_
        refine vr_goto (pc := 76) hc 35 dX9_soon_76 (by decide) ?_
        exact vz_sub (ih x1 x2 (x3 + (1 : Int32)) σ11  h) (vz_sb1 rfl (vz_sb1 rfl (vz_sb1 rfl (vz_sb1 rfl vz_sb0))))
      · rw [if_neg hb15] at h
        refine vr_iload_n (pc := 71) hc dX9_soon_71 rfl ?_
        obtain ⟨rfl, rfl⟩ := vz_in2 h
        exact hret _ _ (vz_ret_i dX9_soon_72 rfl)
def f_X9_soon (x1 : Int32) (x2 : Int32) (σ : vz_I) : Option (Int32 × vz_I) := if (f_X9_isReader x1 σ) = 0 then some ((-1 : Int32), σ) else if (f_X9_isNews x2) = 0 then some ((-1 : Int32), σ) else vz_b1 (f_X9_copies (0 : Int32) (244 : Int32) σ) (fun σ5 => if vz_in ((32 : Int32) + x1) 305 then f_X9_soon_35 vz_fu x1 x2 (σ5 109 ((32 : Int32) + x1).toNatClampNeg) σ5 else none)
set_option maxRecDepth 20000 in
set_option maxHeartbeats 1000000 in
theorem w_X9_soon (z : vz_Z) (l : Launch) (x1 : Int32) (x2 : Int32) (σ : vz_I)  {r : Int32} {σ' : vz_I} (h : f_X9_soon x1 x2 σ = some (r, σ')) : vz_Con z l 4 yX9_soon cX9_soon 4 (some .int) [.ref 108, .int x1, .int x2] vz_G0 σ vz_N0 (some (.int r)) vz_G0 σ' vz_N0 0 0 := by
  refine vz_con (by decide) (Nat.le_of_ble_eq_true rfl) (fun μ hc hl hcap hret => ?_)
  subst hl
  unfold f_X9_soon at h
  refine vr_aload_n (pc := 0) hc dX9_soon_0 rfl ?_
  refine vr_iload_n (pc := 1) hc dX9_soon_1 rfl ?_
  refine vr_cVi (pc := 2) hc dX9_soon_2 mt_X9_isReader ml_X9_204 gc_108 (w_X9_isReader z μ.2.1 x1 σ rfl) rfl (by decide) rfl (Nat.le_of_ble_eq_true rfl) ?_
  refine vr_if_eq (pc := 5) hc 15 dX9_soon_5 (by decide) (fun hb1 => ?_) (fun hb1 => ?_)
  · rw [if_pos hb1] at h
    refine vr_iconst (pc := 15) hc dX9_soon_15 (-1 : Int32) (by decide) ?_
    obtain ⟨rfl, rfl⟩ := vz_in2 h
    exact hret _ _ (vz_ret_i dX9_soon_16 rfl)
  · rw [if_neg hb1] at h
    refine vr_iload_n (pc := 8) hc dX9_soon_8 rfl ?_
    refine vr_cSi (pc := 9) hc dX9_soon_9 mt_X9_isNews sx_X9_isNews ml_X9_229  (w_X9_isNews z μ.2.1 x2 σ rfl) rfl (by decide) rfl (Nat.le_of_ble_eq_true rfl) ?_
    refine vr_if_ne (pc := 12) hc 17 dX9_soon_12 (by decide) (fun hb2 => ?_) (fun hb2 => ?_)
    · rw [if_neg hb2] at h
      refine vr_aload_n (pc := 17) hc dX9_soon_17 rfl ?_
      refine vr_iconst (pc := 18) hc dX9_soon_18 (0 : Int32) (by decide) ?_
      refine vr_sipush (pc := 19) hc dX9_soon_19 (244 : Int32) (by decide) ?_
      obtain ⟨σ5, he3, h⟩ := vz_b1e h
      refine vr_cVv (pc := 22) hc dX9_soon_22 mt_X9_copies ml_X9_235 gc_108 (w_X9_copies z μ.2.1 (0 : Int32) (244 : Int32) σ he3) rfl (by decide) rfl (Nat.le_of_ble_eq_true rfl) ?_
      refine vr_aload_n (pc := 25) hc dX9_soon_25 rfl ?_
      refine vr_getR (pc := 26) hc dX9_soon_26 fl_X9_7 gc_108 (gr_9_0 gc_108).1 ?_
      refine vr_bipush (pc := 29) hc dX9_soon_29 (32 : Int32) (by decide) ?_
      refine vr_iload_n (pc := 31) hc dX9_soon_31 rfl ?_
      refine vr_iadd (pc := 32) hc dX9_soon_32 ?_
      have hb6 := vz_ifp h
      rw [if_pos hb6] at h
      refine vr_iald (pc := 33) hc 305 dX9_soon_33 ((gr_9_0 gc_108).2.1) ((gr_9_0 gc_108).2.2) (vz_in_vp hb6) ?_
      refine vr_istore_n (pc := 34) hc dX9_soon_34 (by decide) rfl ?_
      exact vz_sub (wn_X9_soon_35 z μ hc hret vz_fu x1 x2 (σ5 109 ((32 : Int32) + x1).toNatClampNeg) σ5 h) (vz_sb1 rfl (vz_sb1 rfl (vz_sb1 rfl (vz_sb1 rfl vz_sb0))))
    · rw [if_pos hb2] at h
      refine vr_iconst (pc := 15) hc dX9_soon_15 (-1 : Int32) (by decide) ?_
      obtain ⟨rfl, rfl⟩ := vz_in2 h
      exact hret _ _ (vz_ret_i dX9_soon_16 rfl)
-- X9_isAsSeen: depth 4, effects S=True W=True P=True
def f_X9_isAsSeen_76 (k9 : Int32 → Int32 → vz_I → Option (Int32 × vz_I)) (x3 : Int32) (xs0 : Int32) (σ : vz_I) : Option (Int32 × vz_I) := if vz_in (((4 : Int32) * x3) + (3 : Int32)) 24 then if xs0 = (σ 117 (((4 : Int32) * x3) + (3 : Int32)).toNatClampNeg) then k9 (1 : Int32) (x3 + (1 : Int32)) σ else k9 (0 : Int32) (x3 + (1 : Int32)) σ else none
set_option maxRecDepth 20000 in
set_option maxHeartbeats 1000000 in
theorem wn_X9_isAsSeen_76 (z : vz_Z) (μ : vz_M) (hc : vz_C z μ cX9_isAsSeen RX9 4 4) {r : Int32} {σ' : vz_I} (hret : ∀ (pc : Nat) (L : vz_L), vz_ret cX9_isAsSeen (some .boolean) pc (some (.int r)) → vz_V z μ 0 0 pc L ((some (.int r)) : Option Value).toList vz_G0 σ' vz_N0) (k9 : Int32 → Int32 → vz_I → Option (Int32 × vz_I)) (hk9 : ∀ (x2 : Int32) (x3 : Int32) (σ : vz_I), k9 x2 x3 σ = some (r, σ') → vz_V z μ 0 0 9 [(0, some (.ref 108)), (2, some (.int x2)), (3, some (.int x3))] [] vz_G0 σ vz_N0) (x3 : Int32) (xs0 : Int32) (σ : vz_I)  (h : f_X9_isAsSeen_76 k9 x3 xs0 σ = some (r, σ')) : vz_V z μ 0 0 76 [(0, some (.ref 108)), (3, some (.int x3))] [.int xs0] vz_G0 σ vz_N0 := by
  unfold f_X9_isAsSeen_76 at h
  refine vr_aload_n (pc := 76) hc dX9_isAsSeen_76 rfl ?_
  refine vr_getR (pc := 77) hc dX9_isAsSeen_77 fl_X9_34 gc_108 (gr_9_23 gc_108).1 ?_
  refine vr_iconst (pc := 80) hc dX9_isAsSeen_80 (4 : Int32) (by decide) ?_
  refine vr_iload_n (pc := 81) hc dX9_isAsSeen_81 rfl ?_
  refine vr_imul (pc := 82) hc dX9_isAsSeen_82 ?_
  refine vr_iconst (pc := 83) hc dX9_isAsSeen_83 (3 : Int32) (by decide) ?_
  refine vr_iadd (pc := 84) hc dX9_isAsSeen_84 ?_
  have hb16 := vz_ifp h
  rw [if_pos hb16] at h
  refine vr_iald (pc := 85) hc 24 dX9_isAsSeen_85 ((gr_9_23 gc_108).2.1) ((gr_9_23 gc_108).2.2) (vz_in_vp hb16) ?_
  refine vr_icmp_ne (pc := 86) hc 93 dX9_isAsSeen_86 (by decide) (fun hb17 => ?_) (fun hb17 => ?_)
  · rw [if_neg hb17] at h
    refine vr_iconst (pc := 93) hc dX9_isAsSeen_93 (0 : Int32) (by decide) ?_
    refine vr_istore_n (pc := 94) hc dX9_isAsSeen_94 (by decide) rfl ?_
    refine vr_iinc (pc := 95) hc dX9_isAsSeen_95 (1 : Int32) (by decide) rfl (by decide) rfl ?_
    refine vr_goto (pc := 98) hc 9 dX9_isAsSeen_98 (by decide) ?_
    exact vz_sub (hk9 (0 : Int32) (x3 + (1 : Int32)) σ  h) (vz_sb1 rfl (vz_sb1 rfl (vz_sb1 rfl vz_sb0)))
  · rw [if_pos hb17] at h
    refine vr_iconst (pc := 89) hc dX9_isAsSeen_89 (1 : Int32) (by decide) ?_
    refine vr_goto (pc := 90) hc 94 dX9_isAsSeen_90 (by decide) ?_
    refine vr_istore_n (pc := 94) hc dX9_isAsSeen_94 (by decide) rfl ?_
    refine vr_iinc (pc := 95) hc dX9_isAsSeen_95 (1 : Int32) (by decide) rfl (by decide) rfl ?_
    refine vr_goto (pc := 98) hc 9 dX9_isAsSeen_98 (by decide) ?_
    exact vz_sub (hk9 (1 : Int32) (x3 + (1 : Int32)) σ  h) (vz_sb1 rfl (vz_sb1 rfl (vz_sb1 rfl vz_sb0)))
def f_X9_isAsSeen_9 : Nat → Int32 → Int32 → vz_I → Option (Int32 × vz_I)
  | 0, _, _, _ => none
  | n + 1, x2, x3, σ => if (σ 108 24) ≤ x3 then if x2 = 0 ∨ x2 = 1 then some (x2, σ) else none else if x2 = 0 then f_X9_isAsSeen_9 n (0 : Int32) (x3 + (1 : Int32)) σ else if vz_in ((4 : Int32) * x3) 24 then if (f_X9_isReader (σ 117 ((4 : Int32) * x3).toNatClampNeg) σ) = 0 then f_X9_isAsSeen_9 n (0 : Int32) (x3 + (1 : Int32)) σ else if vz_in ((4 : Int32) * x3) 24 then if vz_in (((4 : Int32) * x3) + (1 : Int32)) 24 then vz_b1 (f_X9_wholeOf (σ 117 ((4 : Int32) * x3).toNatClampNeg) (σ 117 (((4 : Int32) * x3) + (1 : Int32)).toNatClampNeg) σ) (fun v12 => if vz_in (((4 : Int32) * x3) + (2 : Int32)) 24 then if (σ 117 (((4 : Int32) * x3) + (2 : Int32)).toNatClampNeg) < v12 then f_X9_isAsSeen_76 (f_X9_isAsSeen_9 n) x3 (0 : Int32) σ else f_X9_isAsSeen_76 (f_X9_isAsSeen_9 n) x3 (1 : Int32) σ else none) else none else none else none
theorem f_X9_isAsSeen_9_s (n : Nat) (x2 : Int32) (x3 : Int32) (σ : vz_I) : f_X9_isAsSeen_9  (n + 1) x2 x3 σ = if (σ 108 24) ≤ x3 then if x2 = 0 ∨ x2 = 1 then some (x2, σ) else none else if x2 = 0 then f_X9_isAsSeen_9 n (0 : Int32) (x3 + (1 : Int32)) σ else if vz_in ((4 : Int32) * x3) 24 then if (f_X9_isReader (σ 117 ((4 : Int32) * x3).toNatClampNeg) σ) = 0 then f_X9_isAsSeen_9 n (0 : Int32) (x3 + (1 : Int32)) σ else if vz_in ((4 : Int32) * x3) 24 then if vz_in (((4 : Int32) * x3) + (1 : Int32)) 24 then vz_b1 (f_X9_wholeOf (σ 117 ((4 : Int32) * x3).toNatClampNeg) (σ 117 (((4 : Int32) * x3) + (1 : Int32)).toNatClampNeg) σ) (fun v12 => if vz_in (((4 : Int32) * x3) + (2 : Int32)) 24 then if (σ 117 (((4 : Int32) * x3) + (2 : Int32)).toNatClampNeg) < v12 then f_X9_isAsSeen_76 (f_X9_isAsSeen_9 n) x3 (0 : Int32) σ else f_X9_isAsSeen_76 (f_X9_isAsSeen_9 n) x3 (1 : Int32) σ else none) else none else none else none := rfl
set_option maxRecDepth 20000 in
set_option maxHeartbeats 1000000 in
theorem wn_X9_isAsSeen_9 (z : vz_Z) (μ : vz_M) (hc : vz_C z μ cX9_isAsSeen RX9 4 4) {r : Int32} {σ' : vz_I} (hret : ∀ (pc : Nat) (L : vz_L), vz_ret cX9_isAsSeen (some .boolean) pc (some (.int r)) → vz_V z μ 0 0 pc L ((some (.int r)) : Option Value).toList vz_G0 σ' vz_N0) : ∀ (n : Nat) (x2 : Int32) (x3 : Int32) (σ : vz_I)  (h : f_X9_isAsSeen_9  n x2 x3 σ = some (r, σ')), vz_V z μ 0 0 9 [(0, some (.ref 108)), (2, some (.int x2)), (3, some (.int x3))] [] vz_G0 σ vz_N0 := by
  intro n
  induction n with
  | zero =>
    intro x2 x3 σ h
    cases h
  | succ n ih =>
    intro x2 x3 σ h
    rw [f_X9_isAsSeen_9_s] at h
    refine vr_iload_n (pc := 9) hc dX9_isAsSeen_9 rfl ?_
    refine vr_aload_n (pc := 10) hc dX9_isAsSeen_10 rfl ?_
    refine vr_getI (pc := 11) hc dX9_isAsSeen_11 fl_X9_156 gc_108 (gi_9_24 gc_108) ?_
    refine vr_icmp_ge (pc := 14) hc 101 dX9_isAsSeen_14 (by decide) (fun hb4 => ?_) (fun hb4 => ?_)
    · rw [if_pos hb4] at h
      refine vr_iload_n (pc := 101) hc dX9_isAsSeen_101 rfl ?_
      have hb5 := vz_ifp h
      rw [if_pos hb5] at h
      obtain ⟨rfl, rfl⟩ := vz_in2 h
      exact hret _ _ (vz_ret_i dX9_isAsSeen_102 (vz_bn hb5))
    · rw [if_neg hb4] at h
      refine vr_iload_n (pc := 17) hc dX9_isAsSeen_17 rfl ?_
      refine vr_if_eq (pc := 18) hc 93 dX9_isAsSeen_18 (by decide) (fun hb6 => ?_) (fun hb6 => ?_)
      · rw [if_pos hb6] at h
        refine vr_iconst (pc := 93) hc dX9_isAsSeen_93 (0 : Int32) (by decide) ?_
        refine vr_istore_n (pc := 94) hc dX9_isAsSeen_94 (by decide) rfl ?_
        refine vr_iinc (pc := 95) hc dX9_isAsSeen_95 (1 : Int32) (by decide) rfl (by decide) rfl ?_
        refine vr_goto (pc := 98) hc 9 dX9_isAsSeen_98 (by decide) ?_
        exact vz_sub (ih (0 : Int32) (x3 + (1 : Int32)) σ  h) (vz_sb1 rfl (vz_sb1 rfl (vz_sb1 rfl vz_sb0)))
      · rw [if_neg hb6] at h
        refine vr_aload_n (pc := 21) hc dX9_isAsSeen_21 rfl ?_
        refine vr_aload_n (pc := 22) hc dX9_isAsSeen_22 rfl ?_
        refine vr_getR (pc := 23) hc dX9_isAsSeen_23 fl_X9_34 gc_108 (gr_9_23 gc_108).1 ?_
        refine vr_iconst (pc := 26) hc dX9_isAsSeen_26 (4 : Int32) (by decide) ?_
        refine vr_iload_n (pc := 27) hc dX9_isAsSeen_27 rfl ?_
        refine vr_imul (pc := 28) hc dX9_isAsSeen_28 ?_
        have hb7 := vz_ifp h
        rw [if_pos hb7] at h
        refine vr_iald (pc := 29) hc 24 dX9_isAsSeen_29 ((gr_9_23 gc_108).2.1) ((gr_9_23 gc_108).2.2) (vz_in_vp hb7) ?_
        refine vr_cVi (pc := 30) hc dX9_isAsSeen_30 mt_X9_isReader ml_X9_204 gc_108 (w_X9_isReader z μ.2.1 (σ 117 ((4 : Int32) * x3).toNatClampNeg) σ rfl) rfl (by decide) rfl (Nat.le_of_ble_eq_true rfl) ?_
        refine vr_if_eq (pc := 33) hc 93 dX9_isAsSeen_33 (by decide) (fun hb8 => ?_) (fun hb8 => ?_)
        · rw [if_pos hb8] at h
          refine vr_iconst (pc := 93) hc dX9_isAsSeen_93 (0 : Int32) (by decide) ?_
          refine vr_istore_n (pc := 94) hc dX9_isAsSeen_94 (by decide) rfl ?_
          refine vr_iinc (pc := 95) hc dX9_isAsSeen_95 (1 : Int32) (by decide) rfl (by decide) rfl ?_
          refine vr_goto (pc := 98) hc 9 dX9_isAsSeen_98 (by decide) ?_
          exact vz_sub (ih (0 : Int32) (x3 + (1 : Int32)) σ  h) (vz_sb1 rfl (vz_sb1 rfl (vz_sb1 rfl vz_sb0)))
        · rw [if_neg hb8] at h
          refine vr_aload_n (pc := 36) hc dX9_isAsSeen_36 rfl ?_
          refine vr_aload_n (pc := 37) hc dX9_isAsSeen_37 rfl ?_
          refine vr_getR (pc := 38) hc dX9_isAsSeen_38 fl_X9_34 gc_108 (gr_9_23 gc_108).1 ?_
          refine vr_iconst (pc := 41) hc dX9_isAsSeen_41 (4 : Int32) (by decide) ?_
          refine vr_iload_n (pc := 42) hc dX9_isAsSeen_42 rfl ?_
          refine vr_imul (pc := 43) hc dX9_isAsSeen_43 ?_
          have hb9 := vz_ifp h
          rw [if_pos hb9] at h
          refine vr_iald (pc := 44) hc 24 dX9_isAsSeen_44 ((gr_9_23 gc_108).2.1) ((gr_9_23 gc_108).2.2) (vz_in_vp hb9) ?_
          refine vr_aload_n (pc := 45) hc dX9_isAsSeen_45 rfl ?_
          refine vr_getR (pc := 46) hc dX9_isAsSeen_46 fl_X9_34 gc_108 (gr_9_23 gc_108).1 ?_
          refine vr_iconst (pc := 49) hc dX9_isAsSeen_49 (4 : Int32) (by decide) ?_
          refine vr_iload_n (pc := 50) hc dX9_isAsSeen_50 rfl ?_
          refine vr_imul (pc := 51) hc dX9_isAsSeen_51 ?_
          refine vr_iconst (pc := 52) hc dX9_isAsSeen_52 (1 : Int32) (by decide) ?_
          refine vr_iadd (pc := 53) hc dX9_isAsSeen_53 ?_
          have hb10 := vz_ifp h
          rw [if_pos hb10] at h
          refine vr_iald (pc := 54) hc 24 dX9_isAsSeen_54 ((gr_9_23 gc_108).2.1) ((gr_9_23 gc_108).2.2) (vz_in_vp hb10) ?_
          obtain ⟨v12, he11, h⟩ := vz_b1e h
          refine vr_cVi (pc := 55) hc dX9_isAsSeen_55 mt_X9_wholeOf ml_X9_186 gc_108 (w_X9_wholeOf z μ.2.1 (σ 117 ((4 : Int32) * x3).toNatClampNeg) (σ 117 (((4 : Int32) * x3) + (1 : Int32)).toNatClampNeg) σ he11) rfl (by decide) rfl (Nat.le_of_ble_eq_true rfl) ?_
          refine vr_aload_n (pc := 58) hc dX9_isAsSeen_58 rfl ?_
          refine vr_getR (pc := 59) hc dX9_isAsSeen_59 fl_X9_34 gc_108 (gr_9_23 gc_108).1 ?_
          refine vr_iconst (pc := 62) hc dX9_isAsSeen_62 (4 : Int32) (by decide) ?_
          refine vr_iload_n (pc := 63) hc dX9_isAsSeen_63 rfl ?_
          refine vr_imul (pc := 64) hc dX9_isAsSeen_64 ?_
          refine vr_iconst (pc := 65) hc dX9_isAsSeen_65 (2 : Int32) (by decide) ?_
          refine vr_iadd (pc := 66) hc dX9_isAsSeen_66 ?_
          have hb14 := vz_ifp h
          rw [if_pos hb14] at h
          refine vr_iald (pc := 67) hc 24 dX9_isAsSeen_67 ((gr_9_23 gc_108).2.1) ((gr_9_23 gc_108).2.2) (vz_in_vp hb14) ?_
          refine vr_icmp_gt (pc := 68) hc 75 dX9_isAsSeen_68 (by decide) (fun hb15 => ?_) (fun hb15 => ?_)
          · rw [if_pos hb15] at h
            refine vr_iconst (pc := 75) hc dX9_isAsSeen_75 (0 : Int32) (by decide) ?_
            exact vz_sub (wn_X9_isAsSeen_76 z μ hc hret (f_X9_isAsSeen_9 n) ih x3 (0 : Int32) σ h) (vz_sb1 rfl (vz_sb1 rfl vz_sb0))
          · rw [if_neg hb15] at h
            refine vr_iconst (pc := 71) hc dX9_isAsSeen_71 (1 : Int32) (by decide) ?_
            refine vr_goto (pc := 72) hc 76 dX9_isAsSeen_72 (by decide) ?_
            exact vz_sub (wn_X9_isAsSeen_76 z μ hc hret (f_X9_isAsSeen_9 n) ih x3 (1 : Int32) σ h) (vz_sb1 rfl (vz_sb1 rfl vz_sb0))
def f_X9_isAsSeen (x1 : Int32) (σ : vz_I) : Option (Int32 × vz_I) := vz_b1 (f_X9_learnsOn x1 σ) (fun σ3 => f_X9_isAsSeen_9 vz_fu (1 : Int32) (0 : Int32) σ3)
set_option maxRecDepth 20000 in
set_option maxHeartbeats 1000000 in
theorem w_X9_isAsSeen (z : vz_Z) (l : Launch) (x1 : Int32) (σ : vz_I)  {r : Int32} {σ' : vz_I} (h : f_X9_isAsSeen x1 σ = some (r, σ')) : vz_Con z l 4 yX9_isAsSeen cX9_isAsSeen 4 (some .boolean) [.ref 108, .int x1] vz_G0 σ vz_N0 (some (.int r)) vz_G0 σ' vz_N0 0 0 := by
  refine vz_con (by decide) (Nat.le_of_ble_eq_true rfl) (fun μ hc hl hcap hret => ?_)
  subst hl
  unfold f_X9_isAsSeen at h
  refine vr_aload_n (pc := 0) hc dX9_isAsSeen_0 rfl ?_
  refine vr_iload_n (pc := 1) hc dX9_isAsSeen_1 rfl ?_
  obtain ⟨σ3, he1, h⟩ := vz_b1e h
  refine vr_cVv (pc := 2) hc dX9_isAsSeen_2 mt_X9_learnsOn ml_X9_189 gc_108 (w_X9_learnsOn z μ.2.1 x1 σ he1) rfl (by decide) rfl (Nat.le_of_ble_eq_true rfl) ?_
  refine vr_iconst (pc := 5) hc dX9_isAsSeen_5 (1 : Int32) (by decide) ?_
  refine vr_istore_n (pc := 6) hc dX9_isAsSeen_6 (by decide) rfl ?_
  refine vr_iconst (pc := 7) hc dX9_isAsSeen_7 (0 : Int32) (by decide) ?_
  refine vr_istore_n (pc := 8) hc dX9_isAsSeen_8 (by decide) rfl ?_
  exact vz_sub (wn_X9_isAsSeen_9 z μ hc hret vz_fu (1 : Int32) (0 : Int32) σ3 h) (vz_sb1 rfl (vz_sb1 rfl (vz_sb1 rfl vz_sb0)))
-- X6_lineNamed: depth 5, effects S=True W=False P=True
def f_X6_lineNamed  (σ : vz_I) : Option Int32 := vz_b1 (f_X6_isNamed 0 σ) (fun v2 => if v2 = 0 then vz_b1 (f_X6_isNamed 1 σ) (fun v6 => if v6 = 0 then vz_b1 (f_X6_isNamed 2 σ) (fun v10 => if v10 = 0 then vz_b1 (f_X6_isNamed 3 σ) (fun v14 => if v14 = 0 then vz_b1 (f_X6_isNamed 4 σ) (fun v18 => if v18 = 0 then vz_b1 (f_X6_isNamed 5 σ) (fun v22 => if v22 = 0 then vz_b1 (f_X6_isNamed 6 σ) (fun v26 => if v26 = 0 then some (-4 : Int32) else some (6 : Int32)) else some (5 : Int32)) else some (4 : Int32)) else some (3 : Int32)) else some (2 : Int32)) else some (1 : Int32)) else some (0 : Int32))
set_option maxRecDepth 20000 in
set_option maxHeartbeats 1000000 in
theorem w_X6_lineNamed (z : vz_Z) (l : Launch)  (σ : vz_I)  {r : Int32} (h : f_X6_lineNamed  σ = some r) : vz_Con z l 5 yX6_lineNamed cX6_lineNamed 1 (some .int) [.ref 1] vz_G0 σ vz_N0 (some (.int r)) vz_G0 σ vz_N0 0 0 := by
  refine vz_con (by decide) (Nat.le_of_ble_eq_true rfl) (fun μ hc hl hcap hret => ?_)
  subst hl
  unfold f_X6_lineNamed at h
  refine vr_aload_n (pc := 0) hc dX6_lineNamed_0 rfl ?_
  refine vr_ldcS (pc := 1) hc (k := 0) dX6_lineNamed_1 rfl rfl ?_
  obtain ⟨v2, he1, h⟩ := vz_b1e h
  refine vr_cVi (pc := 3) hc dX6_lineNamed_3 mt_X6_isNamed ml_X6_151 gc_1 (w_X6_isNamed z μ.2.1 0 σ (by decide) he1) rfl (by decide) rfl (Nat.le_of_ble_eq_true rfl) ?_
  refine vr_if_eq (pc := 6) hc 11 dX6_lineNamed_6 (by decide) (fun hb4 => ?_) (fun hb4 => ?_)
  · rw [if_pos hb4] at h
    refine vr_aload_n (pc := 11) hc dX6_lineNamed_11 rfl ?_
    refine vr_ldcS (pc := 12) hc (k := 1) dX6_lineNamed_12 rfl rfl ?_
    obtain ⟨v6, he5, h⟩ := vz_b1e h
    refine vr_cVi (pc := 14) hc dX6_lineNamed_14 mt_X6_isNamed ml_X6_151 gc_1 (w_X6_isNamed z μ.2.1 1 σ (by decide) he5) rfl (by decide) rfl (Nat.le_of_ble_eq_true rfl) ?_
    refine vr_if_eq (pc := 17) hc 22 dX6_lineNamed_17 (by decide) (fun hb8 => ?_) (fun hb8 => ?_)
    · rw [if_pos hb8] at h
      refine vr_aload_n (pc := 22) hc dX6_lineNamed_22 rfl ?_
      refine vr_ldcS (pc := 23) hc (k := 2) dX6_lineNamed_23 rfl rfl ?_
      obtain ⟨v10, he9, h⟩ := vz_b1e h
      refine vr_cVi (pc := 25) hc dX6_lineNamed_25 mt_X6_isNamed ml_X6_151 gc_1 (w_X6_isNamed z μ.2.1 2 σ (by decide) he9) rfl (by decide) rfl (Nat.le_of_ble_eq_true rfl) ?_
      refine vr_if_eq (pc := 28) hc 33 dX6_lineNamed_28 (by decide) (fun hb12 => ?_) (fun hb12 => ?_)
      · rw [if_pos hb12] at h
        refine vr_aload_n (pc := 33) hc dX6_lineNamed_33 rfl ?_
        refine vr_ldcS (pc := 34) hc (k := 3) dX6_lineNamed_34 rfl rfl ?_
        obtain ⟨v14, he13, h⟩ := vz_b1e h
        refine vr_cVi (pc := 36) hc dX6_lineNamed_36 mt_X6_isNamed ml_X6_151 gc_1 (w_X6_isNamed z μ.2.1 3 σ (by decide) he13) rfl (by decide) rfl (Nat.le_of_ble_eq_true rfl) ?_
        refine vr_if_eq (pc := 39) hc 44 dX6_lineNamed_39 (by decide) (fun hb16 => ?_) (fun hb16 => ?_)
        · rw [if_pos hb16] at h
          refine vr_aload_n (pc := 44) hc dX6_lineNamed_44 rfl ?_
          refine vr_ldcS (pc := 45) hc (k := 4) dX6_lineNamed_45 rfl rfl ?_
          obtain ⟨v18, he17, h⟩ := vz_b1e h
          refine vr_cVi (pc := 47) hc dX6_lineNamed_47 mt_X6_isNamed ml_X6_151 gc_1 (w_X6_isNamed z μ.2.1 4 σ (by decide) he17) rfl (by decide) rfl (Nat.le_of_ble_eq_true rfl) ?_
          refine vr_if_eq (pc := 50) hc 55 dX6_lineNamed_50 (by decide) (fun hb20 => ?_) (fun hb20 => ?_)
          · rw [if_pos hb20] at h
            refine vr_aload_n (pc := 55) hc dX6_lineNamed_55 rfl ?_
            refine vr_ldcS (pc := 56) hc (k := 5) dX6_lineNamed_56 rfl rfl ?_
            obtain ⟨v22, he21, h⟩ := vz_b1e h
            refine vr_cVi (pc := 58) hc dX6_lineNamed_58 mt_X6_isNamed ml_X6_151 gc_1 (w_X6_isNamed z μ.2.1 5 σ (by decide) he21) rfl (by decide) rfl (Nat.le_of_ble_eq_true rfl) ?_
            refine vr_if_eq (pc := 61) hc 66 dX6_lineNamed_61 (by decide) (fun hb24 => ?_) (fun hb24 => ?_)
            · rw [if_pos hb24] at h
              refine vr_aload_n (pc := 66) hc dX6_lineNamed_66 rfl ?_
              refine vr_ldcS (pc := 67) hc (k := 6) dX6_lineNamed_67 rfl rfl ?_
              obtain ⟨v26, he25, h⟩ := vz_b1e h
              refine vr_cVi (pc := 69) hc dX6_lineNamed_69 mt_X6_isNamed ml_X6_151 gc_1 (w_X6_isNamed z μ.2.1 6 σ (by decide) he25) rfl (by decide) rfl (Nat.le_of_ble_eq_true rfl) ?_
              refine vr_if_eq (pc := 72) hc 80 dX6_lineNamed_72 (by decide) (fun hb28 => ?_) (fun hb28 => ?_)
              · rw [if_pos hb28] at h
                refine vr_bipush (pc := 80) hc dX6_lineNamed_80 (-4 : Int32) (by decide) ?_
                obtain rfl := Option.some.inj h
                exact hret _ _ (vz_ret_i dX6_lineNamed_82 rfl)
              · rw [if_neg hb28] at h
                refine vr_bipush (pc := 75) hc dX6_lineNamed_75 (6 : Int32) (by decide) ?_
                refine vr_goto (pc := 77) hc 82 dX6_lineNamed_77 (by decide) ?_
                obtain rfl := Option.some.inj h
                exact hret _ _ (vz_ret_i dX6_lineNamed_82 rfl)
            · rw [if_neg hb24] at h
              refine vr_iconst (pc := 64) hc dX6_lineNamed_64 (5 : Int32) (by decide) ?_
              obtain rfl := Option.some.inj h
              exact hret _ _ (vz_ret_i dX6_lineNamed_65 rfl)
          · rw [if_neg hb20] at h
            refine vr_iconst (pc := 53) hc dX6_lineNamed_53 (4 : Int32) (by decide) ?_
            obtain rfl := Option.some.inj h
            exact hret _ _ (vz_ret_i dX6_lineNamed_54 rfl)
        · rw [if_neg hb16] at h
          refine vr_iconst (pc := 42) hc dX6_lineNamed_42 (3 : Int32) (by decide) ?_
          obtain rfl := Option.some.inj h
          exact hret _ _ (vz_ret_i dX6_lineNamed_43 rfl)
      · rw [if_neg hb12] at h
        refine vr_iconst (pc := 31) hc dX6_lineNamed_31 (2 : Int32) (by decide) ?_
        obtain rfl := Option.some.inj h
        exact hret _ _ (vz_ret_i dX6_lineNamed_32 rfl)
    · rw [if_neg hb8] at h
      refine vr_iconst (pc := 20) hc dX6_lineNamed_20 (1 : Int32) (by decide) ?_
      obtain rfl := Option.some.inj h
      exact hret _ _ (vz_ret_i dX6_lineNamed_21 rfl)
  · rw [if_neg hb4] at h
    refine vr_iconst (pc := 9) hc dX6_lineNamed_9 (0 : Int32) (by decide) ?_
    obtain rfl := Option.some.inj h
    exact hret _ _ (vz_ret_i dX6_lineNamed_10 rfl)
-- X8_rule: depth 5, effects S=True W=False P=True
def f_X8_rule (x1 : Int32) (σ : vz_I) : Option Int32 := if x1 = 0 then some (σ 21 0) else if x1 = 1 then some (σ 21 1) else if x1 = 2 then some (σ 21 2) else if x1 = 3 then some (σ 21 3) else if x1 = 4 then some (σ 21 4) else if x1 = 5 then vz_b1 (f_X7_pairs 21 (15 : Int32) σ) (fun v8 => some v8) else some (-1 : Int32)
set_option maxRecDepth 20000 in
set_option maxHeartbeats 1000000 in
theorem w_X8_rule (z : vz_Z) (l : Launch) (x1 : Int32) (σ : vz_I)  {r : Int32} (h : f_X8_rule x1 σ = some r) : vz_Con z l 5 yX8_rule cX8_rule 2 (some .int) [.ref 0, .int x1] vz_G0 σ vz_N0 (some (.int r)) vz_G0 σ vz_N0 0 0 := by
  refine vz_con (by decide) (Nat.le_of_ble_eq_true rfl) (fun μ hc hl hcap hret => ?_)
  subst hl
  unfold f_X8_rule at h
  refine vr_iload_n (pc := 0) hc dX8_rule_0 rfl ?_
  by_cases hb1 : x1 = 0
  · rw [if_pos hb1] at h
    refine vr_tableIn (pc := 1) hc _ 40 dX8_rule_1 (by rw [hb1]; decide) (by rw [hb1]; decide) (off := 39) (by rw [hb1]; decide) (by decide) ?_
    refine vr_aload_n (pc := 40) hc dX8_rule_40 rfl ?_
    refine vr_getR (pc := 41) hc dX8_rule_41 fl_X8_19 gc_0 (gr_8_1 gc_0).1 ?_
    refine vr_getI (pc := 44) hc dX8_rule_44 fl_X8_107 ((gr_8_1 gc_0).2.1) (gi_7_0 ((gr_8_1 gc_0).2.1)) ?_
    obtain rfl := Option.some.inj h
    exact hret _ _ (vz_ret_i dX8_rule_47 rfl)
  rw [if_neg hb1] at h
  by_cases hb2 : x1 = 1
  · rw [if_pos hb2] at h
    refine vr_tableIn (pc := 1) hc _ 48 dX8_rule_1 (by rw [hb2]; decide) (by rw [hb2]; decide) (off := 47) (by rw [hb2]; decide) (by decide) ?_
    refine vr_aload_n (pc := 48) hc dX8_rule_48 rfl ?_
    refine vr_getR (pc := 49) hc dX8_rule_49 fl_X8_19 gc_0 (gr_8_1 gc_0).1 ?_
    refine vr_getI (pc := 52) hc dX8_rule_52 fl_X8_110 ((gr_8_1 gc_0).2.1) (gi_7_1 ((gr_8_1 gc_0).2.1)) ?_
    obtain rfl := Option.some.inj h
    exact hret _ _ (vz_ret_i dX8_rule_55 rfl)
  rw [if_neg hb2] at h
  by_cases hb3 : x1 = 2
  · rw [if_pos hb3] at h
    refine vr_tableIn (pc := 1) hc _ 56 dX8_rule_1 (by rw [hb3]; decide) (by rw [hb3]; decide) (off := 55) (by rw [hb3]; decide) (by decide) ?_
    refine vr_aload_n (pc := 56) hc dX8_rule_56 rfl ?_
    refine vr_getR (pc := 57) hc dX8_rule_57 fl_X8_19 gc_0 (gr_8_1 gc_0).1 ?_
    refine vr_getI (pc := 60) hc dX8_rule_60 fl_X8_113 ((gr_8_1 gc_0).2.1) (gi_7_2 ((gr_8_1 gc_0).2.1)) ?_
    obtain rfl := Option.some.inj h
    exact hret _ _ (vz_ret_i dX8_rule_63 rfl)
  rw [if_neg hb3] at h
  by_cases hb4 : x1 = 3
  · rw [if_pos hb4] at h
    refine vr_tableIn (pc := 1) hc _ 64 dX8_rule_1 (by rw [hb4]; decide) (by rw [hb4]; decide) (off := 63) (by rw [hb4]; decide) (by decide) ?_
    refine vr_aload_n (pc := 64) hc dX8_rule_64 rfl ?_
    refine vr_getR (pc := 65) hc dX8_rule_65 fl_X8_19 gc_0 (gr_8_1 gc_0).1 ?_
    refine vr_getI (pc := 68) hc dX8_rule_68 fl_X8_116 ((gr_8_1 gc_0).2.1) (gi_7_3 ((gr_8_1 gc_0).2.1)) ?_
    obtain rfl := Option.some.inj h
    exact hret _ _ (vz_ret_i dX8_rule_71 rfl)
  rw [if_neg hb4] at h
  by_cases hb5 : x1 = 4
  · rw [if_pos hb5] at h
    refine vr_tableIn (pc := 1) hc _ 72 dX8_rule_1 (by rw [hb5]; decide) (by rw [hb5]; decide) (off := 71) (by rw [hb5]; decide) (by decide) ?_
    refine vr_aload_n (pc := 72) hc dX8_rule_72 rfl ?_
    refine vr_getR (pc := 73) hc dX8_rule_73 fl_X8_19 gc_0 (gr_8_1 gc_0).1 ?_
    refine vr_getI (pc := 76) hc dX8_rule_76 fl_X8_119 ((gr_8_1 gc_0).2.1) (gi_7_4 ((gr_8_1 gc_0).2.1)) ?_
    obtain rfl := Option.some.inj h
    exact hret _ _ (vz_ret_i dX8_rule_79 rfl)
  rw [if_neg hb5] at h
  by_cases hb6 : x1 = 5
  · rw [if_pos hb6] at h
    refine vr_tableIn (pc := 1) hc _ 80 dX8_rule_1 (by rw [hb6]; decide) (by rw [hb6]; decide) (off := 79) (by rw [hb6]; decide) (by decide) ?_
    refine vr_aload_n (pc := 80) hc dX8_rule_80 rfl ?_
    refine vr_getR (pc := 81) hc dX8_rule_81 fl_X8_19 gc_0 (gr_8_1 gc_0).1 ?_
    refine vr_bipush (pc := 84) hc dX8_rule_84 (15 : Int32) (by decide) ?_
    obtain ⟨v8, he7, h⟩ := vz_b1e h
    refine vr_cVi (pc := 86) hc dX8_rule_86 mt_X7_pairs ml_X8_122 ((gr_8_1 gc_0).2.1) (w_X7_pairs z μ.2.1 21 (15 : Int32) σ ((gr_8_1 gc_0).2.1) he7) rfl (by decide) rfl (Nat.le_of_ble_eq_true rfl) ?_
    obtain rfl := Option.some.inj h
    exact hret _ _ (vz_ret_i dX8_rule_89 rfl)
  rw [if_neg hb6] at h
  refine vr_tableOut (pc := 1) hc 90 dX8_rule_1 (by have e0 := lv_neT hb1 (show (0 : Int32).toInt = 0 by decide); have e1 := lv_neT hb2 (show (1 : Int32).toInt = 1 by decide); have e2 := lv_neT hb3 (show (2 : Int32).toInt = 2 by decide); have e3 := lv_neT hb4 (show (3 : Int32).toInt = 3 by decide); have e4 := lv_neT hb5 (show (4 : Int32).toInt = 4 by decide); have e5 := lv_neT hb6 (show (5 : Int32).toInt = 5 by decide); omega) (by decide) ?_
  refine vr_iconst (pc := 90) hc dX8_rule_90 (-1 : Int32) (by decide) ?_
  obtain rfl := Option.some.inj h
  exact hret _ _ (vz_ret_i dX8_rule_91 rfl)
-- X8_begin: depth 5, effects S=True W=True P=True
def f_X8_begin_46 : Nat → Int32 → Nat → Int32 → vz_I → Option (Int32 × vz_I)
  | 0, _, _, _, _ => none
  | n + 1, x2, a3, x4, σ => if (σ a3 2) ≤ x4 then some (f_X2_told x2 σ, σ) else vz_b1 (f_X7_pairs 38 (15 : Int32) σ) (fun v11 => vz_b1 (f_X0_turnTo a3 (1 : Int32) (f_X2_offer x4 v11 σ)) (fun σ15 => f_X8_begin_46 n x2 a3 (x4 + (1 : Int32)) σ15))
theorem f_X8_begin_46_s (n : Nat) (x2 : Int32) (a3 : Nat) (x4 : Int32) (σ : vz_I) : f_X8_begin_46  (n + 1) x2 a3 x4 σ = if (σ a3 2) ≤ x4 then some (f_X2_told x2 σ, σ) else vz_b1 (f_X7_pairs 38 (15 : Int32) σ) (fun v11 => vz_b1 (f_X0_turnTo a3 (1 : Int32) (f_X2_offer x4 v11 σ)) (fun σ15 => f_X8_begin_46 n x2 a3 (x4 + (1 : Int32)) σ15)) := rfl
set_option maxRecDepth 20000 in
set_option maxHeartbeats 1000000 in
theorem wn_X8_begin_46 (z : vz_Z) (μ : vz_M) (hc : vz_C z μ cX8_begin RX8 5 5) {r : Int32} {σ' : vz_I} (hret : ∀ (pc : Nat) (L : vz_L), vz_ret cX8_begin (some .int) pc (some (.int r)) → vz_V z μ 0 0 pc L ((some (.int r)) : Option Value).toList vz_G0 σ' vz_N0) : ∀ (n : Nat) (x2 : Int32) (a3 : Nat) (x4 : Int32) (σ : vz_I) (ha3 : (vz_G0 a3).1 = 0) (h : f_X8_begin_46  n x2 a3 x4 σ = some (r, σ')), vz_V z μ 0 0 46 [(0, some (.ref 0)), (2, some (.int x2)), (3, some (.ref a3)), (4, some (.int x4))] [] vz_G0 σ vz_N0 := by
  intro n
  induction n with
  | zero =>
    intro x2 a3 x4 σ ha3 h
    cases h
  | succ n ih =>
    intro x2 a3 x4 σ ha3 h
    rw [f_X8_begin_46_s] at h
    refine vr_iload (pc := 46) hc dX8_begin_46 rfl ?_
    refine vr_aload_n (pc := 48) hc dX8_begin_48 rfl ?_
    refine vr_getI (pc := 49) hc dX8_begin_49 fl_X8_141 ha3 (gi_0_2 ha3) ?_
    refine vr_icmp_ge (pc := 52) hc 84 dX8_begin_52 (by decide) (fun hb9 => ?_) (fun hb9 => ?_)
    · rw [if_pos hb9] at h
      refine vr_aload_n (pc := 84) hc dX8_begin_84 rfl ?_
      refine vr_getR (pc := 85) hc dX8_begin_85 fl_X8_57 gc_0 (gr_8_8 gc_0).1 ?_
      refine vr_iload_n (pc := 88) hc dX8_begin_88 rfl ?_
      refine vr_cVi (pc := 89) hc dX8_begin_89 mt_X2_told ml_X8_258 ((gr_8_8 gc_0).2.1) (w_X2_told z μ.2.1 x2 σ rfl) rfl (by decide) rfl (Nat.le_of_ble_eq_true rfl) ?_
      obtain ⟨rfl, rfl⟩ := vz_in2 h
      exact hret _ _ (vz_ret_i dX8_begin_92 rfl)
    · rw [if_neg hb9] at h
      refine vr_aload_n (pc := 55) hc dX8_begin_55 rfl ?_
      refine vr_getR (pc := 56) hc dX8_begin_56 fl_X8_57 gc_0 (gr_8_8 gc_0).1 ?_
      refine vr_iload (pc := 59) hc dX8_begin_59 rfl ?_
      refine vr_aload_n (pc := 61) hc dX8_begin_61 rfl ?_
      refine vr_getR (pc := 62) hc dX8_begin_62 fl_X8_23 gc_0 (gr_8_2 gc_0).1 ?_
      refine vr_bipush (pc := 65) hc dX8_begin_65 (15 : Int32) (by decide) ?_
      obtain ⟨v11, he10, h⟩ := vz_b1e h
      refine vr_cVi (pc := 67) hc dX8_begin_67 mt_X7_pairs ml_X8_122 ((gr_8_2 gc_0).2.1) (w_X7_pairs z μ.2.1 38 (15 : Int32) σ ((gr_8_2 gc_0).2.1) he10) rfl (by decide) rfl (Nat.le_of_ble_eq_true rfl) ?_
      refine vr_cVv (pc := 70) hc dX8_begin_70 mt_X2_offer ml_X8_255 ((gr_8_8 gc_0).2.1) (w_X2_offer z μ.2.1 x4 v11 σ rfl) rfl (by decide) rfl (Nat.le_of_ble_eq_true rfl) ?_
      refine vr_aload_n (pc := 73) hc dX8_begin_73 rfl ?_
      refine vr_iconst (pc := 74) hc dX8_begin_74 (1 : Int32) (by decide) ?_
      obtain ⟨σ15, he13, h⟩ := vz_b1e h
      refine vr_cVv (pc := 75) hc dX8_begin_75 mt_X0_turnTo ml_X8_192 ha3 (w_X0_turnTo z μ.2.1 a3 (1 : Int32) (f_X2_offer x4 v11 σ) ha3 he13) rfl (by decide) rfl (Nat.le_of_ble_eq_true rfl) ?_
      refine vr_iinc (pc := 78) hc dX8_begin_78 (1 : Int32) (by decide) rfl (by decide) rfl ?_
      refine vr_goto (pc := 81) hc 46 dX8_begin_81 (by decide) ?_
      exact vz_sub (ih x2 a3 (x4 + (1 : Int32)) σ15 ha3 h) (vz_sb1 rfl (vz_sb1 rfl (vz_sb1 rfl (vz_sb1 rfl vz_sb0))))
def f_X8_begin (x1 : Int32) (x2 : Int32) (σ : vz_I) : Option (Int32 × vz_I) := vz_b1 (f_X7_copyFrom 38 21 σ) (fun σ3 => vz_b1 (f_X7_manAt 38 x1 σ3) (fun v5 => vz_mo v5 (some ((-1 : Int32), σ3)) (fun a7 => if (f_X8_isEither x2) = 0 then some ((-1 : Int32), σ3) else f_X8_begin_46 vz_fu x2 a7 (0 : Int32) (f_X2_restart (-1000 : Int32) σ3))))
set_option maxRecDepth 20000 in
set_option maxHeartbeats 1000000 in
theorem w_X8_begin (z : vz_Z) (l : Launch) (x1 : Int32) (x2 : Int32) (σ : vz_I)  {r : Int32} {σ' : vz_I} (h : f_X8_begin x1 x2 σ = some (r, σ')) : vz_Con z l 5 yX8_begin cX8_begin 5 (some .int) [.ref 0, .int x1, .int x2] vz_G0 σ vz_N0 (some (.int r)) vz_G0 σ' vz_N0 0 0 := by
  refine vz_con (by decide) (Nat.le_of_ble_eq_true rfl) (fun μ hc hl hcap hret => ?_)
  subst hl
  unfold f_X8_begin at h
  refine vr_aload_n (pc := 0) hc dX8_begin_0 rfl ?_
  refine vr_getR (pc := 1) hc dX8_begin_1 fl_X8_23 gc_0 (gr_8_2 gc_0).1 ?_
  refine vr_aload_n (pc := 4) hc dX8_begin_4 rfl ?_
  refine vr_getR (pc := 5) hc dX8_begin_5 fl_X8_19 gc_0 (gr_8_1 gc_0).1 ?_
  obtain ⟨σ3, he1, h⟩ := vz_b1e h
  refine vr_cVv (pc := 8) hc dX8_begin_8 mt_X7_copyFrom ml_X8_97 ((gr_8_2 gc_0).2.1) (w_X7_copyFrom z μ.2.1 38 21 σ ((gr_8_2 gc_0).2.1) ((gr_8_1 gc_0).2.1) he1) rfl (by decide) rfl (Nat.le_of_ble_eq_true rfl) ?_
  refine vr_aload_n (pc := 11) hc dX8_begin_11 rfl ?_
  refine vr_getR (pc := 12) hc dX8_begin_12 fl_X8_23 gc_0 (gr_8_2 gc_0).1 ?_
  refine vr_iload_n (pc := 15) hc dX8_begin_15 rfl ?_
  obtain ⟨v5, he4, h⟩ := vz_b1e h
  cases v5 with
  | none =>
    rw [vz_mo_n] at h
    refine vr_cVn (pc := 16) hc dX8_begin_16 mt_X7_manAt ml_X8_126 ((gr_8_2 gc_0).2.1) (w_X7_manAt z μ.2.1 38 x1 σ3 ((gr_8_2 gc_0).2.1) he4) rfl (by decide) rfl (Nat.le_of_ble_eq_true rfl) ?_
    refine vr_astoreN_n (pc := 19) hc dX8_begin_19 (by decide) rfl ?_
    refine vr_aloadN_n (pc := 20) hc dX8_begin_20 rfl ?_
    refine vr_ifnullN (pc := 21) hc 31 dX8_begin_21 (by decide) ?_
    refine vr_iconst (pc := 31) hc dX8_begin_31 (-1 : Int32) (by decide) ?_
    obtain ⟨rfl, rfl⟩ := vz_in2 h
    exact hret _ _ (vz_ret_i dX8_begin_32 rfl)
  | some a7 =>
    rw [vz_mo_s] at h
    refine vr_cVa (pc := 16) hc dX8_begin_16 mt_X7_manAt ml_X8_126 ((gr_8_2 gc_0).2.1) (w_X7_manAt z μ.2.1 38 x1 σ3 ((gr_8_2 gc_0).2.1) he4) rfl (by decide) rfl (Nat.le_of_ble_eq_true rfl) ?_
    refine vr_astore_n (pc := 19) hc dX8_begin_19 (by decide) rfl ?_
    refine vr_aload_n (pc := 20) hc dX8_begin_20 rfl ?_
    refine vr_ifnull (pc := 21) hc dX8_begin_21 ?_
    refine vr_iload_n (pc := 24) hc dX8_begin_24 rfl ?_
    refine vr_cSi (pc := 25) hc dX8_begin_25 mt_X8_isEither sx_X8_isEither ml_X8_160  (w_X8_isEither z μ.2.1 x2 σ3 rfl) rfl (by decide) rfl (Nat.le_of_ble_eq_true rfl) ?_
    refine vr_if_ne (pc := 28) hc 33 dX8_begin_28 (by decide) (fun hb8 => ?_) (fun hb8 => ?_)
    · rw [if_neg hb8] at h
      refine vr_aload_n (pc := 33) hc dX8_begin_33 rfl ?_
      refine vr_getR (pc := 34) hc dX8_begin_34 fl_X8_57 gc_0 (gr_8_8 gc_0).1 ?_
      refine vr_sipush (pc := 37) hc dX8_begin_37 (-1000 : Int32) (by decide) ?_
      refine vr_cVv (pc := 40) hc dX8_begin_40 mt_X2_restart ml_X8_246 ((gr_8_8 gc_0).2.1) (w_X2_restart z μ.2.1 (-1000 : Int32) σ3 rfl) rfl (by decide) rfl (Nat.le_of_ble_eq_true rfl) ?_
      refine vr_iconst (pc := 43) hc dX8_begin_43 (0 : Int32) (by decide) ?_
      refine vr_istore (pc := 44) hc dX8_begin_44 (by decide) rfl ?_
      exact vz_sub (wn_X8_begin_46 z μ hc hret vz_fu x2 a7 (0 : Int32) (f_X2_restart (-1000 : Int32) σ3) (wc_X7_manAt ((gr_8_2 gc_0).2.1) he4) h) (vz_sb1 rfl (vz_sb1 rfl (vz_sb1 rfl (vz_sb1 rfl vz_sb0))))
    · rw [if_pos hb8] at h
      refine vr_iconst (pc := 31) hc dX8_begin_31 (-1 : Int32) (by decide) ?_
      obtain ⟨rfl, rfl⟩ := vz_in2 h
      exact hret _ _ (vz_ret_i dX8_begin_32 rfl)
-- X8_kind: depth 5, effects S=True W=True P=True
def f_X8_kind_46 : Nat → Int32 → Nat → Int32 → vz_I → Option (Int32 × vz_I)
  | 0, _, _, _, _ => none
  | n + 1, x2, a3, x4, σ => if (4 : Int32) ≤ x4 then some (f_X2_told x2 σ, σ) else vz_b1 (f_X7_pairs 38 (15 : Int32) (vz_up σ a3 0 x4)) (fun v11 => f_X8_kind_46 n x2 a3 (x4 + (1 : Int32)) (f_X2_offer x4 v11 (vz_up σ a3 0 x4)))
theorem f_X8_kind_46_s (n : Nat) (x2 : Int32) (a3 : Nat) (x4 : Int32) (σ : vz_I) : f_X8_kind_46  (n + 1) x2 a3 x4 σ = if (4 : Int32) ≤ x4 then some (f_X2_told x2 σ, σ) else vz_b1 (f_X7_pairs 38 (15 : Int32) (vz_up σ a3 0 x4)) (fun v11 => f_X8_kind_46 n x2 a3 (x4 + (1 : Int32)) (f_X2_offer x4 v11 (vz_up σ a3 0 x4))) := rfl
set_option maxRecDepth 20000 in
set_option maxHeartbeats 1000000 in
theorem wn_X8_kind_46 (z : vz_Z) (μ : vz_M) (hc : vz_C z μ cX8_kind RX8 5 5) {r : Int32} {σ' : vz_I} (hret : ∀ (pc : Nat) (L : vz_L), vz_ret cX8_kind (some .int) pc (some (.int r)) → vz_V z μ 0 0 pc L ((some (.int r)) : Option Value).toList vz_G0 σ' vz_N0) : ∀ (n : Nat) (x2 : Int32) (a3 : Nat) (x4 : Int32) (σ : vz_I) (ha3 : (vz_G0 a3).1 = 0) (h : f_X8_kind_46  n x2 a3 x4 σ = some (r, σ')), vz_V z μ 0 0 46 [(0, some (.ref 0)), (2, some (.int x2)), (3, some (.ref a3)), (4, some (.int x4))] [] vz_G0 σ vz_N0 := by
  intro n
  induction n with
  | zero =>
    intro x2 a3 x4 σ ha3 h
    cases h
  | succ n ih =>
    intro x2 a3 x4 σ ha3 h
    rw [f_X8_kind_46_s] at h
    refine vr_iload (pc := 46) hc dX8_kind_46 rfl ?_
    refine vr_iconst (pc := 48) hc dX8_kind_48 (4 : Int32) (by decide) ?_
    refine vr_icmp_ge (pc := 49) hc 82 dX8_kind_49 (by decide) (fun hb9 => ?_) (fun hb9 => ?_)
    · rw [if_pos hb9] at h
      refine vr_aload_n (pc := 82) hc dX8_kind_82 rfl ?_
      refine vr_getR (pc := 83) hc dX8_kind_83 fl_X8_57 gc_0 (gr_8_8 gc_0).1 ?_
      refine vr_iload_n (pc := 86) hc dX8_kind_86 rfl ?_
      refine vr_cVi (pc := 87) hc dX8_kind_87 mt_X2_told ml_X8_258 ((gr_8_8 gc_0).2.1) (w_X2_told z μ.2.1 x2 σ rfl) rfl (by decide) rfl (Nat.le_of_ble_eq_true rfl) ?_
      obtain ⟨rfl, rfl⟩ := vz_in2 h
      exact hret _ _ (vz_ret_i dX8_kind_90 rfl)
    · rw [if_neg hb9] at h
      refine vr_aload_n (pc := 52) hc dX8_kind_52 rfl ?_
      refine vr_iload (pc := 53) hc dX8_kind_53 rfl ?_
      refine vr_putI (pc := 55) hc dX8_kind_55 fl_X8_130 ha3 (gi_0_0 ha3) rfl rfl ?_
      refine vr_aload_n (pc := 58) hc dX8_kind_58 rfl ?_
      refine vr_getR (pc := 59) hc dX8_kind_59 fl_X8_57 gc_0 (gr_8_8 gc_0).1 ?_
      refine vr_iload (pc := 62) hc dX8_kind_62 rfl ?_
      refine vr_aload_n (pc := 64) hc dX8_kind_64 rfl ?_
      refine vr_getR (pc := 65) hc dX8_kind_65 fl_X8_23 gc_0 (gr_8_2 gc_0).1 ?_
      refine vr_bipush (pc := 68) hc dX8_kind_68 (15 : Int32) (by decide) ?_
      obtain ⟨v11, he10, h⟩ := vz_b1e h
      refine vr_cVi (pc := 70) hc dX8_kind_70 mt_X7_pairs ml_X8_122 ((gr_8_2 gc_0).2.1) (w_X7_pairs z μ.2.1 38 (15 : Int32) (vz_up σ a3 0 x4) ((gr_8_2 gc_0).2.1) he10) rfl (by decide) rfl (Nat.le_of_ble_eq_true rfl) ?_
      refine vr_cVv (pc := 73) hc dX8_kind_73 mt_X2_offer ml_X8_255 ((gr_8_8 gc_0).2.1) (w_X2_offer z μ.2.1 x4 v11 (vz_up σ a3 0 x4) rfl) rfl (by decide) rfl (Nat.le_of_ble_eq_true rfl) ?_
      refine vr_iinc (pc := 76) hc dX8_kind_76 (1 : Int32) (by decide) rfl (by decide) rfl ?_
      refine vr_goto (pc := 79) hc 46 dX8_kind_79 (by decide) ?_
      exact vz_sub (ih x2 a3 (x4 + (1 : Int32)) (f_X2_offer x4 v11 (vz_up σ a3 0 x4)) ha3 h) (vz_sb1 rfl (vz_sb1 rfl (vz_sb1 rfl (vz_sb1 rfl vz_sb0))))
def f_X8_kind (x1 : Int32) (x2 : Int32) (σ : vz_I) : Option (Int32 × vz_I) := vz_b1 (f_X7_copyFrom 38 21 σ) (fun σ3 => vz_b1 (f_X7_manAt 38 x1 σ3) (fun v5 => vz_mo v5 (some ((-1 : Int32), σ3)) (fun a7 => if (f_X8_isEither x2) = 0 then some ((-1 : Int32), σ3) else f_X8_kind_46 vz_fu x2 a7 (0 : Int32) (f_X2_restart (-1000 : Int32) σ3))))
set_option maxRecDepth 20000 in
set_option maxHeartbeats 1000000 in
theorem w_X8_kind (z : vz_Z) (l : Launch) (x1 : Int32) (x2 : Int32) (σ : vz_I)  {r : Int32} {σ' : vz_I} (h : f_X8_kind x1 x2 σ = some (r, σ')) : vz_Con z l 5 yX8_kind cX8_kind 5 (some .int) [.ref 0, .int x1, .int x2] vz_G0 σ vz_N0 (some (.int r)) vz_G0 σ' vz_N0 0 0 := by
  refine vz_con (by decide) (Nat.le_of_ble_eq_true rfl) (fun μ hc hl hcap hret => ?_)
  subst hl
  unfold f_X8_kind at h
  refine vr_aload_n (pc := 0) hc dX8_kind_0 rfl ?_
  refine vr_getR (pc := 1) hc dX8_kind_1 fl_X8_23 gc_0 (gr_8_2 gc_0).1 ?_
  refine vr_aload_n (pc := 4) hc dX8_kind_4 rfl ?_
  refine vr_getR (pc := 5) hc dX8_kind_5 fl_X8_19 gc_0 (gr_8_1 gc_0).1 ?_
  obtain ⟨σ3, he1, h⟩ := vz_b1e h
  refine vr_cVv (pc := 8) hc dX8_kind_8 mt_X7_copyFrom ml_X8_97 ((gr_8_2 gc_0).2.1) (w_X7_copyFrom z μ.2.1 38 21 σ ((gr_8_2 gc_0).2.1) ((gr_8_1 gc_0).2.1) he1) rfl (by decide) rfl (Nat.le_of_ble_eq_true rfl) ?_
  refine vr_aload_n (pc := 11) hc dX8_kind_11 rfl ?_
  refine vr_getR (pc := 12) hc dX8_kind_12 fl_X8_23 gc_0 (gr_8_2 gc_0).1 ?_
  refine vr_iload_n (pc := 15) hc dX8_kind_15 rfl ?_
  obtain ⟨v5, he4, h⟩ := vz_b1e h
  cases v5 with
  | none =>
    rw [vz_mo_n] at h
    refine vr_cVn (pc := 16) hc dX8_kind_16 mt_X7_manAt ml_X8_126 ((gr_8_2 gc_0).2.1) (w_X7_manAt z μ.2.1 38 x1 σ3 ((gr_8_2 gc_0).2.1) he4) rfl (by decide) rfl (Nat.le_of_ble_eq_true rfl) ?_
    refine vr_astoreN_n (pc := 19) hc dX8_kind_19 (by decide) rfl ?_
    refine vr_aloadN_n (pc := 20) hc dX8_kind_20 rfl ?_
    refine vr_ifnullN (pc := 21) hc 31 dX8_kind_21 (by decide) ?_
    refine vr_iconst (pc := 31) hc dX8_kind_31 (-1 : Int32) (by decide) ?_
    obtain ⟨rfl, rfl⟩ := vz_in2 h
    exact hret _ _ (vz_ret_i dX8_kind_32 rfl)
  | some a7 =>
    rw [vz_mo_s] at h
    refine vr_cVa (pc := 16) hc dX8_kind_16 mt_X7_manAt ml_X8_126 ((gr_8_2 gc_0).2.1) (w_X7_manAt z μ.2.1 38 x1 σ3 ((gr_8_2 gc_0).2.1) he4) rfl (by decide) rfl (Nat.le_of_ble_eq_true rfl) ?_
    refine vr_astore_n (pc := 19) hc dX8_kind_19 (by decide) rfl ?_
    refine vr_aload_n (pc := 20) hc dX8_kind_20 rfl ?_
    refine vr_ifnull (pc := 21) hc dX8_kind_21 ?_
    refine vr_iload_n (pc := 24) hc dX8_kind_24 rfl ?_
    refine vr_cSi (pc := 25) hc dX8_kind_25 mt_X8_isEither sx_X8_isEither ml_X8_160  (w_X8_isEither z μ.2.1 x2 σ3 rfl) rfl (by decide) rfl (Nat.le_of_ble_eq_true rfl) ?_
    refine vr_if_ne (pc := 28) hc 33 dX8_kind_28 (by decide) (fun hb8 => ?_) (fun hb8 => ?_)
    · rw [if_neg hb8] at h
      refine vr_aload_n (pc := 33) hc dX8_kind_33 rfl ?_
      refine vr_getR (pc := 34) hc dX8_kind_34 fl_X8_57 gc_0 (gr_8_8 gc_0).1 ?_
      refine vr_sipush (pc := 37) hc dX8_kind_37 (-1000 : Int32) (by decide) ?_
      refine vr_cVv (pc := 40) hc dX8_kind_40 mt_X2_restart ml_X8_246 ((gr_8_8 gc_0).2.1) (w_X2_restart z μ.2.1 (-1000 : Int32) σ3 rfl) rfl (by decide) rfl (Nat.le_of_ble_eq_true rfl) ?_
      refine vr_iconst (pc := 43) hc dX8_kind_43 (0 : Int32) (by decide) ?_
      refine vr_istore (pc := 44) hc dX8_kind_44 (by decide) rfl ?_
      exact vz_sub (wn_X8_kind_46 z μ hc hret vz_fu x2 a7 (0 : Int32) (f_X2_restart (-1000 : Int32) σ3) (wc_X7_manAt ((gr_8_2 gc_0).2.1) he4) h) (vz_sb1 rfl (vz_sb1 rfl (vz_sb1 rfl (vz_sb1 rfl vz_sb0))))
    · rw [if_pos hb8] at h
      refine vr_iconst (pc := 31) hc dX8_kind_31 (-1 : Int32) (by decide) ?_
      obtain ⟨rfl, rfl⟩ := vz_in2 h
      exact hret _ _ (vz_ret_i dX8_kind_32 rfl)
