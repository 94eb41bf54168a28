-- X0_copyFrom: depth 0, effects S=True W=True P=True
def f_X0_copyFrom_26 : Nat → Nat → Nat → Int32 → vz_I → Option vz_I
  | 0, _, _, _, _ => none
  | n + 1, a0, a1, x2, σ => if (σ a0 2) ≤ x2 then some σ else if vz_in x2 4 then if vz_in x2 4 then vz_let (vz_up σ (a0 + 1) x2.toNatClampNeg (σ (a1 + 1) x2.toNatClampNeg)) (fun σ6 => f_X0_copyFrom_26 n a0 a1 (x2 + (1 : Int32)) σ6) else none else none
theorem f_X0_copyFrom_26_s (n : Nat) (a0 : Nat) (a1 : Nat) (x2 : Int32) (σ : vz_I) : f_X0_copyFrom_26  (n + 1) a0 a1 x2 σ = if (σ a0 2) ≤ x2 then some σ else if vz_in x2 4 then if vz_in x2 4 then vz_let (vz_up σ (a0 + 1) x2.toNatClampNeg (σ (a1 + 1) x2.toNatClampNeg)) (fun σ6 => f_X0_copyFrom_26 n a0 a1 (x2 + (1 : Int32)) σ6) else none else none := rfl
set_option maxRecDepth 20000 in
set_option maxHeartbeats 1000000 in
theorem wn_X0_copyFrom_26 (z : vz_Z) (μ : vz_M) (hc : vz_C z μ cX0_copyFrom RX0 0 3) {σ' : vz_I} (hret : ∀ (pc : Nat) (L : vz_L), vz_ret cX0_copyFrom none pc none → vz_V z μ 0 0 pc L (none : Option Value).toList vz_G0 σ' vz_N0) : ∀ (n : Nat) (a0 : Nat) (a1 : Nat) (x2 : Int32) (σ : vz_I) (ha0 : (vz_G0 a0).1 = 0) (ha1 : (vz_G0 a1).1 = 0) (h : f_X0_copyFrom_26  n a0 a1 x2 σ = some σ'), vz_V z μ 0 0 26 [(0, some (.ref a0)), (1, some (.ref a1)), (2, some (.int x2))] [] vz_G0 σ vz_N0 := by
  intro n
  induction n with
  | zero =>
    intro a0 a1 x2 σ ha0 ha1 h
    cases h
  | succ n ih =>
    intro a0 a1 x2 σ ha0 ha1 h
    rw [f_X0_copyFrom_26_s] at h
    refine vr_iload_n (pc := 26) hc dX0_copyFrom_26 rfl ?_
    refine vr_aload_n (pc := 27) hc dX0_copyFrom_27 rfl ?_
    refine vr_getI (pc := 28) hc dX0_copyFrom_28 fl_X0_22 ha0 (gi_0_2 ha0) ?_
    refine vr_icmp_ge (pc := 31) hc 52 dX0_copyFrom_31 (by decide) (fun hb3 => ?_) (fun hb3 => ?_)
    · rw [if_pos hb3] at h
      obtain rfl := Option.some.inj h
      exact hret _ _ (vz_ret_v dX0_copyFrom_52)
    · rw [if_neg hb3] at h
      refine vr_aload_n (pc := 34) hc dX0_copyFrom_34 rfl ?_
      refine vr_getR (pc := 35) hc dX0_copyFrom_35 fl_X0_9 ha0 (gr_0_3 ha0).1 ?_
      refine vr_iload_n (pc := 38) hc dX0_copyFrom_38 rfl ?_
      refine vr_aload_n (pc := 39) hc dX0_copyFrom_39 rfl ?_
      refine vr_getR (pc := 40) hc dX0_copyFrom_40 fl_X0_9 ha1 (gr_0_3 ha1).1 ?_
      refine vr_iload_n (pc := 43) hc dX0_copyFrom_43 rfl ?_
      have hb4 := vz_ifp h
      rw [if_pos hb4] at h
      refine vr_iald (pc := 44) hc 4 dX0_copyFrom_44 ((gr_0_3 ha1).2.1) ((gr_0_3 ha1).2.2) (vz_in_vp hb4) ?_
      have hb5 := vz_ifp h
      rw [if_pos hb5] at h
      refine vr_iast (pc := 45) hc 4 dX0_copyFrom_45 ((gr_0_3 ha0).2.1) ((gr_0_3 ha0).2.2) (vz_in_vp hb5) ?_
      obtain ⟨σ6, hσ7⟩ : ∃ x, x = vz_up σ (a0 + 1) x2.toNatClampNeg (σ (a1 + 1) x2.toNatClampNeg) := ⟨_, rfl⟩
      rw [← hσ7] at h ⊢
      rw [vz_let_e] at h
      refine vr_iinc (pc := 46) hc dX0_copyFrom_46 (1 : Int32) (by decide) rfl (by decide) rfl ?_
      refine vr_goto (pc := 49) hc 26 dX0_copyFrom_49 (by decide) ?_
      exact vz_sub (ih a0 a1 (x2 + (1 : Int32)) σ6 ha0 ha1 h) (vz_sb1 rfl (vz_sb1 rfl (vz_sb1 rfl vz_sb0)))
def f_X0_copyFrom (a0 : Nat) (a1 : Nat) (σ : vz_I) : Option vz_I := vz_let (vz_up (vz_up σ a0 0 (σ a1 0)) a0 1 ((vz_up σ a0 0 (σ a1 0)) a1 1)) (fun σ1 => f_X0_copyFrom_26 vz_fu a0 a1 (0 : Int32) (vz_up σ1 a0 2 (σ1 a1 2)))
set_option maxRecDepth 20000 in
set_option maxHeartbeats 1000000 in
theorem w_X0_copyFrom (z : vz_Z) (l : Launch) (a0 : Nat) (a1 : Nat) (σ : vz_I) (ha0 : (vz_G0 a0).1 = 0) (ha1 : (vz_G0 a1).1 = 0) {σ' : vz_I} (h : f_X0_copyFrom a0 a1 σ = some σ') : vz_Con z l 0 yX0_copyFrom cX0_copyFrom 3 none [.ref a0, .ref a1] vz_G0 σ vz_N0 none vz_G0 σ' vz_N0 0 0 := by
  refine vz_con (by decide) (Nat.le_of_ble_eq_true rfl) (fun μ hc hl hcap hret => ?_)
  subst hl
  unfold f_X0_copyFrom at h
  refine vr_aload_n (pc := 0) hc dX0_copyFrom_0 rfl ?_
  refine vr_aload_n (pc := 1) hc dX0_copyFrom_1 rfl ?_
  refine vr_getI (pc := 2) hc dX0_copyFrom_2 fl_X0_15 ha1 (gi_0_0 ha1) ?_
  refine vr_putI (pc := 5) hc dX0_copyFrom_5 fl_X0_15 ha0 (gi_0_0 ha0) rfl rfl ?_
  refine vr_aload_n (pc := 8) hc dX0_copyFrom_8 rfl ?_
  refine vr_aload_n (pc := 9) hc dX0_copyFrom_9 rfl ?_
  refine vr_getI (pc := 10) hc dX0_copyFrom_10 fl_X0_19 ha1 (gi_0_1 ha1) ?_
  refine vr_putI (pc := 13) hc dX0_copyFrom_13 fl_X0_19 ha0 (gi_0_1 ha0) rfl rfl ?_
  obtain ⟨σ1, hσ2⟩ : ∃ x, x = vz_up (vz_up σ a0 0 (σ a1 0)) a0 1 ((vz_up σ a0 0 (σ a1 0)) a1 1) := ⟨_, rfl⟩
  rw [← hσ2] at h ⊢
  rw [vz_let_e] at h
  refine vr_aload_n (pc := 16) hc dX0_copyFrom_16 rfl ?_
  refine vr_aload_n (pc := 17) hc dX0_copyFrom_17 rfl ?_
  refine vr_getI (pc := 18) hc dX0_copyFrom_18 fl_X0_22 ha1 (gi_0_2 ha1) ?_
  refine vr_putI (pc := 21) hc dX0_copyFrom_21 fl_X0_22 ha0 (gi_0_2 ha0) rfl rfl ?_
  refine vr_iconst (pc := 24) hc dX0_copyFrom_24 (0 : Int32) (by decide) ?_
  refine vr_istore_n (pc := 25) hc dX0_copyFrom_25 (by decide) rfl ?_
  exact vz_sub (wn_X0_copyFrom_26 z μ hc hret vz_fu a0 a1 (0 : Int32) (vz_up σ1 a0 2 (σ1 a1 2)) ha0 ha1 h) (vz_sb1 rfl (vz_sb1 rfl (vz_sb1 rfl vz_sb0)))
-- X0_hasPlace: depth 0, effects S=True W=False P=False
def f_X0_hasPlace (a0 : Nat) (x1 : Int32) (σ : vz_I) : Int32 := if x1 < 0 then (0 : Int32) else if (σ a0 2) ≤ x1 then (0 : Int32) else (1 : Int32)
set_option maxRecDepth 20000 in
set_option maxHeartbeats 1000000 in
theorem w_X0_hasPlace (z : vz_Z) (l : Launch) (a0 : Nat) (x1 : Int32) (σ : vz_I) (ha0 : (vz_G0 a0).1 = 0) {r : Int32} (h : f_X0_hasPlace a0 x1 σ = r) : vz_Con z l 0 yX0_hasPlace cX0_hasPlace 2 (some .boolean) [.ref a0, .int x1] vz_G0 σ vz_N0 (some (.int r)) vz_G0 σ vz_N0 0 0 := by
  refine vz_con (by decide) (Nat.le_of_ble_eq_true rfl) (fun μ hc hl hcap hret => ?_)
  subst hl
  unfold f_X0_hasPlace at h
  refine vr_iload_n (pc := 0) hc dX0_hasPlace_0 rfl ?_
  refine vr_if_lt (pc := 1) hc 16 dX0_hasPlace_1 (by decide) (fun hb1 => ?_) (fun hb1 => ?_)
  · rw [if_pos hb1] at h
    refine vr_iconst (pc := 16) hc dX0_hasPlace_16 (0 : Int32) (by decide) ?_
    subst h
    exact hret _ _ (vz_ret_i dX0_hasPlace_17 (by decide))
  · rw [if_neg hb1] at h
    refine vr_iload_n (pc := 4) hc dX0_hasPlace_4 rfl ?_
    refine vr_aload_n (pc := 5) hc dX0_hasPlace_5 rfl ?_
    refine vr_getI (pc := 6) hc dX0_hasPlace_6 fl_X0_22 ha0 (gi_0_2 ha0) ?_
    refine vr_icmp_ge (pc := 9) hc 16 dX0_hasPlace_9 (by decide) (fun hb2 => ?_) (fun hb2 => ?_)
    · rw [if_pos hb2] at h
      refine vr_iconst (pc := 16) hc dX0_hasPlace_16 (0 : Int32) (by decide) ?_
      subst h
      exact hret _ _ (vz_ret_i dX0_hasPlace_17 (by decide))
    · rw [if_neg hb2] at h
      refine vr_iconst (pc := 12) hc dX0_hasPlace_12 (1 : Int32) (by decide) ?_
      refine vr_goto (pc := 13) hc 17 dX0_hasPlace_13 (by decide) ?_
      subst h
      exact hret _ _ (vz_ret_i dX0_hasPlace_17 (by decide))
theorem bn_X0_hasPlace (a0 : Nat) (x1 : Int32) (σ : vz_I) : narrow .boolean (.int (f_X0_hasPlace a0 x1 σ)) = .int (f_X0_hasPlace a0 x1 σ) := by
  unfold f_X0_hasPlace
  (repeat' split) <;> rfl
-- X0_addCorner: depth 0, effects S=True W=True P=True
def f_X0_addCorner (a0 : Nat) (x1 : Int32) (σ : vz_I) : Option (Int32 × vz_I) := if (σ a0 2) < (4 : Int32) then if vz_in (σ a0 2) 4 then vz_let (vz_up (vz_up σ (a0 + 1) (σ a0 2).toNatClampNeg x1) a0 2 (((vz_up σ (a0 + 1) (σ a0 2).toNatClampNeg x1) a0 2) + (1 : Int32))) (fun σ3 => some ((1 : Int32), σ3)) else none else some ((0 : Int32), σ)
set_option maxRecDepth 20000 in
set_option maxHeartbeats 1000000 in
theorem w_X0_addCorner (z : vz_Z) (l : Launch) (a0 : Nat) (x1 : Int32) (σ : vz_I) (ha0 : (vz_G0 a0).1 = 0) {r : Int32} {σ' : vz_I} (h : f_X0_addCorner a0 x1 σ = some (r, σ')) : vz_Con z l 0 yX0_addCorner cX0_addCorner 2 (some .boolean) [.ref a0, .int x1] vz_G0 σ vz_N0 (some (.int r)) vz_G0 σ' vz_N0 0 0 := by
  refine vz_con (by decide) (Nat.le_of_ble_eq_true rfl) (fun μ hc hl hcap hret => ?_)
  subst hl
  unfold f_X0_addCorner at h
  refine vr_aload_n (pc := 0) hc dX0_addCorner_0 rfl ?_
  refine vr_getI (pc := 1) hc dX0_addCorner_1 fl_X0_22 ha0 (gi_0_2 ha0) ?_
  refine vr_iconst (pc := 4) hc dX0_addCorner_4 (4 : Int32) (by decide) ?_
  refine vr_icmp_lt (pc := 5) hc 10 dX0_addCorner_5 (by decide) (fun hb1 => ?_) (fun hb1 => ?_)
  · rw [if_pos hb1] at h
    refine vr_aload_n (pc := 10) hc dX0_addCorner_10 rfl ?_
    refine vr_getR (pc := 11) hc dX0_addCorner_11 fl_X0_9 ha0 (gr_0_3 ha0).1 ?_
    refine vr_aload_n (pc := 14) hc dX0_addCorner_14 rfl ?_
    refine vr_getI (pc := 15) hc dX0_addCorner_15 fl_X0_22 ha0 (gi_0_2 ha0) ?_
    refine vr_iload_n (pc := 18) hc dX0_addCorner_18 rfl ?_
    have hb2 := vz_ifp h
    rw [if_pos hb2] at h
    refine vr_iast (pc := 19) hc 4 dX0_addCorner_19 ((gr_0_3 ha0).2.1) ((gr_0_3 ha0).2.2) (vz_in_vp hb2) ?_
    refine vr_aload_n (pc := 20) hc dX0_addCorner_20 rfl ?_
    refine vr_dup (pc := 21) hc dX0_addCorner_21 rfl ?_
    refine vr_getI (pc := 22) hc dX0_addCorner_22 fl_X0_22 ha0 (gi_0_2 ha0) ?_
    refine vr_iconst (pc := 25) hc dX0_addCorner_25 (1 : Int32) (by decide) ?_
    refine vr_iadd (pc := 26) hc dX0_addCorner_26 ?_
    refine vr_putI (pc := 27) hc dX0_addCorner_27 fl_X0_22 ha0 (gi_0_2 ha0) rfl rfl ?_
    obtain ⟨σ3, hσ4⟩ : ∃ x, x = vz_up (vz_up σ (a0 + 1) (σ a0 2).toNatClampNeg x1) a0 2 (((vz_up σ (a0 + 1) (σ a0 2).toNatClampNeg x1) a0 2) + (1 : Int32)) := ⟨_, rfl⟩
    rw [← hσ4] at h ⊢
    rw [vz_let_e] at h
    refine vr_iconst (pc := 30) hc dX0_addCorner_30 (1 : Int32) (by decide) ?_
    obtain ⟨rfl, rfl⟩ := vz_in2 h
    exact hret _ _ (vz_ret_i dX0_addCorner_31 (by decide))
  · rw [if_neg hb1] at h
    refine vr_iconst (pc := 8) hc dX0_addCorner_8 (0 : Int32) (by decide) ?_
    obtain ⟨rfl, rfl⟩ := vz_in2 h
    exact hret _ _ (vz_ret_i dX0_addCorner_9 (by decide))
-- X0_pace: depth 0, effects S=True W=False P=False
def f_X0_pace (a0 : Nat) (σ : vz_I) : Int32 := if (σ a0 0) = 1 then (1 : Int32) else if (σ a0 0) = 2 then (3 : Int32) else if (σ a0 0) = 3 then (6 : Int32) else (2 : Int32)
set_option maxRecDepth 20000 in
set_option maxHeartbeats 1000000 in
theorem w_X0_pace (z : vz_Z) (l : Launch) (a0 : Nat) (σ : vz_I) (ha0 : (vz_G0 a0).1 = 0) {r : Int32} (h : f_X0_pace a0 σ = r) : vz_Con z l 0 yX0_pace cX0_pace 1 (some .int) [.ref a0] vz_G0 σ vz_N0 (some (.int r)) vz_G0 σ vz_N0 0 0 := by
  refine vz_con (by decide) (Nat.le_of_ble_eq_true rfl) (fun μ hc hl hcap hret => ?_)
  subst hl
  unfold f_X0_pace at h
  refine vr_aload_n (pc := 0) hc dX0_pace_0 rfl ?_
  refine vr_getI (pc := 1) hc dX0_pace_1 fl_X0_15 ha0 (gi_0_0 ha0) ?_
  by_cases hb1 : (σ a0 0) = 1
  · rw [if_pos hb1] at h
    refine vr_tableIn (pc := 4) hc _ 32 dX0_pace_4 (by rw [hb1]; decide) (by rw [hb1]; decide) (off := 28) (by rw [hb1]; decide) (by decide) ?_
    refine vr_iconst (pc := 32) hc dX0_pace_32 (1 : Int32) (by decide) ?_
    subst h
    exact hret _ _ (vz_ret_i dX0_pace_33 rfl)
  rw [if_neg hb1] at h
  by_cases hb2 : (σ a0 0) = 2
  · rw [if_pos hb2] at h
    refine vr_tableIn (pc := 4) hc _ 34 dX0_pace_4 (by rw [hb2]; decide) (by rw [hb2]; decide) (off := 30) (by rw [hb2]; decide) (by decide) ?_
    refine vr_iconst (pc := 34) hc dX0_pace_34 (3 : Int32) (by decide) ?_
    subst h
    exact hret _ _ (vz_ret_i dX0_pace_35 rfl)
  rw [if_neg hb2] at h
  by_cases hb3 : (σ a0 0) = 3
  · rw [if_pos hb3] at h
    refine vr_tableIn (pc := 4) hc _ 36 dX0_pace_4 (by rw [hb3]; decide) (by rw [hb3]; decide) (off := 32) (by rw [hb3]; decide) (by decide) ?_
    refine vr_bipush (pc := 36) hc dX0_pace_36 (6 : Int32) (by decide) ?_
    subst h
    exact hret _ _ (vz_ret_i dX0_pace_38 rfl)
  rw [if_neg hb3] at h
  refine vr_tableOut (pc := 4) hc 39 dX0_pace_4 (by have e1 := lv_neT hb1 (show (1 : Int32).toInt = 1 by decide); have e2 := lv_neT hb2 (show (2 : Int32).toInt = 2 by decide); have e3 := lv_neT hb3 (show (3 : Int32).toInt = 3 by decide); omega) (by decide) ?_
  refine vr_iconst (pc := 39) hc dX0_pace_39 (2 : Int32) (by decide) ?_
  subst h
  exact hret _ _ (vz_ret_i dX0_pace_40 rfl)
-- X0_turnByOne: depth 0, effects S=True W=True P=True
def f_X0_turnByOne_9 : Nat → Nat → Int32 → Int32 → vz_I → Option vz_I
  | 0, _, _, _, _ => none
  | n + 1, a0, x1, x2, σ => if (σ a0 2) ≤ x2 then some σ else if vz_in x2 4 then if vz_in (x2 - (1 : Int32)) 4 then vz_let (vz_up σ (a0 + 1) (x2 - (1 : Int32)).toNatClampNeg (σ (a0 + 1) x2.toNatClampNeg)) (fun σ5 => if vz_in x2 4 then f_X0_turnByOne_9 n a0 x1 (x2 + (1 : Int32)) (vz_up σ5 (a0 + 1) x2.toNatClampNeg x1) else none) else none else none
theorem f_X0_turnByOne_9_s (n : Nat) (a0 : Nat) (x1 : Int32) (x2 : Int32) (σ : vz_I) : f_X0_turnByOne_9  (n + 1) a0 x1 x2 σ = if (σ a0 2) ≤ x2 then some σ else if vz_in x2 4 then if vz_in (x2 - (1 : Int32)) 4 then vz_let (vz_up σ (a0 + 1) (x2 - (1 : Int32)).toNatClampNeg (σ (a0 + 1) x2.toNatClampNeg)) (fun σ5 => if vz_in x2 4 then f_X0_turnByOne_9 n a0 x1 (x2 + (1 : Int32)) (vz_up σ5 (a0 + 1) x2.toNatClampNeg x1) else none) else none else none := rfl
set_option maxRecDepth 20000 in
set_option maxHeartbeats 1000000 in
theorem wn_X0_turnByOne_9 (z : vz_Z) (μ : vz_M) (hc : vz_C z μ cX0_turnByOne RX0 0 3) {σ' : vz_I} (hret : ∀ (pc : Nat) (L : vz_L), vz_ret cX0_turnByOne none pc none → vz_V z μ 0 0 pc L (none : Option Value).toList vz_G0 σ' vz_N0) : ∀ (n : Nat) (a0 : Nat) (x1 : Int32) (x2 : Int32) (σ : vz_I) (ha0 : (vz_G0 a0).1 = 0) (h : f_X0_turnByOne_9  n a0 x1 x2 σ = some σ'), vz_V z μ 0 0 9 [(0, some (.ref a0)), (1, some (.int x1)), (2, some (.int x2))] [] vz_G0 σ vz_N0 := by
  intro n
  induction n with
  | zero =>
    intro a0 x1 x2 σ ha0 h
    cases h
  | succ n ih =>
    intro a0 x1 x2 σ ha0 h
    rw [f_X0_turnByOne_9_s] at h
    refine vr_iload_n (pc := 9) hc dX0_turnByOne_9 rfl ?_
    refine vr_aload_n (pc := 10) hc dX0_turnByOne_10 rfl ?_
    refine vr_getI (pc := 11) hc dX0_turnByOne_11 fl_X0_22 ha0 (gi_0_2 ha0) ?_
    refine vr_icmp_ge (pc := 14) hc 44 dX0_turnByOne_14 (by decide) (fun hb2 => ?_) (fun hb2 => ?_)
    · rw [if_pos hb2] at h
      obtain rfl := Option.some.inj h
      exact hret _ _ (vz_ret_v dX0_turnByOne_44)
    · rw [if_neg hb2] at h
      refine vr_aload_n (pc := 17) hc dX0_turnByOne_17 rfl ?_
      refine vr_getR (pc := 18) hc dX0_turnByOne_18 fl_X0_9 ha0 (gr_0_3 ha0).1 ?_
      refine vr_iload_n (pc := 21) hc dX0_turnByOne_21 rfl ?_
      refine vr_iconst (pc := 22) hc dX0_turnByOne_22 (1 : Int32) (by decide) ?_
      refine vr_isub (pc := 23) hc dX0_turnByOne_23 ?_
      refine vr_aload_n (pc := 24) hc dX0_turnByOne_24 rfl ?_
      refine vr_getR (pc := 25) hc dX0_turnByOne_25 fl_X0_9 ha0 (gr_0_3 ha0).1 ?_
      refine vr_iload_n (pc := 28) hc dX0_turnByOne_28 rfl ?_
      have hb3 := vz_ifp h
      rw [if_pos hb3] at h
      refine vr_iald (pc := 29) hc 4 dX0_turnByOne_29 ((gr_0_3 ha0).2.1) ((gr_0_3 ha0).2.2) (vz_in_vp hb3) ?_
      have hb4 := vz_ifp h
      rw [if_pos hb4] at h
      refine vr_iast (pc := 30) hc 4 dX0_turnByOne_30 ((gr_0_3 ha0).2.1) ((gr_0_3 ha0).2.2) (vz_in_vp hb4) ?_
      obtain ⟨σ5, hσ6⟩ : ∃ x, x = vz_up σ (a0 + 1) (x2 - (1 : Int32)).toNatClampNeg (σ (a0 + 1) x2.toNatClampNeg) := ⟨_, rfl⟩
      rw [← hσ6] at h ⊢
      rw [vz_let_e] at h
      refine vr_aload_n (pc := 31) hc dX0_turnByOne_31 rfl ?_
      refine vr_getR (pc := 32) hc dX0_turnByOne_32 fl_X0_9 ha0 (gr_0_3 ha0).1 ?_
      refine vr_iload_n (pc := 35) hc dX0_turnByOne_35 rfl ?_
      refine vr_iload_n (pc := 36) hc dX0_turnByOne_36 rfl ?_
      have hb7 := vz_ifp h
      rw [if_pos hb7] at h
      refine vr_iast (pc := 37) hc 4 dX0_turnByOne_37 ((gr_0_3 ha0).2.1) ((gr_0_3 ha0).2.2) (vz_in_vp hb7) ?_
      refine vr_iinc (pc := 38) hc dX0_turnByOne_38 (1 : Int32) (by decide) rfl (by decide) rfl ?_
      refine vr_goto (pc := 41) hc 9 dX0_turnByOne_41 (by decide) ?_
      exact vz_sub (ih a0 x1 (x2 + (1 : Int32)) (vz_up σ5 (a0 + 1) x2.toNatClampNeg x1) ha0 h) (vz_sb1 rfl (vz_sb1 rfl (vz_sb1 rfl vz_sb0)))
def f_X0_turnByOne (a0 : Nat) (σ : vz_I) : Option vz_I := if vz_in (0 : Int32) 4 then f_X0_turnByOne_9 vz_fu a0 (σ (a0 + 1) (0 : Int32).toNatClampNeg) (1 : Int32) σ else none
set_option maxRecDepth 20000 in
set_option maxHeartbeats 1000000 in
theorem w_X0_turnByOne (z : vz_Z) (l : Launch) (a0 : Nat) (σ : vz_I) (ha0 : (vz_G0 a0).1 = 0) {σ' : vz_I} (h : f_X0_turnByOne a0 σ = some σ') : vz_Con z l 0 yX0_turnByOne cX0_turnByOne 3 none [.ref a0] vz_G0 σ vz_N0 none vz_G0 σ' vz_N0 0 0 := by
  refine vz_con (by decide) (Nat.le_of_ble_eq_true rfl) (fun μ hc hl hcap hret => ?_)
  subst hl
  unfold f_X0_turnByOne at h
  refine vr_aload_n (pc := 0) hc dX0_turnByOne_0 rfl ?_
  refine vr_getR (pc := 1) hc dX0_turnByOne_1 fl_X0_9 ha0 (gr_0_3 ha0).1 ?_
  refine vr_iconst (pc := 4) hc dX0_turnByOne_4 (0 : Int32) (by decide) ?_
  have hb1 := vz_ifp h
  rw [if_pos hb1] at h
  refine vr_iald (pc := 5) hc 4 dX0_turnByOne_5 ((gr_0_3 ha0).2.1) ((gr_0_3 ha0).2.2) (vz_in_vp hb1) ?_
  refine vr_istore_n (pc := 6) hc dX0_turnByOne_6 (by decide) rfl ?_
  refine vr_iconst (pc := 7) hc dX0_turnByOne_7 (1 : Int32) (by decide) ?_
  refine vr_istore_n (pc := 8) hc dX0_turnByOne_8 (by decide) rfl ?_
  exact vz_sub (wn_X0_turnByOne_9 z μ hc hret vz_fu a0 (σ (a0 + 1) (0 : Int32).toNatClampNeg) (1 : Int32) σ ha0 h) (vz_sb1 rfl (vz_sb1 rfl (vz_sb1 rfl vz_sb0)))
-- X1_add: depth 0, effects S=True W=True P=True
def f_X1_add (x1 : Int32) (x2 : Int32) (x3 : Int32) (x4 : Int32) (σ : vz_I) : Option (Int32 × vz_I) := if (σ 57 0) < (6 : Int32) then if vz_in (σ 57 0) 6 then if vz_in ((vz_up σ 58 (σ 57 0).toNatClampNeg x1) 57 0) 6 then vz_let (vz_up (vz_up σ 58 (σ 57 0).toNatClampNeg x1) 59 ((vz_up σ 58 (σ 57 0).toNatClampNeg x1) 57 0).toNatClampNeg x2) (fun σ4 => if vz_in (σ4 57 0) 6 then if vz_in ((vz_up σ4 60 (σ4 57 0).toNatClampNeg x3) 57 0) 6 then vz_let (vz_up (vz_up σ4 60 (σ4 57 0).toNatClampNeg x3) 61 ((vz_up σ4 60 (σ4 57 0).toNatClampNeg x3) 57 0).toNatClampNeg (x4 &&& 1)) (fun σ8 => some ((1 : Int32), vz_up σ8 57 0 ((σ8 57 0) + (1 : Int32)))) else none else none) else none else none else some ((0 : Int32), σ)
set_option maxRecDepth 20000 in
set_option maxHeartbeats 1000000 in
theorem w_X1_add (z : vz_Z) (l : Launch) (x1 : Int32) (x2 : Int32) (x3 : Int32) (x4 : Int32) (σ : vz_I)  {r : Int32} {σ' : vz_I} (h : f_X1_add x1 x2 x3 x4 σ = some (r, σ')) : vz_Con z l 0 yX1_add cX1_add 5 (some .boolean) [.ref 57, .int x1, .int x2, .int x3, .int x4] vz_G0 σ vz_N0 (some (.int r)) vz_G0 σ' vz_N0 0 0 := by
  refine vz_con (by decide) (Nat.le_of_ble_eq_true rfl) (fun μ hc hl hcap hret => ?_)
  subst hl
  unfold f_X1_add at h
  refine vr_aload_n (pc := 0) hc dX1_add_0 rfl ?_
  refine vr_getI (pc := 1) hc dX1_add_1 fl_X1_25 gc_57 (gi_1_0 gc_57) ?_
  refine vr_bipush (pc := 4) hc dX1_add_4 (6 : Int32) (by decide) ?_
  refine vr_icmp_lt (pc := 6) hc 11 dX1_add_6 (by decide) (fun hb1 => ?_) (fun hb1 => ?_)
  · rw [if_pos hb1] at h
    refine vr_aload_n (pc := 11) hc dX1_add_11 rfl ?_
    refine vr_getR (pc := 12) hc dX1_add_12 fl_X1_9 gc_57 (gr_1_1 gc_57).1 ?_
    refine vr_aload_n (pc := 15) hc dX1_add_15 rfl ?_
    refine vr_getI (pc := 16) hc dX1_add_16 fl_X1_25 gc_57 (gi_1_0 gc_57) ?_
    refine vr_iload_n (pc := 19) hc dX1_add_19 rfl ?_
    have hb2 := vz_ifp h
    rw [if_pos hb2] at h
    refine vr_iast (pc := 20) hc 6 dX1_add_20 ((gr_1_1 gc_57).2.1) ((gr_1_1 gc_57).2.2) (vz_in_vp hb2) ?_
    refine vr_aload_n (pc := 21) hc dX1_add_21 rfl ?_
    refine vr_getR (pc := 22) hc dX1_add_22 fl_X1_15 gc_57 (gr_1_2 gc_57).1 ?_
    refine vr_aload_n (pc := 25) hc dX1_add_25 rfl ?_
    refine vr_getI (pc := 26) hc dX1_add_26 fl_X1_25 gc_57 (gi_1_0 gc_57) ?_
    refine vr_iload_n (pc := 29) hc dX1_add_29 rfl ?_
    have hb3 := vz_ifp h
    rw [if_pos hb3] at h
    refine vr_iast (pc := 30) hc 6 dX1_add_30 ((gr_1_2 gc_57).2.1) ((gr_1_2 gc_57).2.2) (vz_in_vp hb3) ?_
    obtain ⟨σ4, hσ5⟩ : ∃ x, x = vz_up (vz_up σ 58 (σ 57 0).toNatClampNeg x1) 59 ((vz_up σ 58 (σ 57 0).toNatClampNeg x1) 57 0).toNatClampNeg x2 := ⟨_, rfl⟩
    rw [← hσ5] at h ⊢
    rw [vz_let_e] at h
    refine vr_aload_n (pc := 31) hc dX1_add_31 rfl ?_
    refine vr_getR (pc := 32) hc dX1_add_32 fl_X1_18 gc_57 (gr_1_3 gc_57).1 ?_
    refine vr_aload_n (pc := 35) hc dX1_add_35 rfl ?_
    refine vr_getI (pc := 36) hc dX1_add_36 fl_X1_25 gc_57 (gi_1_0 gc_57) ?_
    refine vr_iload_n (pc := 39) hc dX1_add_39 rfl ?_
    have hb6 := vz_ifp h
    rw [if_pos hb6] at h
    refine vr_iast (pc := 40) hc 6 dX1_add_40 ((gr_1_3 gc_57).2.1) ((gr_1_3 gc_57).2.2) (vz_in_vp hb6) ?_
    refine vr_aload_n (pc := 41) hc dX1_add_41 rfl ?_
    refine vr_getR (pc := 42) hc dX1_add_42 fl_X1_21 gc_57 (gr_1_4 gc_57).1 ?_
    refine vr_aload_n (pc := 45) hc dX1_add_45 rfl ?_
    refine vr_getI (pc := 46) hc dX1_add_46 fl_X1_25 gc_57 (gi_1_0 gc_57) ?_
    refine vr_iload (pc := 49) hc dX1_add_49 rfl ?_
    have hb7 := vz_ifp h
    rw [if_pos hb7] at h
    refine vr_zast (pc := 51) hc 6 dX1_add_51 ((gr_1_4 gc_57).2.1) ((gr_1_4 gc_57).2.2) (vz_in_vp hb7) ?_
    obtain ⟨σ8, hσ9⟩ : ∃ x, x = vz_up (vz_up σ4 60 (σ4 57 0).toNatClampNeg x3) 61 ((vz_up σ4 60 (σ4 57 0).toNatClampNeg x3) 57 0).toNatClampNeg (x4 &&& 1) := ⟨_, rfl⟩
    rw [← hσ9] at h ⊢
    rw [vz_let_e] at h
    refine vr_aload_n (pc := 52) hc dX1_add_52 rfl ?_
    refine vr_dup (pc := 53) hc dX1_add_53 rfl ?_
    refine vr_getI (pc := 54) hc dX1_add_54 fl_X1_25 gc_57 (gi_1_0 gc_57) ?_
    refine vr_iconst (pc := 57) hc dX1_add_57 (1 : Int32) (by decide) ?_
    refine vr_iadd (pc := 58) hc dX1_add_58 ?_
    refine vr_putI (pc := 59) hc dX1_add_59 fl_X1_25 gc_57 (gi_1_0 gc_57) rfl rfl ?_
    refine vr_iconst (pc := 62) hc dX1_add_62 (1 : Int32) (by decide) ?_
    obtain ⟨rfl, rfl⟩ := vz_in2 h
    exact hret _ _ (vz_ret_i dX1_add_63 (by decide))
  · rw [if_neg hb1] at h
    refine vr_iconst (pc := 9) hc dX1_add_9 (0 : Int32) (by decide) ?_
    obtain ⟨rfl, rfl⟩ := vz_in2 h
    exact hret _ _ (vz_ret_i dX1_add_10 (by decide))
-- X2_restart: depth 0, effects S=True W=True P=False
def f_X2_restart (x1 : Int32) (σ : vz_I) : vz_I := vz_up (vz_up σ 64 0 (-4 : Int32)) 64 1 x1
set_option maxRecDepth 20000 in
set_option maxHeartbeats 1000000 in
theorem w_X2_restart (z : vz_Z) (l : Launch) (x1 : Int32) (σ : vz_I)  {σ' : vz_I} (h : f_X2_restart x1 σ = σ') : vz_Con z l 0 yX2_restart cX2_restart 2 none [.ref 64, .int x1] vz_G0 σ vz_N0 none vz_G0 σ' vz_N0 0 0 := by
  refine vz_con (by decide) (Nat.le_of_ble_eq_true rfl) (fun μ hc hl hcap hret => ?_)
  subst hl
  unfold f_X2_restart at h
  refine vr_aload_n (pc := 0) hc dX2_restart_0 rfl ?_
  refine vr_bipush (pc := 1) hc dX2_restart_1 (-4 : Int32) (by decide) ?_
  refine vr_putI (pc := 3) hc dX2_restart_3 fl_X2_9 gc_64 (gi_2_0 gc_64) rfl rfl ?_
  refine vr_aload_n (pc := 6) hc dX2_restart_6 rfl ?_
  refine vr_iload_n (pc := 7) hc dX2_restart_7 rfl ?_
  refine vr_putI (pc := 8) hc dX2_restart_8 fl_X2_15 gc_64 (gi_2_1 gc_64) rfl rfl ?_
  subst h
  exact hret _ _ (vz_ret_v dX2_restart_11)
-- X2_offer: depth 0, effects S=True W=True P=False
def f_X2_offer (x1 : Int32) (x2 : Int32) (σ : vz_I) : vz_I := if x2 ≤ (σ 64 1) then σ else vz_up (vz_up σ 64 0 x1) 64 1 x2
set_option maxRecDepth 20000 in
set_option maxHeartbeats 1000000 in
theorem w_X2_offer (z : vz_Z) (l : Launch) (x1 : Int32) (x2 : Int32) (σ : vz_I)  {σ' : vz_I} (h : f_X2_offer x1 x2 σ = σ') : vz_Con z l 0 yX2_offer cX2_offer 3 none [.ref 64, .int x1, .int x2] vz_G0 σ vz_N0 none vz_G0 σ' vz_N0 0 0 := by
  refine vz_con (by decide) (Nat.le_of_ble_eq_true rfl) (fun μ hc hl hcap hret => ?_)
  subst hl
  unfold f_X2_offer at h
  refine vr_iload_n (pc := 0) hc dX2_offer_0 rfl ?_
  refine vr_aload_n (pc := 1) hc dX2_offer_1 rfl ?_
  refine vr_getI (pc := 2) hc dX2_offer_2 fl_X2_15 gc_64 (gi_2_1 gc_64) ?_
  refine vr_icmp_le (pc := 5) hc 18 dX2_offer_5 (by decide) (fun hb1 => ?_) (fun hb1 => ?_)
  · rw [if_pos hb1] at h
    subst h
    exact hret _ _ (vz_ret_v dX2_offer_18)
  · rw [if_neg hb1] at h
    refine vr_aload_n (pc := 8) hc dX2_offer_8 rfl ?_
    refine vr_iload_n (pc := 9) hc dX2_offer_9 rfl ?_
    refine vr_putI (pc := 10) hc dX2_offer_10 fl_X2_9 gc_64 (gi_2_0 gc_64) rfl rfl ?_
    refine vr_aload_n (pc := 13) hc dX2_offer_13 rfl ?_
    refine vr_iload_n (pc := 14) hc dX2_offer_14 rfl ?_
    refine vr_putI (pc := 15) hc dX2_offer_15 fl_X2_15 gc_64 (gi_2_1 gc_64) rfl rfl ?_
    subst h
    exact hret _ _ (vz_ret_v dX2_offer_18)
-- X2_told: depth 0, effects S=True W=False P=False
def f_X2_told (x1 : Int32) (σ : vz_I) : Int32 := if (σ 64 0) = (-4 : Int32) then σ 64 0 else if x1 = 0 then σ 64 0 else σ 64 1
set_option maxRecDepth 20000 in
set_option maxHeartbeats 1000000 in
theorem w_X2_told (z : vz_Z) (l : Launch) (x1 : Int32) (σ : vz_I)  {r : Int32} (h : f_X2_told x1 σ = r) : vz_Con z l 0 yX2_told cX2_told 2 (some .int) [.ref 64, .int x1] vz_G0 σ vz_N0 (some (.int r)) vz_G0 σ vz_N0 0 0 := by
  refine vz_con (by decide) (Nat.le_of_ble_eq_true rfl) (fun μ hc hl hcap hret => ?_)
  subst hl
  unfold f_X2_told at h
  refine vr_aload_n (pc := 0) hc dX2_told_0 rfl ?_
  refine vr_getI (pc := 1) hc dX2_told_1 fl_X2_9 gc_64 (gi_2_0 gc_64) ?_
  refine vr_bipush (pc := 4) hc dX2_told_4 (-4 : Int32) (by decide) ?_
  refine vr_icmp_eq (pc := 6) hc 13 dX2_told_6 (by decide) (fun hb1 => ?_) (fun hb1 => ?_)
  · rw [if_pos hb1] at h
    refine vr_aload_n (pc := 13) hc dX2_told_13 rfl ?_
    refine vr_getI (pc := 14) hc dX2_told_14 fl_X2_9 gc_64 (gi_2_0 gc_64) ?_
    refine vr_goto (pc := 17) hc 24 dX2_told_17 (by decide) ?_
    subst h
    exact hret _ _ (vz_ret_i dX2_told_24 rfl)
  · rw [if_neg hb1] at h
    refine vr_iload_n (pc := 9) hc dX2_told_9 rfl ?_
    refine vr_if_ne (pc := 10) hc 20 dX2_told_10 (by decide) (fun hb2 => ?_) (fun hb2 => ?_)
    · rw [if_neg hb2] at h
      refine vr_aload_n (pc := 20) hc dX2_told_20 rfl ?_
      refine vr_getI (pc := 21) hc dX2_told_21 fl_X2_15 gc_64 (gi_2_1 gc_64) ?_
      subst h
      exact hret _ _ (vz_ret_i dX2_told_24 rfl)
    · rw [if_pos hb2] at h
      refine vr_aload_n (pc := 13) hc dX2_told_13 rfl ?_
      refine vr_getI (pc := 14) hc dX2_told_14 fl_X2_9 gc_64 (gi_2_0 gc_64) ?_
      refine vr_goto (pc := 17) hc 24 dX2_told_17 (by decide) ?_
      subst h
      exact hret _ _ (vz_ret_i dX2_told_24 rfl)
-- X2_toldOfFewest: depth 0, effects S=True W=False P=False
def f_X2_toldOfFewest (x1 : Int32) (σ : vz_I) : Int32 := if (σ 64 0) = (-4 : Int32) then σ 64 0 else if x1 = 0 then σ 64 0 else -(σ 64 1)
set_option maxRecDepth 20000 in
set_option maxHeartbeats 1000000 in
theorem w_X2_toldOfFewest (z : vz_Z) (l : Launch) (x1 : Int32) (σ : vz_I)  {r : Int32} (h : f_X2_toldOfFewest x1 σ = r) : vz_Con z l 0 yX2_toldOfFewest cX2_toldOfFewest 2 (some .int) [.ref 64, .int x1] vz_G0 σ vz_N0 (some (.int r)) vz_G0 σ vz_N0 0 0 := by
  refine vz_con (by decide) (Nat.le_of_ble_eq_true rfl) (fun μ hc hl hcap hret => ?_)
  subst hl
  unfold f_X2_toldOfFewest at h
  refine vr_aload_n (pc := 0) hc dX2_toldOfFewest_0 rfl ?_
  refine vr_getI (pc := 1) hc dX2_toldOfFewest_1 fl_X2_9 gc_64 (gi_2_0 gc_64) ?_
  refine vr_bipush (pc := 4) hc dX2_toldOfFewest_4 (-4 : Int32) (by decide) ?_
  refine vr_icmp_eq (pc := 6) hc 13 dX2_toldOfFewest_6 (by decide) (fun hb1 => ?_) (fun hb1 => ?_)
  · rw [if_pos hb1] at h
    refine vr_aload_n (pc := 13) hc dX2_toldOfFewest_13 rfl ?_
    refine vr_getI (pc := 14) hc dX2_toldOfFewest_14 fl_X2_9 gc_64 (gi_2_0 gc_64) ?_
    refine vr_goto (pc := 17) hc 25 dX2_toldOfFewest_17 (by decide) ?_
    subst h
    exact hret _ _ (vz_ret_i dX2_toldOfFewest_25 rfl)
  · rw [if_neg hb1] at h
    refine vr_iload_n (pc := 9) hc dX2_toldOfFewest_9 rfl ?_
    refine vr_if_ne (pc := 10) hc 20 dX2_toldOfFewest_10 (by decide) (fun hb2 => ?_) (fun hb2 => ?_)
    · rw [if_neg hb2] at h
      refine vr_aload_n (pc := 20) hc dX2_toldOfFewest_20 rfl ?_
      refine vr_getI (pc := 21) hc dX2_toldOfFewest_21 fl_X2_15 gc_64 (gi_2_1 gc_64) ?_
      refine vr_ineg (pc := 24) hc dX2_toldOfFewest_24 ?_
      subst h
      exact hret _ _ (vz_ret_i dX2_toldOfFewest_25 rfl)
    · rw [if_pos hb2] at h
      refine vr_aload_n (pc := 13) hc dX2_toldOfFewest_13 rfl ?_
      refine vr_getI (pc := 14) hc dX2_toldOfFewest_14 fl_X2_9 gc_64 (gi_2_0 gc_64) ?_
      refine vr_goto (pc := 17) hc 25 dX2_toldOfFewest_17 (by decide) ?_
      subst h
      exact hret _ _ (vz_ret_i dX2_toldOfFewest_25 rfl)
-- X3_copyFrom: depth 0, effects S=True W=True P=False
def f_X3_copyFrom (a0 : Nat) (a1 : Nat) (σ : vz_I) : vz_I := vz_let (vz_up (vz_up σ a0 0 (σ a1 0)) a0 1 ((vz_up σ a0 0 (σ a1 0)) a1 1)) (fun σ1 => vz_up σ1 a0 2 (σ1 a1 2))
set_option maxRecDepth 20000 in
set_option maxHeartbeats 1000000 in
theorem w_X3_copyFrom (z : vz_Z) (l : Launch) (a0 : Nat) (a1 : Nat) (σ : vz_I) (ha0 : (vz_G0 a0).1 = 3) (ha1 : (vz_G0 a1).1 = 3) {σ' : vz_I} (h : f_X3_copyFrom a0 a1 σ = σ') : vz_Con z l 0 yX3_copyFrom cX3_copyFrom 2 none [.ref a0, .ref a1] vz_G0 σ vz_N0 none vz_G0 σ' vz_N0 0 0 := by
  refine vz_con (by decide) (Nat.le_of_ble_eq_true rfl) (fun μ hc hl hcap hret => ?_)
  subst hl
  unfold f_X3_copyFrom at h
  refine vr_aload_n (pc := 0) hc dX3_copyFrom_0 rfl ?_
  refine vr_aload_n (pc := 1) hc dX3_copyFrom_1 rfl ?_
  refine vr_getI (pc := 2) hc dX3_copyFrom_2 fl_X3_7 ha1 (gi_3_0 ha1) ?_
  refine vr_putI (pc := 5) hc dX3_copyFrom_5 fl_X3_7 ha0 (gi_3_0 ha0) rfl rfl ?_
  refine vr_aload_n (pc := 8) hc dX3_copyFrom_8 rfl ?_
  refine vr_aload_n (pc := 9) hc dX3_copyFrom_9 rfl ?_
  refine vr_getI (pc := 10) hc dX3_copyFrom_10 fl_X3_13 ha1 (gi_3_1 ha1) ?_
  refine vr_putI (pc := 13) hc dX3_copyFrom_13 fl_X3_13 ha0 (gi_3_1 ha0) rfl rfl ?_
  obtain ⟨σ1, hσ2⟩ : ∃ x, x = vz_up (vz_up σ a0 0 (σ a1 0)) a0 1 ((vz_up σ a0 0 (σ a1 0)) a1 1) := ⟨_, rfl⟩
  rw [← hσ2] at h ⊢
  rw [vz_let_e] at h
  refine vr_aload_n (pc := 16) hc dX3_copyFrom_16 rfl ?_
  refine vr_aload_n (pc := 17) hc dX3_copyFrom_17 rfl ?_
  refine vr_getI (pc := 18) hc dX3_copyFrom_18 fl_X3_16 ha1 (gi_3_2 ha1) ?_
  refine vr_putI (pc := 21) hc dX3_copyFrom_21 fl_X3_16 ha0 (gi_3_2 ha0) rfl rfl ?_
  subst h
  exact hret _ _ (vz_ret_v dX3_copyFrom_24)
-- X3_setCorner: depth 0, effects S=True W=True P=False
def f_X3_setCorner (a0 : Nat) (x1 : Int32) (σ : vz_I) : Int32 × vz_I := (σ a0 0, vz_up σ a0 0 x1)
set_option maxRecDepth 20000 in
set_option maxHeartbeats 1000000 in
theorem w_X3_setCorner (z : vz_Z) (l : Launch) (a0 : Nat) (x1 : Int32) (σ : vz_I) (ha0 : (vz_G0 a0).1 = 3) {r : Int32} {σ' : vz_I} (h : f_X3_setCorner a0 x1 σ = (r, σ')) : vz_Con z l 0 yX3_setCorner cX3_setCorner 3 (some .int) [.ref a0, .int x1] vz_G0 σ vz_N0 (some (.int r)) vz_G0 σ' vz_N0 0 0 := by
  refine vz_con (by decide) (Nat.le_of_ble_eq_true rfl) (fun μ hc hl hcap hret => ?_)
  subst hl
  unfold f_X3_setCorner at h
  refine vr_aload_n (pc := 0) hc dX3_setCorner_0 rfl ?_
  refine vr_getI (pc := 1) hc dX3_setCorner_1 fl_X3_7 ha0 (gi_3_0 ha0) ?_
  refine vr_istore_n (pc := 4) hc dX3_setCorner_4 (by decide) rfl ?_
  refine vr_aload_n (pc := 5) hc dX3_setCorner_5 rfl ?_
  refine vr_iload_n (pc := 6) hc dX3_setCorner_6 rfl ?_
  refine vr_putI (pc := 7) hc dX3_setCorner_7 fl_X3_7 ha0 (gi_3_0 ha0) rfl rfl ?_
  refine vr_iload_n (pc := 10) hc dX3_setCorner_10 rfl ?_
  obtain ⟨rfl, rfl⟩ := vz_in3 h
  exact hret _ _ (vz_ret_i dX3_setCorner_11 rfl)
-- X3_setFrom: depth 0, effects S=True W=True P=False
def f_X3_setFrom (a0 : Nat) (x1 : Int32) (σ : vz_I) : Int32 × vz_I := (σ a0 1, vz_up σ a0 1 x1)
set_option maxRecDepth 20000 in
set_option maxHeartbeats 1000000 in
theorem w_X3_setFrom (z : vz_Z) (l : Launch) (a0 : Nat) (x1 : Int32) (σ : vz_I) (ha0 : (vz_G0 a0).1 = 3) {r : Int32} {σ' : vz_I} (h : f_X3_setFrom a0 x1 σ = (r, σ')) : vz_Con z l 0 yX3_setFrom cX3_setFrom 3 (some .int) [.ref a0, .int x1] vz_G0 σ vz_N0 (some (.int r)) vz_G0 σ' vz_N0 0 0 := by
  refine vz_con (by decide) (Nat.le_of_ble_eq_true rfl) (fun μ hc hl hcap hret => ?_)
  subst hl
  unfold f_X3_setFrom at h
  refine vr_aload_n (pc := 0) hc dX3_setFrom_0 rfl ?_
  refine vr_getI (pc := 1) hc dX3_setFrom_1 fl_X3_13 ha0 (gi_3_1 ha0) ?_
  refine vr_istore_n (pc := 4) hc dX3_setFrom_4 (by decide) rfl ?_
  refine vr_aload_n (pc := 5) hc dX3_setFrom_5 rfl ?_
  refine vr_iload_n (pc := 6) hc dX3_setFrom_6 rfl ?_
  refine vr_putI (pc := 7) hc dX3_setFrom_7 fl_X3_13 ha0 (gi_3_1 ha0) rfl rfl ?_
  refine vr_iload_n (pc := 10) hc dX3_setFrom_10 rfl ?_
  obtain ⟨rfl, rfl⟩ := vz_in3 h
  exact hret _ _ (vz_ret_i dX3_setFrom_11 rfl)
-- X3_setUntil: depth 0, effects S=True W=True P=False
def f_X3_setUntil (a0 : Nat) (x1 : Int32) (σ : vz_I) : Int32 × vz_I := (σ a0 2, vz_up σ a0 2 x1)
set_option maxRecDepth 20000 in
set_option maxHeartbeats 1000000 in
theorem w_X3_setUntil (z : vz_Z) (l : Launch) (a0 : Nat) (x1 : Int32) (σ : vz_I) (ha0 : (vz_G0 a0).1 = 3) {r : Int32} {σ' : vz_I} (h : f_X3_setUntil a0 x1 σ = (r, σ')) : vz_Con z l 0 yX3_setUntil cX3_setUntil 3 (some .int) [.ref a0, .int x1] vz_G0 σ vz_N0 (some (.int r)) vz_G0 σ' vz_N0 0 0 := by
  refine vz_con (by decide) (Nat.le_of_ble_eq_true rfl) (fun μ hc hl hcap hret => ?_)
  subst hl
  unfold f_X3_setUntil at h
  refine vr_aload_n (pc := 0) hc dX3_setUntil_0 rfl ?_
  refine vr_getI (pc := 1) hc dX3_setUntil_1 fl_X3_16 ha0 (gi_3_2 ha0) ?_
  refine vr_istore_n (pc := 4) hc dX3_setUntil_4 (by decide) rfl ?_
  refine vr_aload_n (pc := 5) hc dX3_setUntil_5 rfl ?_
  refine vr_iload_n (pc := 6) hc dX3_setUntil_6 rfl ?_
  refine vr_putI (pc := 7) hc dX3_setUntil_7 fl_X3_16 ha0 (gi_3_2 ha0) rfl rfl ?_
  refine vr_iload_n (pc := 10) hc dX3_setUntil_10 rfl ?_
  obtain ⟨rfl, rfl⟩ := vz_in3 h
  exact hret _ _ (vz_ret_i dX3_setUntil_11 rfl)
-- X4_renew: depth 0, effects S=True W=True P=True
def f_X4_renew_12 : Nat → Nat → Int32 → vz_I → Option vz_I
  | 0, _, _, _ => none
  | n + 1, a0, x3, σ => if (40 : Int32) ≤ x3 then some σ else if vz_in x3 40 then f_X4_renew_12 n a0 (x3 + (1 : Int32)) (vz_up σ (a0 + 1) x3.toNatClampNeg (0 : Int32)) else none
theorem f_X4_renew_12_s (n : Nat) (a0 : Nat) (x3 : Int32) (σ : vz_I) : f_X4_renew_12  (n + 1) a0 x3 σ = if (40 : Int32) ≤ x3 then some σ else if vz_in x3 40 then f_X4_renew_12 n a0 (x3 + (1 : Int32)) (vz_up σ (a0 + 1) x3.toNatClampNeg (0 : Int32)) else none := rfl
set_option maxRecDepth 20000 in
set_option maxHeartbeats 1000000 in
theorem wn_X4_renew_12 (z : vz_Z) (μ : vz_M) (hc : vz_C z μ cX4_renew RX4 0 4) {σ' : vz_I} (hret : ∀ (pc : Nat) (L : vz_L), vz_ret cX4_renew none pc none → vz_V z μ 0 0 pc L (none : Option Value).toList vz_G0 σ' vz_N0) : ∀ (n : Nat) (a0 : Nat) (x3 : Int32) (σ : vz_I) (ha0 : (vz_G0 a0).1 = 4) (h : f_X4_renew_12  n a0 x3 σ = some σ'), vz_V z μ 0 0 12 [(0, some (.ref a0)), (3, some (.int x3))] [] vz_G0 σ vz_N0 := by
  intro n
  induction n with
  | zero =>
    intro a0 x3 σ ha0 h
    cases h
  | succ n ih =>
    intro a0 x3 σ ha0 h
    rw [f_X4_renew_12_s] at h
    refine vr_iload_n (pc := 12) hc dX4_renew_12 rfl ?_
    refine vr_bipush (pc := 13) hc dX4_renew_13 (40 : Int32) (by decide) ?_
    refine vr_icmp_ge (pc := 15) hc 31 dX4_renew_15 (by decide) (fun hb1 => ?_) (fun hb1 => ?_)
    · rw [if_pos hb1] at h
      obtain rfl := Option.some.inj h
      exact hret _ _ (vz_ret_v dX4_renew_31)
    · rw [if_neg hb1] at h
      refine vr_aload_n (pc := 18) hc dX4_renew_18 rfl ?_
      refine vr_getR (pc := 19) hc dX4_renew_19 fl_X4_15 ha0 (gr_4_2 ha0).1 ?_
      refine vr_iload_n (pc := 22) hc dX4_renew_22 rfl ?_
      refine vr_iconst (pc := 23) hc dX4_renew_23 (0 : Int32) (by decide) ?_
      have hb2 := vz_ifp h
      rw [if_pos hb2] at h
      refine vr_iast (pc := 24) hc 40 dX4_renew_24 ((gr_4_2 ha0).2.1) ((gr_4_2 ha0).2.2) (vz_in_vp hb2) ?_
      refine vr_iinc (pc := 25) hc dX4_renew_25 (1 : Int32) (by decide) rfl (by decide) rfl ?_
      refine vr_goto (pc := 28) hc 12 dX4_renew_28 (by decide) ?_
      exact vz_sub (ih a0 (x3 + (1 : Int32)) (vz_up σ (a0 + 1) x3.toNatClampNeg (0 : Int32)) ha0 h) (vz_sb1 rfl (vz_sb1 rfl vz_sb0))
def f_X4_renew (a0 : Nat) (x1 : Int32) (x2 : Int32) (σ : vz_I) : Option vz_I := f_X4_renew_12 vz_fu a0 (0 : Int32) (vz_up (vz_up σ a0 0 x1) a0 1 x2)
set_option maxRecDepth 20000 in
set_option maxHeartbeats 1000000 in
theorem w_X4_renew (z : vz_Z) (l : Launch) (a0 : Nat) (x1 : Int32) (x2 : Int32) (σ : vz_I) (ha0 : (vz_G0 a0).1 = 4) {σ' : vz_I} (h : f_X4_renew a0 x1 x2 σ = some σ') : vz_Con z l 0 yX4_renew cX4_renew 4 none [.ref a0, .int x1, .int x2] vz_G0 σ vz_N0 none vz_G0 σ' vz_N0 0 0 := by
  refine vz_con (by decide) (Nat.le_of_ble_eq_true rfl) (fun μ hc hl hcap hret => ?_)
  subst hl
  unfold f_X4_renew at h
  refine vr_aload_n (pc := 0) hc dX4_renew_0 rfl ?_
  refine vr_iload_n (pc := 1) hc dX4_renew_1 rfl ?_
  refine vr_putI (pc := 2) hc dX4_renew_2 fl_X4_9 ha0 (gi_4_0 ha0) rfl rfl ?_
  refine vr_aload_n (pc := 5) hc dX4_renew_5 rfl ?_
  refine vr_iload_n (pc := 6) hc dX4_renew_6 rfl ?_
  refine vr_putI (pc := 7) hc dX4_renew_7 fl_X4_19 ha0 (gi_4_1 ha0) rfl rfl ?_
  refine vr_iconst (pc := 10) hc dX4_renew_10 (0 : Int32) (by decide) ?_
  refine vr_istore_n (pc := 11) hc dX4_renew_11 (by decide) rfl ?_
  exact vz_sub (wn_X4_renew_12 z μ hc hret vz_fu a0 (0 : Int32) (vz_up (vz_up σ a0 0 x1) a0 1 x2) ha0 h) (vz_sb1 rfl (vz_sb1 rfl vz_sb0))
-- X4_hasCell: depth 0, effects S=True W=False P=False
def f_X4_hasCell (a0 : Nat) (x1 : Int32) (σ : vz_I) : Int32 := if x1 < 0 then (0 : Int32) else if (σ a0 1) ≤ x1 then (0 : Int32) else (1 : Int32)
set_option maxRecDepth 20000 in
set_option maxHeartbeats 1000000 in
theorem w_X4_hasCell (z : vz_Z) (l : Launch) (a0 : Nat) (x1 : Int32) (σ : vz_I) (ha0 : (vz_G0 a0).1 = 4) {r : Int32} (h : f_X4_hasCell a0 x1 σ = r) : vz_Con z l 0 yX4_hasCell cX4_hasCell 2 (some .boolean) [.ref a0, .int x1] vz_G0 σ vz_N0 (some (.int r)) vz_G0 σ vz_N0 0 0 := by
  refine vz_con (by decide) (Nat.le_of_ble_eq_true rfl) (fun μ hc hl hcap hret => ?_)
  subst hl
  unfold f_X4_hasCell at h
  refine vr_iload_n (pc := 0) hc dX4_hasCell_0 rfl ?_
  refine vr_if_lt (pc := 1) hc 16 dX4_hasCell_1 (by decide) (fun hb1 => ?_) (fun hb1 => ?_)
  · rw [if_pos hb1] at h
    refine vr_iconst (pc := 16) hc dX4_hasCell_16 (0 : Int32) (by decide) ?_
    subst h
    exact hret _ _ (vz_ret_i dX4_hasCell_17 (by decide))
  · rw [if_neg hb1] at h
    refine vr_iload_n (pc := 4) hc dX4_hasCell_4 rfl ?_
    refine vr_aload_n (pc := 5) hc dX4_hasCell_5 rfl ?_
    refine vr_getI (pc := 6) hc dX4_hasCell_6 fl_X4_19 ha0 (gi_4_1 ha0) ?_
    refine vr_icmp_ge (pc := 9) hc 16 dX4_hasCell_9 (by decide) (fun hb2 => ?_) (fun hb2 => ?_)
    · rw [if_pos hb2] at h
      refine vr_iconst (pc := 16) hc dX4_hasCell_16 (0 : Int32) (by decide) ?_
      subst h
      exact hret _ _ (vz_ret_i dX4_hasCell_17 (by decide))
    · rw [if_neg hb2] at h
      refine vr_iconst (pc := 12) hc dX4_hasCell_12 (1 : Int32) (by decide) ?_
      refine vr_goto (pc := 13) hc 17 dX4_hasCell_13 (by decide) ?_
      subst h
      exact hret _ _ (vz_ret_i dX4_hasCell_17 (by decide))
theorem bn_X4_hasCell (a0 : Nat) (x1 : Int32) (σ : vz_I) : narrow .boolean (.int (f_X4_hasCell a0 x1 σ)) = .int (f_X4_hasCell a0 x1 σ) := by
  unfold f_X4_hasCell
  (repeat' split) <;> rfl
-- X5_append: depth 0, effects S=True W=True P=True
def f_X5_append (x1 : Int32) (σ : vz_I) : Option (Int32 × vz_I) := if (σ 2 0) < (160 : Int32) then if vz_in (σ 2 0) 160 then vz_let (vz_up σ 3 (σ 2 0).toNatClampNeg x1.toInt8.toInt32.toInt8.toInt32) (fun σ3 => some ((1 : Int32), vz_up σ3 2 0 ((σ3 2 0) + (1 : Int32)))) else none else some ((0 : Int32), σ)
set_option maxRecDepth 20000 in
set_option maxHeartbeats 1000000 in
theorem w_X5_append (z : vz_Z) (l : Launch) (x1 : Int32) (σ : vz_I)  {r : Int32} {σ' : vz_I} (h : f_X5_append x1 σ = some (r, σ')) : vz_Con z l 0 yX5_append cX5_append 2 (some .boolean) [.ref 2, .int x1] vz_G0 σ vz_N0 (some (.int r)) vz_G0 σ' vz_N0 0 0 := by
  refine vz_con (by decide) (Nat.le_of_ble_eq_true rfl) (fun μ hc hl hcap hret => ?_)
  subst hl
  unfold f_X5_append at h
  refine vr_aload_n (pc := 0) hc dX5_append_0 rfl ?_
  refine vr_getI (pc := 1) hc dX5_append_1 fl_X5_15 gc_2 (gi_5_0 gc_2) ?_
  refine vr_sipush (pc := 4) hc dX5_append_4 (160 : Int32) (by decide) ?_
  refine vr_icmp_lt (pc := 7) hc 12 dX5_append_7 (by decide) (fun hb1 => ?_) (fun hb1 => ?_)
  · rw [if_pos hb1] at h
    refine vr_aload_n (pc := 12) hc dX5_append_12 rfl ?_
    refine vr_getR (pc := 13) hc dX5_append_13 fl_X5_9 gc_2 (gr_5_1 gc_2).1 ?_
    refine vr_aload_n (pc := 16) hc dX5_append_16 rfl ?_
    refine vr_getI (pc := 17) hc dX5_append_17 fl_X5_15 gc_2 (gi_5_0 gc_2) ?_
    refine vr_iload_n (pc := 20) hc dX5_append_20 rfl ?_
    refine vr_i2b (pc := 21) hc dX5_append_21 ?_
    have hb2 := vz_ifp h
    rw [if_pos hb2] at h
    refine vr_bast (pc := 22) hc 160 dX5_append_22 ((gr_5_1 gc_2).2.1) ((gr_5_1 gc_2).2.2) (vz_in_vp hb2) ?_
    obtain ⟨σ3, hσ4⟩ : ∃ x, x = vz_up σ 3 (σ 2 0).toNatClampNeg x1.toInt8.toInt32.toInt8.toInt32 := ⟨_, rfl⟩
    rw [← hσ4] at h ⊢
    rw [vz_let_e] at h
    refine vr_aload_n (pc := 23) hc dX5_append_23 rfl ?_
    refine vr_dup (pc := 24) hc dX5_append_24 rfl ?_
    refine vr_getI (pc := 25) hc dX5_append_25 fl_X5_15 gc_2 (gi_5_0 gc_2) ?_
    refine vr_iconst (pc := 28) hc dX5_append_28 (1 : Int32) (by decide) ?_
    refine vr_iadd (pc := 29) hc dX5_append_29 ?_
    refine vr_putI (pc := 30) hc dX5_append_30 fl_X5_15 gc_2 (gi_5_0 gc_2) rfl rfl ?_
    refine vr_iconst (pc := 33) hc dX5_append_33 (1 : Int32) (by decide) ?_
    obtain ⟨rfl, rfl⟩ := vz_in2 h
    exact hret _ _ (vz_ret_i dX5_append_34 (by decide))
  · rw [if_neg hb1] at h
    refine vr_iconst (pc := 10) hc dX5_append_10 (0 : Int32) (by decide) ?_
    obtain ⟨rfl, rfl⟩ := vz_in2 h
    exact hret _ _ (vz_ret_i dX5_append_11 (by decide))
-- X5_byteAt: depth 0, effects S=True W=False P=True
def f_X5_byteAt (x1 : Int32) (σ : vz_I) : Option Int32 := if x1 < 0 then some (-4 : Int32) else if (σ 2 0) ≤ x1 then some (-4 : Int32) else if vz_in x1 160 then some (σ 3 x1.toNatClampNeg) else none
set_option maxRecDepth 20000 in
set_option maxHeartbeats 1000000 in
theorem w_X5_byteAt (z : vz_Z) (l : Launch) (x1 : Int32) (σ : vz_I)  {r : Int32} (h : f_X5_byteAt x1 σ = some r) : vz_Con z l 0 yX5_byteAt cX5_byteAt 2 (some .int) [.ref 2, .int x1] vz_G0 σ vz_N0 (some (.int r)) vz_G0 σ vz_N0 0 0 := by
  refine vz_con (by decide) (Nat.le_of_ble_eq_true rfl) (fun μ hc hl hcap hret => ?_)
  subst hl
  unfold f_X5_byteAt at h
  refine vr_iload_n (pc := 0) hc dX5_byteAt_0 rfl ?_
  refine vr_if_lt (pc := 1) hc 21 dX5_byteAt_1 (by decide) (fun hb1 => ?_) (fun hb1 => ?_)
  · rw [if_pos hb1] at h
    refine vr_bipush (pc := 21) hc dX5_byteAt_21 (-4 : Int32) (by decide) ?_
    obtain rfl := Option.some.inj h
    exact hret _ _ (vz_ret_i dX5_byteAt_23 rfl)
  · rw [if_neg hb1] at h
    refine vr_iload_n (pc := 4) hc dX5_byteAt_4 rfl ?_
    refine vr_aload_n (pc := 5) hc dX5_byteAt_5 rfl ?_
    refine vr_getI (pc := 6) hc dX5_byteAt_6 fl_X5_15 gc_2 (gi_5_0 gc_2) ?_
    refine vr_icmp_ge (pc := 9) hc 21 dX5_byteAt_9 (by decide) (fun hb2 => ?_) (fun hb2 => ?_)
    · rw [if_pos hb2] at h
      refine vr_bipush (pc := 21) hc dX5_byteAt_21 (-4 : Int32) (by decide) ?_
      obtain rfl := Option.some.inj h
      exact hret _ _ (vz_ret_i dX5_byteAt_23 rfl)
    · rw [if_neg hb2] at h
      refine vr_aload_n (pc := 12) hc dX5_byteAt_12 rfl ?_
      refine vr_getR (pc := 13) hc dX5_byteAt_13 fl_X5_9 gc_2 (gr_5_1 gc_2).1 ?_
      refine vr_iload_n (pc := 16) hc dX5_byteAt_16 rfl ?_
      have hb3 := vz_ifp h
      rw [if_pos hb3] at h
      refine vr_bald (pc := 17) hc 160 dX5_byteAt_17 ((gr_5_1 gc_2).2.1) ((gr_5_1 gc_2).2.2) (vz_in_vp hb3) ?_
      refine vr_goto (pc := 18) hc 23 dX5_byteAt_18 (by decide) ?_
      obtain rfl := Option.some.inj h
      exact hret _ _ (vz_ret_i dX5_byteAt_23 rfl)
-- X6_refuse: depth 0, effects S=True W=True P=False
def f_X6_refuse (x1 : Int32) (x2 : Int32) (σ : vz_I) : Int32 × vz_I := ((0 : Int32), vz_up (vz_up σ 1 7 x1) 1 8 x2)
set_option maxRecDepth 20000 in
set_option maxHeartbeats 1000000 in
theorem w_X6_refuse (z : vz_Z) (l : Launch) (x1 : Int32) (x2 : Int32) (σ : vz_I)  {r : Int32} {σ' : vz_I} (h : f_X6_refuse x1 x2 σ = (r, σ')) : vz_Con z l 0 yX6_refuse cX6_refuse 3 (some .boolean) [.ref 1, .int x1, .int x2] vz_G0 σ vz_N0 (some (.int r)) vz_G0 σ' vz_N0 0 0 := by
  refine vz_con (by decide) (Nat.le_of_ble_eq_true rfl) (fun μ hc hl hcap hret => ?_)
  subst hl
  unfold f_X6_refuse at h
  refine vr_aload_n (pc := 0) hc dX6_refuse_0 rfl ?_
  refine vr_iload_n (pc := 1) hc dX6_refuse_1 rfl ?_
  refine vr_putI (pc := 2) hc dX6_refuse_2 fl_X6_25 gc_1 (gi_6_7 gc_1) rfl rfl ?_
  refine vr_aload_n (pc := 5) hc dX6_refuse_5 rfl ?_
  refine vr_iload_n (pc := 6) hc dX6_refuse_6 rfl ?_
  refine vr_putI (pc := 7) hc dX6_refuse_7 fl_X6_59 gc_1 (gi_6_8 gc_1) rfl rfl ?_
  refine vr_iconst (pc := 10) hc dX6_refuse_10 (0 : Int32) (by decide) ?_
  obtain ⟨rfl, rfl⟩ := vz_in3 h
  exact hret _ _ (vz_ret_i dX6_refuse_11 (by decide))
-- X6_isLetter: depth 0, effects S=False W=False P=False
def f_X6_isLetter (x0 : Int32)  : Int32 := if x0 < (97 : Int32) then (0 : Int32) else if (122 : Int32) < x0 then (0 : Int32) else (1 : Int32)
set_option maxRecDepth 20000 in
set_option maxHeartbeats 1000000 in
theorem w_X6_isLetter (z : vz_Z) (l : Launch) (x0 : Int32) (σ : vz_I)  {r : Int32} (h : f_X6_isLetter x0  = r) : vz_Con z l 0 yX6_isLetter cX6_isLetter 1 (some .boolean) [.int x0] vz_G0 σ vz_N0 (some (.int r)) vz_G0 σ vz_N0 0 0 := by
  refine vz_con (by decide) (Nat.le_of_ble_eq_true rfl) (fun μ hc hl hcap hret => ?_)
  subst hl
  unfold f_X6_isLetter at h
  refine vr_iload_n (pc := 0) hc dX6_isLetter_0 rfl ?_
  refine vr_bipush (pc := 1) hc dX6_isLetter_1 (97 : Int32) (by decide) ?_
  refine vr_icmp_lt (pc := 3) hc 16 dX6_isLetter_3 (by decide) (fun hb1 => ?_) (fun hb1 => ?_)
  · rw [if_pos hb1] at h
    refine vr_iconst (pc := 16) hc dX6_isLetter_16 (0 : Int32) (by decide) ?_
    subst h
    exact hret _ _ (vz_ret_i dX6_isLetter_17 (by decide))
  · rw [if_neg hb1] at h
    refine vr_iload_n (pc := 6) hc dX6_isLetter_6 rfl ?_
    refine vr_bipush (pc := 7) hc dX6_isLetter_7 (122 : Int32) (by decide) ?_
    refine vr_icmp_gt (pc := 9) hc 16 dX6_isLetter_9 (by decide) (fun hb2 => ?_) (fun hb2 => ?_)
    · rw [if_pos hb2] at h
      refine vr_iconst (pc := 16) hc dX6_isLetter_16 (0 : Int32) (by decide) ?_
      subst h
      exact hret _ _ (vz_ret_i dX6_isLetter_17 (by decide))
    · rw [if_neg hb2] at h
      refine vr_iconst (pc := 12) hc dX6_isLetter_12 (1 : Int32) (by decide) ?_
      refine vr_goto (pc := 13) hc 17 dX6_isLetter_13 (by decide) ?_
      subst h
      exact hret _ _ (vz_ret_i dX6_isLetter_17 (by decide))
theorem bn_X6_isLetter (x0 : Int32)  : narrow .boolean (.int (f_X6_isLetter x0 )) = .int (f_X6_isLetter x0 ) := by
  unfold f_X6_isLetter
  (repeat' split) <;> rfl
-- X6_isFigure: depth 0, effects S=False W=False P=False
def f_X6_isFigure (x0 : Int32)  : Int32 := if x0 < (48 : Int32) then (0 : Int32) else if (57 : Int32) < x0 then (0 : Int32) else (1 : Int32)
set_option maxRecDepth 20000 in
set_option maxHeartbeats 1000000 in
theorem w_X6_isFigure (z : vz_Z) (l : Launch) (x0 : Int32) (σ : vz_I)  {r : Int32} (h : f_X6_isFigure x0  = r) : vz_Con z l 0 yX6_isFigure cX6_isFigure 1 (some .boolean) [.int x0] vz_G0 σ vz_N0 (some (.int r)) vz_G0 σ vz_N0 0 0 := by
  refine vz_con (by decide) (Nat.le_of_ble_eq_true rfl) (fun μ hc hl hcap hret => ?_)
  subst hl
  unfold f_X6_isFigure at h
  refine vr_iload_n (pc := 0) hc dX6_isFigure_0 rfl ?_
  refine vr_bipush (pc := 1) hc dX6_isFigure_1 (48 : Int32) (by decide) ?_
  refine vr_icmp_lt (pc := 3) hc 16 dX6_isFigure_3 (by decide) (fun hb1 => ?_) (fun hb1 => ?_)
  · rw [if_pos hb1] at h
    refine vr_iconst (pc := 16) hc dX6_isFigure_16 (0 : Int32) (by decide) ?_
    subst h
    exact hret _ _ (vz_ret_i dX6_isFigure_17 (by decide))
  · rw [if_neg hb1] at h
    refine vr_iload_n (pc := 6) hc dX6_isFigure_6 rfl ?_
    refine vr_bipush (pc := 7) hc dX6_isFigure_7 (57 : Int32) (by decide) ?_
    refine vr_icmp_gt (pc := 9) hc 16 dX6_isFigure_9 (by decide) (fun hb2 => ?_) (fun hb2 => ?_)
    · rw [if_pos hb2] at h
      refine vr_iconst (pc := 16) hc dX6_isFigure_16 (0 : Int32) (by decide) ?_
      subst h
      exact hret _ _ (vz_ret_i dX6_isFigure_17 (by decide))
    · rw [if_neg hb2] at h
      refine vr_iconst (pc := 12) hc dX6_isFigure_12 (1 : Int32) (by decide) ?_
      refine vr_goto (pc := 13) hc 17 dX6_isFigure_13 (by decide) ?_
      subst h
      exact hret _ _ (vz_ret_i dX6_isFigure_17 (by decide))
theorem bn_X6_isFigure (x0 : Int32)  : narrow .boolean (.int (f_X6_isFigure x0 )) = .int (f_X6_isFigure x0 ) := by
  unfold f_X6_isFigure
  (repeat' split) <;> rfl
-- X7_manAt: depth 0, effects S=True W=False P=True
def f_X7_manAt (a0 : Nat) (x1 : Int32) (σ : vz_I) : Option (Option Nat) := if x1 < 0 then some none else if (σ a0 0) ≤ x1 then some none else if vz_in x1 4 then some (some (a0 + 5 + 2 * x1.toNatClampNeg)) else none
theorem wc_X7_manAt {a0 : Nat} {x1 : Int32} {σ : vz_I} {a : Nat} (ha0 : (vz_G0 a0).1 = 7) (h : f_X7_manAt a0 x1 σ = some (some a)) : (vz_G0 a).1 = 0 := by
  simp only [f_X7_manAt, vz_let] at h
  repeat' split at h
  all_goals first | (cases h; exact (ge_13 ha0 (vz_in_lt (by assumption))).2) | (cases h; done)
set_option maxRecDepth 20000 in
set_option maxHeartbeats 1000000 in
theorem w_X7_manAt (z : vz_Z) (l : Launch) (a0 : Nat) (x1 : Int32) (σ : vz_I) (ha0 : (vz_G0 a0).1 = 7) {r : Option Nat} (h : f_X7_manAt a0 x1 σ = some r) : vz_Con z l 0 yX7_manAt cX7_manAt 2 (some (.object "BoardPress$Man")) [.ref a0, .int x1] vz_G0 σ vz_N0 (some (vz_ov r)) vz_G0 σ vz_N0 0 0 := by
  refine vz_con (by decide) (Nat.le_of_ble_eq_true rfl) (fun μ hc hl hcap hret => ?_)
  subst hl
  unfold f_X7_manAt at h
  refine vr_iload_n (pc := 0) hc dX7_manAt_0 rfl ?_
  refine vr_if_lt (pc := 1) hc 21 dX7_manAt_1 (by decide) (fun hb1 => ?_) (fun hb1 => ?_)
  · rw [if_pos hb1] at h
    refine vr_null (pc := 21) hc dX7_manAt_21 ?_
    obtain rfl := Option.some.inj h
    exact hret _ _ (vz_ret_n dX7_manAt_22)
  · rw [if_neg hb1] at h
    refine vr_iload_n (pc := 4) hc dX7_manAt_4 rfl ?_
    refine vr_aload_n (pc := 5) hc dX7_manAt_5 rfl ?_
    refine vr_getI (pc := 6) hc dX7_manAt_6 fl_X7_32 ha0 (gi_7_0 ha0) ?_
    refine vr_icmp_ge (pc := 9) hc 21 dX7_manAt_9 (by decide) (fun hb2 => ?_) (fun hb2 => ?_)
    · rw [if_pos hb2] at h
      refine vr_null (pc := 21) hc dX7_manAt_21 ?_
      obtain rfl := Option.some.inj h
      exact hret _ _ (vz_ret_n dX7_manAt_22)
    · rw [if_neg hb2] at h
      refine vr_aload_n (pc := 12) hc dX7_manAt_12 rfl ?_
      refine vr_getR (pc := 13) hc dX7_manAt_13 fl_X7_11 ha0 (gr_7_5 ha0).1 ?_
      refine vr_iload_n (pc := 16) hc dX7_manAt_16 rfl ?_
      have hb3 := vz_ifp h
      rw [if_pos hb3] at h
      refine vr_aald (pc := 17) hc 13 4 dX7_manAt_17 ((gr_7_5 ha0).2.1) (by decide) (by decide) ((gr_7_5 ha0).2.2) (vz_in_vp hb3) (ge_13 ha0 (vz_in_lt hb3)).1 ?_
      refine vr_goto (pc := 18) hc 22 dX7_manAt_18 (by decide) ?_
      obtain rfl := Option.some.inj h
      exact hret _ _ (vz_ret_a dX7_manAt_22)
-- X7_readerAt: depth 0, effects S=True W=False P=True
def f_X7_readerAt (a0 : Nat) (x1 : Int32) (σ : vz_I) : Option (Option Nat) := if x1 < 0 then some none else if (σ a0 2) ≤ x1 then some none else if vz_in x1 4 then some (some (a0 + 13 + x1.toNatClampNeg)) else none
theorem wc_X7_readerAt {a0 : Nat} {x1 : Int32} {σ : vz_I} {a : Nat} (ha0 : (vz_G0 a0).1 = 7) (h : f_X7_readerAt a0 x1 σ = some (some a)) : (vz_G0 a).1 = 3 := by
  simp only [f_X7_readerAt, vz_let] at h
  repeat' split at h
  all_goals first | (cases h; exact (ge_14 ha0 (vz_in_lt (by assumption))).2) | (cases h; done)
set_option maxRecDepth 20000 in
set_option maxHeartbeats 1000000 in
theorem w_X7_readerAt (z : vz_Z) (l : Launch) (a0 : Nat) (x1 : Int32) (σ : vz_I) (ha0 : (vz_G0 a0).1 = 7) {r : Option Nat} (h : f_X7_readerAt a0 x1 σ = some r) : vz_Con z l 0 yX7_readerAt cX7_readerAt 2 (some (.object "BoardPress$Reader")) [.ref a0, .int x1] vz_G0 σ vz_N0 (some (vz_ov r)) vz_G0 σ vz_N0 0 0 := by
  refine vz_con (by decide) (Nat.le_of_ble_eq_true rfl) (fun μ hc hl hcap hret => ?_)
  subst hl
  unfold f_X7_readerAt at h
  refine vr_iload_n (pc := 0) hc dX7_readerAt_0 rfl ?_
  refine vr_if_lt (pc := 1) hc 21 dX7_readerAt_1 (by decide) (fun hb1 => ?_) (fun hb1 => ?_)
  · rw [if_pos hb1] at h
    refine vr_null (pc := 21) hc dX7_readerAt_21 ?_
    obtain rfl := Option.some.inj h
    exact hret _ _ (vz_ret_n dX7_readerAt_22)
  · rw [if_neg hb1] at h
    refine vr_iload_n (pc := 4) hc dX7_readerAt_4 rfl ?_
    refine vr_aload_n (pc := 5) hc dX7_readerAt_5 rfl ?_
    refine vr_getI (pc := 6) hc dX7_readerAt_6 fl_X7_39 ha0 (gi_7_2 ha0) ?_
    refine vr_icmp_ge (pc := 9) hc 21 dX7_readerAt_9 (by decide) (fun hb2 => ?_) (fun hb2 => ?_)
    · rw [if_pos hb2] at h
      refine vr_null (pc := 21) hc dX7_readerAt_21 ?_
      obtain rfl := Option.some.inj h
      exact hret _ _ (vz_ret_n dX7_readerAt_22)
    · rw [if_neg hb2] at h
      refine vr_aload_n (pc := 12) hc dX7_readerAt_12 rfl ?_
      refine vr_getR (pc := 13) hc dX7_readerAt_13 fl_X7_19 ha0 (gr_7_6 ha0).1 ?_
      refine vr_iload_n (pc := 16) hc dX7_readerAt_16 rfl ?_
      have hb3 := vz_ifp h
      rw [if_pos hb3] at h
      refine vr_aald (pc := 17) hc 14 4 dX7_readerAt_17 ((gr_7_6 ha0).2.1) (by decide) (by decide) ((gr_7_6 ha0).2.2) (vz_in_vp hb3) (ge_14 ha0 (vz_in_lt hb3)).1 ?_
      refine vr_goto (pc := 18) hc 22 dX7_readerAt_18 (by decide) ?_
      obtain rfl := Option.some.inj h
      exact hret _ _ (vz_ret_a dX7_readerAt_22)
-- X7_addMan: depth 0, effects S=True W=True P=True
def f_X7_addMan (a0 : Nat) (x1 : Int32) (σ : vz_I) : Option (Option Nat × vz_I) := if (σ a0 0) < (4 : Int32) then if vz_in (σ a0 0) 4 then vz_let (vz_up (vz_up σ (a0 + 5 + 2 * (σ a0 0).toNatClampNeg) 0 x1) (a0 + 5 + 2 * (σ a0 0).toNatClampNeg) 2 (0 : Int32)) (fun σ3 => some (some (a0 + 5 + 2 * (σ a0 0).toNatClampNeg), vz_up σ3 a0 0 ((σ3 a0 0) + (1 : Int32)))) else none else some (none, σ)
theorem wc_X7_addMan {a0 : Nat} {x1 : Int32} {σ : vz_I} {a : Nat} {s : vz_I} (ha0 : (vz_G0 a0).1 = 7) (h : f_X7_addMan a0 x1 σ = some (some a, s)) : (vz_G0 a).1 = 0 := by
  simp only [f_X7_addMan, vz_let] at h
  repeat' split at h
  all_goals first | (cases h; exact (ge_13 ha0 (vz_in_lt (by assumption))).2) | (cases h; done)
set_option maxRecDepth 20000 in
set_option maxHeartbeats 1000000 in
theorem w_X7_addMan (z : vz_Z) (l : Launch) (a0 : Nat) (x1 : Int32) (σ : vz_I) (ha0 : (vz_G0 a0).1 = 7) {r : Option Nat} {σ' : vz_I} (h : f_X7_addMan a0 x1 σ = some (r, σ')) : vz_Con z l 0 yX7_addMan cX7_addMan 3 (some (.object "BoardPress$Man")) [.ref a0, .int x1] vz_G0 σ vz_N0 (some (vz_ov r)) vz_G0 σ' vz_N0 0 0 := by
  refine vz_con (by decide) (Nat.le_of_ble_eq_true rfl) (fun μ hc hl hcap hret => ?_)
  subst hl
  unfold f_X7_addMan at h
  refine vr_aload_n (pc := 0) hc dX7_addMan_0 rfl ?_
  refine vr_getI (pc := 1) hc dX7_addMan_1 fl_X7_32 ha0 (gi_7_0 ha0) ?_
  refine vr_iconst (pc := 4) hc dX7_addMan_4 (4 : Int32) (by decide) ?_
  refine vr_icmp_lt (pc := 5) hc 10 dX7_addMan_5 (by decide) (fun hb1 => ?_) (fun hb1 => ?_)
  · rw [if_pos hb1] at h
    refine vr_aload_n (pc := 10) hc dX7_addMan_10 rfl ?_
    refine vr_getR (pc := 11) hc dX7_addMan_11 fl_X7_11 ha0 (gr_7_5 ha0).1 ?_
    refine vr_aload_n (pc := 14) hc dX7_addMan_14 rfl ?_
    refine vr_getI (pc := 15) hc dX7_addMan_15 fl_X7_32 ha0 (gi_7_0 ha0) ?_
    have hb2 := vz_ifp h
    rw [if_pos hb2] at h
    refine vr_aald (pc := 18) hc 13 4 dX7_addMan_18 ((gr_7_5 ha0).2.1) (by decide) (by decide) ((gr_7_5 ha0).2.2) (vz_in_vp hb2) (ge_13 ha0 (vz_in_lt hb2)).1 ?_
    refine vr_astore_n (pc := 19) hc dX7_addMan_19 (by decide) rfl ?_
    refine vr_aload_n (pc := 20) hc dX7_addMan_20 rfl ?_
    refine vr_iload_n (pc := 21) hc dX7_addMan_21 rfl ?_
    refine vr_putI (pc := 22) hc dX7_addMan_22 fl_X7_59 ((ge_13 ha0 (vz_in_lt hb2)).2) (gi_0_0 ((ge_13 ha0 (vz_in_lt hb2)).2)) rfl rfl ?_
    refine vr_aload_n (pc := 25) hc dX7_addMan_25 rfl ?_
    refine vr_iconst (pc := 26) hc dX7_addMan_26 (0 : Int32) (by decide) ?_
    refine vr_putI (pc := 27) hc dX7_addMan_27 fl_X7_62 ((ge_13 ha0 (vz_in_lt hb2)).2) (gi_0_2 ((ge_13 ha0 (vz_in_lt hb2)).2)) rfl rfl ?_
    obtain ⟨σ3, hσ4⟩ : ∃ x, x = vz_up (vz_up σ (a0 + 5 + 2 * (σ a0 0).toNatClampNeg) 0 x1) (a0 + 5 + 2 * (σ a0 0).toNatClampNeg) 2 (0 : Int32) := ⟨_, rfl⟩
    rw [← hσ4] at h ⊢
    rw [vz_let_e] at h
    refine vr_aload_n (pc := 30) hc dX7_addMan_30 rfl ?_
    refine vr_dup (pc := 31) hc dX7_addMan_31 rfl ?_
    refine vr_getI (pc := 32) hc dX7_addMan_32 fl_X7_32 ha0 (gi_7_0 ha0) ?_
    refine vr_iconst (pc := 35) hc dX7_addMan_35 (1 : Int32) (by decide) ?_
    refine vr_iadd (pc := 36) hc dX7_addMan_36 ?_
    refine vr_putI (pc := 37) hc dX7_addMan_37 fl_X7_32 ha0 (gi_7_0 ha0) rfl rfl ?_
    refine vr_aload_n (pc := 40) hc dX7_addMan_40 rfl ?_
    obtain ⟨rfl, rfl⟩ := vz_in2 h
    exact hret _ _ (vz_ret_a dX7_addMan_41)
  · rw [if_neg hb1] at h
    refine vr_null (pc := 8) hc dX7_addMan_8 ?_
    obtain ⟨rfl, rfl⟩ := vz_in2 h
    exact hret _ _ (vz_ret_n dX7_addMan_9)
-- X7_addReader: depth 0, effects S=True W=True P=True
def f_X7_addReader (a0 : Nat) (σ : vz_I) : Option (Option Nat × vz_I) := if (σ a0 2) < (4 : Int32) then if vz_in (((vz_up σ a0 2 ((σ a0 2) + (1 : Int32))) a0 2) - (1 : Int32)) 4 then some (some (a0 + 13 + (((vz_up σ a0 2 ((σ a0 2) + (1 : Int32))) a0 2) - (1 : Int32)).toNatClampNeg), vz_up σ a0 2 ((σ a0 2) + (1 : Int32))) else none else some (none, σ)
theorem wc_X7_addReader {a0 : Nat} {σ : vz_I} {a : Nat} {s : vz_I} (ha0 : (vz_G0 a0).1 = 7) (h : f_X7_addReader a0 σ = some (some a, s)) : (vz_G0 a).1 = 3 := by
  simp only [f_X7_addReader, vz_let] at h
  repeat' split at h
  all_goals first | (cases h; exact (ge_14 ha0 (vz_in_lt (by assumption))).2) | (cases h; done)
set_option maxRecDepth 20000 in
set_option maxHeartbeats 1000000 in
theorem w_X7_addReader (z : vz_Z) (l : Launch) (a0 : Nat) (σ : vz_I) (ha0 : (vz_G0 a0).1 = 7) {r : Option Nat} {σ' : vz_I} (h : f_X7_addReader a0 σ = some (r, σ')) : vz_Con z l 0 yX7_addReader cX7_addReader 1 (some (.object "BoardPress$Reader")) [.ref a0] vz_G0 σ vz_N0 (some (vz_ov r)) vz_G0 σ' vz_N0 0 0 := by
  refine vz_con (by decide) (Nat.le_of_ble_eq_true rfl) (fun μ hc hl hcap hret => ?_)
  subst hl
  unfold f_X7_addReader at h
  refine vr_aload_n (pc := 0) hc dX7_addReader_0 rfl ?_
  refine vr_getI (pc := 1) hc dX7_addReader_1 fl_X7_39 ha0 (gi_7_2 ha0) ?_
  refine vr_iconst (pc := 4) hc dX7_addReader_4 (4 : Int32) (by decide) ?_
  refine vr_icmp_lt (pc := 5) hc 10 dX7_addReader_5 (by decide) (fun hb1 => ?_) (fun hb1 => ?_)
  · rw [if_pos hb1] at h
    refine vr_aload_n (pc := 10) hc dX7_addReader_10 rfl ?_
    refine vr_dup (pc := 11) hc dX7_addReader_11 rfl ?_
    refine vr_getI (pc := 12) hc dX7_addReader_12 fl_X7_39 ha0 (gi_7_2 ha0) ?_
    refine vr_iconst (pc := 15) hc dX7_addReader_15 (1 : Int32) (by decide) ?_
    refine vr_iadd (pc := 16) hc dX7_addReader_16 ?_
    refine vr_putI (pc := 17) hc dX7_addReader_17 fl_X7_39 ha0 (gi_7_2 ha0) rfl rfl ?_
    refine vr_aload_n (pc := 20) hc dX7_addReader_20 rfl ?_
    refine vr_getR (pc := 21) hc dX7_addReader_21 fl_X7_19 ha0 (gr_7_6 ha0).1 ?_
    refine vr_aload_n (pc := 24) hc dX7_addReader_24 rfl ?_
    refine vr_getI (pc := 25) hc dX7_addReader_25 fl_X7_39 ha0 (gi_7_2 ha0) ?_
    refine vr_iconst (pc := 28) hc dX7_addReader_28 (1 : Int32) (by decide) ?_
    refine vr_isub (pc := 29) hc dX7_addReader_29 ?_
    have hb2 := vz_ifp h
    rw [if_pos hb2] at h
    refine vr_aald (pc := 30) hc 14 4 dX7_addReader_30 ((gr_7_6 ha0).2.1) (by decide) (by decide) ((gr_7_6 ha0).2.2) (vz_in_vp hb2) (ge_14 ha0 (vz_in_lt hb2)).1 ?_
    obtain ⟨rfl, rfl⟩ := vz_in2 h
    exact hret _ _ (vz_ret_a dX7_addReader_31)
  · rw [if_neg hb1] at h
    refine vr_null (pc := 8) hc dX7_addReader_8 ?_
    obtain ⟨rfl, rfl⟩ := vz_in2 h
    exact hret _ _ (vz_ret_n dX7_addReader_9)
-- X7_addStreet: depth 0, effects S=True W=True P=True
def f_X7_addStreet (a0 : Nat) (x1 : Int32) (x2 : Int32) (σ : vz_I) : Option (Int32 × vz_I) := if (σ a0 1) < (9 : Int32) then if vz_in (σ a0 1) 9 then if vz_in ((vz_up σ (a0 + 3) (σ a0 1).toNatClampNeg x1) a0 1) 9 then vz_let (vz_up (vz_up σ (a0 + 3) (σ a0 1).toNatClampNeg x1) (a0 + 4) ((vz_up σ (a0 + 3) (σ a0 1).toNatClampNeg x1) a0 1).toNatClampNeg x2) (fun σ4 => some ((1 : Int32), vz_up σ4 a0 1 ((σ4 a0 1) + (1 : Int32)))) else none else none else some ((0 : Int32), σ)
set_option maxRecDepth 20000 in
set_option maxHeartbeats 1000000 in
theorem w_X7_addStreet (z : vz_Z) (l : Launch) (a0 : Nat) (x1 : Int32) (x2 : Int32) (σ : vz_I) (ha0 : (vz_G0 a0).1 = 7) {r : Int32} {σ' : vz_I} (h : f_X7_addStreet a0 x1 x2 σ = some (r, σ')) : vz_Con z l 0 yX7_addStreet cX7_addStreet 3 (some .boolean) [.ref a0, .int x1, .int x2] vz_G0 σ vz_N0 (some (.int r)) vz_G0 σ' vz_N0 0 0 := by
  refine vz_con (by decide) (Nat.le_of_ble_eq_true rfl) (fun μ hc hl hcap hret => ?_)
  subst hl
  unfold f_X7_addStreet at h
  refine vr_aload_n (pc := 0) hc dX7_addStreet_0 rfl ?_
  refine vr_getI (pc := 1) hc dX7_addStreet_1 fl_X7_36 ha0 (gi_7_1 ha0) ?_
  refine vr_bipush (pc := 4) hc dX7_addStreet_4 (9 : Int32) (by decide) ?_
  refine vr_icmp_lt (pc := 6) hc 11 dX7_addStreet_6 (by decide) (fun hb1 => ?_) (fun hb1 => ?_)
  · rw [if_pos hb1] at h
    refine vr_aload_n (pc := 11) hc dX7_addStreet_11 rfl ?_
    refine vr_getR (pc := 12) hc dX7_addStreet_12 fl_X7_23 ha0 (gr_7_7 ha0).1 ?_
    refine vr_aload_n (pc := 15) hc dX7_addStreet_15 rfl ?_
    refine vr_getI (pc := 16) hc dX7_addStreet_16 fl_X7_36 ha0 (gi_7_1 ha0) ?_
    refine vr_iload_n (pc := 19) hc dX7_addStreet_19 rfl ?_
    have hb2 := vz_ifp h
    rw [if_pos hb2] at h
    refine vr_iast (pc := 20) hc 9 dX7_addStreet_20 ((gr_7_7 ha0).2.1) ((gr_7_7 ha0).2.2) (vz_in_vp hb2) ?_
    refine vr_aload_n (pc := 21) hc dX7_addStreet_21 rfl ?_
    refine vr_getR (pc := 22) hc dX7_addStreet_22 fl_X7_27 ha0 (gr_7_8 ha0).1 ?_
    refine vr_aload_n (pc := 25) hc dX7_addStreet_25 rfl ?_
    refine vr_getI (pc := 26) hc dX7_addStreet_26 fl_X7_36 ha0 (gi_7_1 ha0) ?_
    refine vr_iload_n (pc := 29) hc dX7_addStreet_29 rfl ?_
    have hb3 := vz_ifp h
    rw [if_pos hb3] at h
    refine vr_iast (pc := 30) hc 9 dX7_addStreet_30 ((gr_7_8 ha0).2.1) ((gr_7_8 ha0).2.2) (vz_in_vp hb3) ?_
    obtain ⟨σ4, hσ5⟩ : ∃ x, x = vz_up (vz_up σ (a0 + 3) (σ a0 1).toNatClampNeg x1) (a0 + 4) ((vz_up σ (a0 + 3) (σ a0 1).toNatClampNeg x1) a0 1).toNatClampNeg x2 := ⟨_, rfl⟩
    rw [← hσ5] at h ⊢
    rw [vz_let_e] at h
    refine vr_aload_n (pc := 31) hc dX7_addStreet_31 rfl ?_
    refine vr_dup (pc := 32) hc dX7_addStreet_32 rfl ?_
    refine vr_getI (pc := 33) hc dX7_addStreet_33 fl_X7_36 ha0 (gi_7_1 ha0) ?_
    refine vr_iconst (pc := 36) hc dX7_addStreet_36 (1 : Int32) (by decide) ?_
    refine vr_iadd (pc := 37) hc dX7_addStreet_37 ?_
    refine vr_putI (pc := 38) hc dX7_addStreet_38 fl_X7_36 ha0 (gi_7_1 ha0) rfl rfl ?_
    refine vr_iconst (pc := 41) hc dX7_addStreet_41 (1 : Int32) (by decide) ?_
    obtain ⟨rfl, rfl⟩ := vz_in2 h
    exact hret _ _ (vz_ret_i dX7_addStreet_42 (by decide))
  · rw [if_neg hb1] at h
    refine vr_iconst (pc := 9) hc dX7_addStreet_9 (0 : Int32) (by decide) ?_
    obtain ⟨rfl, rfl⟩ := vz_in2 h
    exact hret _ _ (vz_ret_i dX7_addStreet_10 (by decide))
-- X7_setRain: depth 0, effects S=True W=True P=False
def f_X7_setRain (a0 : Nat) (x1 : Int32) (x2 : Int32) (σ : vz_I) : vz_I := vz_up (vz_up σ a0 3 x1) a0 4 x2
set_option maxRecDepth 20000 in
set_option maxHeartbeats 1000000 in
theorem w_X7_setRain (z : vz_Z) (l : Launch) (a0 : Nat) (x1 : Int32) (x2 : Int32) (σ : vz_I) (ha0 : (vz_G0 a0).1 = 7) {σ' : vz_I} (h : f_X7_setRain a0 x1 x2 σ = σ') : vz_Con z l 0 yX7_setRain cX7_setRain 3 none [.ref a0, .int x1, .int x2] vz_G0 σ vz_N0 none vz_G0 σ' vz_N0 0 0 := by
  refine vz_con (by decide) (Nat.le_of_ble_eq_true rfl) (fun μ hc hl hcap hret => ?_)
  subst hl
  unfold f_X7_setRain at h
  refine vr_aload_n (pc := 0) hc dX7_setRain_0 rfl ?_
  refine vr_iload_n (pc := 1) hc dX7_setRain_1 rfl ?_
  refine vr_putI (pc := 2) hc dX7_setRain_2 fl_X7_46 ha0 (gi_7_3 ha0) rfl rfl ?_
  refine vr_aload_n (pc := 5) hc dX7_setRain_5 rfl ?_
  refine vr_iload_n (pc := 6) hc dX7_setRain_6 rfl ?_
  refine vr_putI (pc := 7) hc dX7_setRain_7 fl_X7_49 ha0 (gi_7_4 ha0) rfl rfl ?_
  subst h
  exact hret _ _ (vz_ret_v dX7_setRain_10)
-- X7_hasStreet: depth 0, effects S=True W=False P=True
def f_X7_hasStreet_30 (k2 : Nat → Int32 → Int32 → Int32 → Option Int32) (a0 : Nat) (x1 : Int32) (x2 : Int32) (x3 : Int32) (σ : vz_I) : Option Int32 := if vz_in x3 9 then if (σ (a0 + 3) x3.toNatClampNeg) = x2 then if vz_in x3 9 then if (σ (a0 + 4) x3.toNatClampNeg) = x1 then some (1 : Int32) else k2 a0 x1 x2 (x3 + (1 : Int32)) else none else k2 a0 x1 x2 (x3 + (1 : Int32)) else none
set_option maxRecDepth 20000 in
set_option maxHeartbeats 1000000 in
theorem wn_X7_hasStreet_30 (z : vz_Z) (μ : vz_M) (hc : vz_C z μ cX7_hasStreet RX7 0 4) {r : Int32} (σ : vz_I) (hret : ∀ (pc : Nat) (L : vz_L), vz_ret cX7_hasStreet (some .boolean) pc (some (.int r)) → vz_V z μ 0 0 pc L ((some (.int r)) : Option Value).toList vz_G0 σ vz_N0) (k2 : Nat → Int32 → Int32 → Int32 → Option Int32) (hk2 : ∀ (a0 : Nat) (x1 : Int32) (x2 : Int32) (x3 : Int32), (vz_G0 a0).1 = 7 → k2 a0 x1 x2 x3 = some r → vz_V z μ 0 0 2 [(0, some (.ref a0)), (1, some (.int x1)), (2, some (.int x2)), (3, some (.int x3))] [] vz_G0 σ vz_N0) (a0 : Nat) (x1 : Int32) (x2 : Int32) (x3 : Int32) (ha0 : (vz_G0 a0).1 = 7) (h : f_X7_hasStreet_30 k2 a0 x1 x2 x3 σ = some r) : vz_V z μ 0 0 30 [(0, some (.ref a0)), (1, some (.int x1)), (2, some (.int x2)), (3, some (.int x3))] [] vz_G0 σ vz_N0 := by
  unfold f_X7_hasStreet_30 at h
  refine vr_aload_n (pc := 30) hc dX7_hasStreet_30 rfl ?_
  refine vr_getR (pc := 31) hc dX7_hasStreet_31 fl_X7_23 ha0 (gr_7_7 ha0).1 ?_
  refine vr_iload_n (pc := 34) hc dX7_hasStreet_34 rfl ?_
  have hb4 := vz_ifp h
  rw [if_pos hb4] at h
  refine vr_iald (pc := 35) hc 9 dX7_hasStreet_35 ((gr_7_7 ha0).2.1) ((gr_7_7 ha0).2.2) (vz_in_vp hb4) ?_
  refine vr_iload_n (pc := 36) hc dX7_hasStreet_36 rfl ?_
  refine vr_icmp_ne (pc := 37) hc 52 dX7_hasStreet_37 (by decide) (fun hb5 => ?_) (fun hb5 => ?_)
  · rw [if_neg hb5] at h
    refine vr_iinc (pc := 52) hc dX7_hasStreet_52 (1 : Int32) (by decide) rfl (by decide) rfl ?_
    refine vr_goto (pc := 55) hc 2 dX7_hasStreet_55 (by decide) ?_
    exact vz_sub (hk2 a0 x1 x2 (x3 + (1 : Int32))  ha0 h) (vz_sb1 rfl (vz_sb1 rfl (vz_sb1 rfl (vz_sb1 rfl vz_sb0))))
  · rw [if_pos hb5] at h
    refine vr_aload_n (pc := 40) hc dX7_hasStreet_40 rfl ?_
    refine vr_getR (pc := 41) hc dX7_hasStreet_41 fl_X7_27 ha0 (gr_7_8 ha0).1 ?_
    refine vr_iload_n (pc := 44) hc dX7_hasStreet_44 rfl ?_
    have hb6 := vz_ifp h
    rw [if_pos hb6] at h
    refine vr_iald (pc := 45) hc 9 dX7_hasStreet_45 ((gr_7_8 ha0).2.1) ((gr_7_8 ha0).2.2) (vz_in_vp hb6) ?_
    refine vr_iload_n (pc := 46) hc dX7_hasStreet_46 rfl ?_
    refine vr_icmp_ne (pc := 47) hc 52 dX7_hasStreet_47 (by decide) (fun hb7 => ?_) (fun hb7 => ?_)
    · rw [if_neg hb7] at h
      refine vr_iinc (pc := 52) hc dX7_hasStreet_52 (1 : Int32) (by decide) rfl (by decide) rfl ?_
      refine vr_goto (pc := 55) hc 2 dX7_hasStreet_55 (by decide) ?_
      exact vz_sub (hk2 a0 x1 x2 (x3 + (1 : Int32))  ha0 h) (vz_sb1 rfl (vz_sb1 rfl (vz_sb1 rfl (vz_sb1 rfl vz_sb0))))
    · rw [if_pos hb7] at h
      refine vr_iconst (pc := 50) hc dX7_hasStreet_50 (1 : Int32) (by decide) ?_
      obtain rfl := Option.some.inj h
      exact hret _ _ (vz_ret_i dX7_hasStreet_51 (by decide))
def f_X7_hasStreet_2 : Nat → Nat → Int32 → Int32 → Int32 → vz_I → Option Int32
  | 0, _, _, _, _, _ => none
  | n + 1, a0, x1, x2, x3, σ => if (σ a0 1) ≤ x3 then some (0 : Int32) else if vz_in x3 9 then if (σ (a0 + 3) x3.toNatClampNeg) = x1 then if vz_in x3 9 then if (σ (a0 + 4) x3.toNatClampNeg) = x2 then some (1 : Int32) else f_X7_hasStreet_30 (fun a0 x1 x2 x3 => f_X7_hasStreet_2 n a0 x1 x2 x3 σ) a0 x1 x2 x3 σ else none else f_X7_hasStreet_30 (fun a0 x1 x2 x3 => f_X7_hasStreet_2 n a0 x1 x2 x3 σ) a0 x1 x2 x3 σ else none
theorem f_X7_hasStreet_2_s (n : Nat) (a0 : Nat) (x1 : Int32) (x2 : Int32) (x3 : Int32) (σ : vz_I) : f_X7_hasStreet_2  (n + 1) a0 x1 x2 x3 σ = if (σ a0 1) ≤ x3 then some (0 : Int32) else if vz_in x3 9 then if (σ (a0 + 3) x3.toNatClampNeg) = x1 then if vz_in x3 9 then if (σ (a0 + 4) x3.toNatClampNeg) = x2 then some (1 : Int32) else f_X7_hasStreet_30 (fun a0 x1 x2 x3 => f_X7_hasStreet_2 n a0 x1 x2 x3 σ) a0 x1 x2 x3 σ else none else f_X7_hasStreet_30 (fun a0 x1 x2 x3 => f_X7_hasStreet_2 n a0 x1 x2 x3 σ) a0 x1 x2 x3 σ else none := rfl
set_option maxRecDepth 20000 in
set_option maxHeartbeats 1000000 in
theorem wn_X7_hasStreet_2 (z : vz_Z) (μ : vz_M) (hc : vz_C z μ cX7_hasStreet RX7 0 4) {r : Int32} (σ : vz_I) (hret : ∀ (pc : Nat) (L : vz_L), vz_ret cX7_hasStreet (some .boolean) pc (some (.int r)) → vz_V z μ 0 0 pc L ((some (.int r)) : Option Value).toList vz_G0 σ vz_N0) : ∀ (n : Nat) (a0 : Nat) (x1 : Int32) (x2 : Int32) (x3 : Int32) (ha0 : (vz_G0 a0).1 = 7) (h : f_X7_hasStreet_2  n a0 x1 x2 x3 σ = some r), vz_V z μ 0 0 2 [(0, some (.ref a0)), (1, some (.int x1)), (2, some (.int x2)), (3, some (.int x3))] [] vz_G0 σ vz_N0 := by
  intro n
  induction n with
  | zero =>
    intro a0 x1 x2 x3 ha0 h
    cases h
  | succ n ih =>
    intro a0 x1 x2 x3 ha0 h
    rw [f_X7_hasStreet_2_s] at h
    refine vr_iload_n (pc := 2) hc dX7_hasStreet_2 rfl ?_
    refine vr_aload_n (pc := 3) hc dX7_hasStreet_3 rfl ?_
    refine vr_getI (pc := 4) hc dX7_hasStreet_4 fl_X7_36 ha0 (gi_7_1 ha0) ?_
    refine vr_icmp_ge (pc := 7) hc 58 dX7_hasStreet_7 (by decide) (fun hb1 => ?_) (fun hb1 => ?_)
    · rw [if_pos hb1] at h
      refine vr_iconst (pc := 58) hc dX7_hasStreet_58 (0 : Int32) (by decide) ?_
      obtain rfl := Option.some.inj h
      exact hret _ _ (vz_ret_i dX7_hasStreet_59 (by decide))
    · rw [if_neg hb1] at h
      refine vr_aload_n (pc := 10) hc dX7_hasStreet_10 rfl ?_
      refine vr_getR (pc := 11) hc dX7_hasStreet_11 fl_X7_23 ha0 (gr_7_7 ha0).1 ?_
      refine vr_iload_n (pc := 14) hc dX7_hasStreet_14 rfl ?_
      have hb2 := vz_ifp h
      rw [if_pos hb2] at h
      refine vr_iald (pc := 15) hc 9 dX7_hasStreet_15 ((gr_7_7 ha0).2.1) ((gr_7_7 ha0).2.2) (vz_in_vp hb2) ?_
      refine vr_iload_n (pc := 16) hc dX7_hasStreet_16 rfl ?_
      refine vr_icmp_ne (pc := 17) hc 30 dX7_hasStreet_17 (by decide) (fun hb3 => ?_) (fun hb3 => ?_)
      · rw [if_neg hb3] at h
        exact vz_sub (wn_X7_hasStreet_30 z μ hc σ hret (fun a0 x1 x2 x3 => f_X7_hasStreet_2 n a0 x1 x2 x3 σ) ih a0 x1 x2 x3 ha0 h) (vz_sb1 rfl (vz_sb1 rfl (vz_sb1 rfl (vz_sb1 rfl vz_sb0))))
      · rw [if_pos hb3] at h
        refine vr_aload_n (pc := 20) hc dX7_hasStreet_20 rfl ?_
        refine vr_getR (pc := 21) hc dX7_hasStreet_21 fl_X7_27 ha0 (gr_7_8 ha0).1 ?_
        refine vr_iload_n (pc := 24) hc dX7_hasStreet_24 rfl ?_
        have hb8 := vz_ifp h
        rw [if_pos hb8] at h
        refine vr_iald (pc := 25) hc 9 dX7_hasStreet_25 ((gr_7_8 ha0).2.1) ((gr_7_8 ha0).2.2) (vz_in_vp hb8) ?_
        refine vr_iload_n (pc := 26) hc dX7_hasStreet_26 rfl ?_
        refine vr_icmp_eq (pc := 27) hc 50 dX7_hasStreet_27 (by decide) (fun hb9 => ?_) (fun hb9 => ?_)
        · rw [if_pos hb9] at h
          refine vr_iconst (pc := 50) hc dX7_hasStreet_50 (1 : Int32) (by decide) ?_
          obtain rfl := Option.some.inj h
          exact hret _ _ (vz_ret_i dX7_hasStreet_51 (by decide))
        · rw [if_neg hb9] at h
          exact vz_sub (wn_X7_hasStreet_30 z μ hc σ hret (fun a0 x1 x2 x3 => f_X7_hasStreet_2 n a0 x1 x2 x3 σ) ih a0 x1 x2 x3 ha0 h) (vz_sb1 rfl (vz_sb1 rfl (vz_sb1 rfl (vz_sb1 rfl vz_sb0))))
def f_X7_hasStreet (a0 : Nat) (x1 : Int32) (x2 : Int32) (σ : vz_I) : Option Int32 := f_X7_hasStreet_2 vz_fu a0 x1 x2 (0 : Int32) σ
set_option maxRecDepth 20000 in
set_option maxHeartbeats 1000000 in
theorem w_X7_hasStreet (z : vz_Z) (l : Launch) (a0 : Nat) (x1 : Int32) (x2 : Int32) (σ : vz_I) (ha0 : (vz_G0 a0).1 = 7) {r : Int32} (h : f_X7_hasStreet a0 x1 x2 σ = some r) : vz_Con z l 0 yX7_hasStreet cX7_hasStreet 4 (some .boolean) [.ref a0, .int x1, .int x2] vz_G0 σ vz_N0 (some (.int r)) vz_G0 σ vz_N0 0 0 := by
  refine vz_con (by decide) (Nat.le_of_ble_eq_true rfl) (fun μ hc hl hcap hret => ?_)
  subst hl
  unfold f_X7_hasStreet at h
  refine vr_iconst (pc := 0) hc dX7_hasStreet_0 (0 : Int32) (by decide) ?_
  refine vr_istore_n (pc := 1) hc dX7_hasStreet_1 (by decide) rfl ?_
  exact vz_sub (wn_X7_hasStreet_2 z μ hc σ hret vz_fu a0 x1 x2 (0 : Int32) ha0 h) (vz_sb1 rfl (vz_sb1 rfl (vz_sb1 rfl (vz_sb1 rfl vz_sb0))))
-- X7_weight: depth 0, effects S=True W=False P=True
def f_X7_weight_5 : Nat → Nat → Int32 → Int32 → Int64 → Int32 → vz_I → Option Int64
  | 0, _, _, _, _, _, _ => none
  | n + 1, a0, x1, x2, j3, x5, σ => if (σ a0 0) ≤ x5 then some j3 else if ((x2 >>> (x5 &&& 31)) &&& (1 : Int32)) = (1 : Int32) then f_X7_weight_5 n a0 x1 x2 (j3 * (((10 : Int32) - x1).toInt64)) (x5 + (1 : Int32)) σ else f_X7_weight_5 n a0 x1 x2 (j3 * x1.toInt64) (x5 + (1 : Int32)) σ
theorem f_X7_weight_5_s (n : Nat) (a0 : Nat) (x1 : Int32) (x2 : Int32) (j3 : Int64) (x5 : Int32) (σ : vz_I) : f_X7_weight_5  (n + 1) a0 x1 x2 j3 x5 σ = if (σ a0 0) ≤ x5 then some j3 else if ((x2 >>> (x5 &&& 31)) &&& (1 : Int32)) = (1 : Int32) then f_X7_weight_5 n a0 x1 x2 (j3 * (((10 : Int32) - x1).toInt64)) (x5 + (1 : Int32)) σ else f_X7_weight_5 n a0 x1 x2 (j3 * x1.toInt64) (x5 + (1 : Int32)) σ := rfl
set_option maxRecDepth 20000 in
set_option maxHeartbeats 1000000 in
theorem wn_X7_weight_5 (z : vz_Z) (μ : vz_M) (hc : vz_C z μ cX7_weight RX7 0 6) {r : Int64} (σ : vz_I) (hret : ∀ (pc : Nat) (L : vz_L), vz_ret cX7_weight (some .long) pc (some (.long r)) → vz_V z μ 0 0 pc L ((some (.long r)) : Option Value).toList vz_G0 σ vz_N0) : ∀ (n : Nat) (a0 : Nat) (x1 : Int32) (x2 : Int32) (j3 : Int64) (x5 : Int32) (ha0 : (vz_G0 a0).1 = 7) (h : f_X7_weight_5  n a0 x1 x2 j3 x5 σ = some r), vz_V z μ 0 0 5 [(0, some (.ref a0)), (1, some (.int x1)), (2, some (.int x2)), (3, some (.long j3)), (5, some (.int x5))] [] vz_G0 σ vz_N0 := by
  intro n
  induction n with
  | zero =>
    intro a0 x1 x2 j3 x5 ha0 h
    cases h
  | succ n ih =>
    intro a0 x1 x2 j3 x5 ha0 h
    rw [f_X7_weight_5_s] at h
    refine vr_iload (pc := 5) hc dX7_weight_5 rfl ?_
    refine vr_aload_n (pc := 7) hc dX7_weight_7 rfl ?_
    refine vr_getI (pc := 8) hc dX7_weight_8 fl_X7_32 ha0 (gi_7_0 ha0) ?_
    refine vr_icmp_ge (pc := 11) hc 43 dX7_weight_11 (by decide) (fun hb1 => ?_) (fun hb1 => ?_)
    · rw [if_pos hb1] at h
      refine vr_lload_n (pc := 43) hc dX7_weight_43 rfl ?_
      obtain rfl := Option.some.inj h
      exact hret _ _ (vz_ret_l dX7_weight_44)
    · rw [if_neg hb1] at h
      refine vr_lload_n (pc := 14) hc dX7_weight_14 rfl ?_
      refine vr_iload_n (pc := 15) hc dX7_weight_15 rfl ?_
      refine vr_iload (pc := 16) hc dX7_weight_16 rfl ?_
      refine vr_ishr (pc := 18) hc dX7_weight_18 ?_
      refine vr_iconst (pc := 19) hc dX7_weight_19 (1 : Int32) (by decide) ?_
      refine vr_iand (pc := 20) hc dX7_weight_20 ?_
      refine vr_iconst (pc := 21) hc dX7_weight_21 (1 : Int32) (by decide) ?_
      refine vr_icmp_ne (pc := 22) hc 33 dX7_weight_22 (by decide) (fun hb2 => ?_) (fun hb2 => ?_)
      · rw [if_neg hb2] at h
        refine vr_iload_n (pc := 33) hc dX7_weight_33 rfl ?_
        refine vr_i2l (pc := 34) hc dX7_weight_34 ?_
        refine vr_lmul (pc := 35) hc dX7_weight_35 ?_
        refine vr_lstore_n (pc := 36) hc dX7_weight_36 (by decide) rfl ?_
        refine vr_iinc (pc := 37) hc dX7_weight_37 (1 : Int32) (by decide) rfl (by decide) rfl ?_
        refine vr_goto (pc := 40) hc 5 dX7_weight_40 (by decide) ?_
        exact vz_sub (ih a0 x1 x2 (j3 * x1.toInt64) (x5 + (1 : Int32))  ha0 h) (vz_sb1 rfl (vz_sb1 rfl (vz_sb1 rfl (vz_sb1 rfl (vz_sb1 rfl vz_sb0)))))
      · rw [if_pos hb2] at h
        refine vr_bipush (pc := 25) hc dX7_weight_25 (10 : Int32) (by decide) ?_
        refine vr_iload_n (pc := 27) hc dX7_weight_27 rfl ?_
        refine vr_isub (pc := 28) hc dX7_weight_28 ?_
        refine vr_i2l (pc := 29) hc dX7_weight_29 ?_
        refine vr_goto (pc := 30) hc 35 dX7_weight_30 (by decide) ?_
        refine vr_lmul (pc := 35) hc dX7_weight_35 ?_
        refine vr_lstore_n (pc := 36) hc dX7_weight_36 (by decide) rfl ?_
        refine vr_iinc (pc := 37) hc dX7_weight_37 (1 : Int32) (by decide) rfl (by decide) rfl ?_
        refine vr_goto (pc := 40) hc 5 dX7_weight_40 (by decide) ?_
        exact vz_sub (ih a0 x1 x2 (j3 * (((10 : Int32) - x1).toInt64)) (x5 + (1 : Int32))  ha0 h) (vz_sb1 rfl (vz_sb1 rfl (vz_sb1 rfl (vz_sb1 rfl (vz_sb1 rfl vz_sb0)))))
def f_X7_weight (a0 : Nat) (x1 : Int32) (x2 : Int32) (σ : vz_I) : Option Int64 := f_X7_weight_5 vz_fu a0 x1 x2 (1 : Int64) (0 : Int32) σ
set_option maxRecDepth 20000 in
set_option maxHeartbeats 1000000 in
theorem w_X7_weight (z : vz_Z) (l : Launch) (a0 : Nat) (x1 : Int32) (x2 : Int32) (σ : vz_I) (ha0 : (vz_G0 a0).1 = 7) {r : Int64} (h : f_X7_weight a0 x1 x2 σ = some r) : vz_Con z l 0 yX7_weight cX7_weight 6 (some .long) [.ref a0, .int x1, .int x2] vz_G0 σ vz_N0 (some (.long r)) vz_G0 σ vz_N0 0 0 := by
  refine vz_con (by decide) (Nat.le_of_ble_eq_true rfl) (fun μ hc hl hcap hret => ?_)
  subst hl
  unfold f_X7_weight at h
  refine vr_lconst (pc := 0) hc dX7_weight_0 (1 : Int64) (by decide) ?_
  refine vr_lstore_n (pc := 1) hc dX7_weight_1 (by decide) rfl ?_
  refine vr_iconst (pc := 2) hc dX7_weight_2 (0 : Int32) (by decide) ?_
  refine vr_istore (pc := 3) hc dX7_weight_3 (by decide) rfl ?_
  exact vz_sub (wn_X7_weight_5 z μ hc σ hret vz_fu a0 x1 x2 (1 : Int64) (0 : Int32) ha0 h) (vz_sb1 rfl (vz_sb1 rfl (vz_sb1 rfl (vz_sb1 rfl (vz_sb1 rfl vz_sb0)))))
-- X7_weightOfAll: depth 0, effects S=True W=False P=True
def f_X7_weightOfAll_4 : Nat → Nat → Int64 → Int32 → vz_I → Option Int64
  | 0, _, _, _, _ => none
  | n + 1, a0, j1, x3, σ => if (σ a0 0) ≤ x3 then some j1 else f_X7_weightOfAll_4 n a0 (j1 * (10 : Int64)) (x3 + (1 : Int32)) σ
theorem f_X7_weightOfAll_4_s (n : Nat) (a0 : Nat) (j1 : Int64) (x3 : Int32) (σ : vz_I) : f_X7_weightOfAll_4  (n + 1) a0 j1 x3 σ = if (σ a0 0) ≤ x3 then some j1 else f_X7_weightOfAll_4 n a0 (j1 * (10 : Int64)) (x3 + (1 : Int32)) σ := rfl
set_option maxRecDepth 20000 in
set_option maxHeartbeats 1000000 in
theorem wn_X7_weightOfAll_4 (z : vz_Z) (μ : vz_M) (hc : vz_C z μ cX7_weightOfAll RX7 0 4) {r : Int64} (σ : vz_I) (hret : ∀ (pc : Nat) (L : vz_L), vz_ret cX7_weightOfAll (some .long) pc (some (.long r)) → vz_V z μ 0 0 pc L ((some (.long r)) : Option Value).toList vz_G0 σ vz_N0) : ∀ (n : Nat) (a0 : Nat) (j1 : Int64) (x3 : Int32) (ha0 : (vz_G0 a0).1 = 7) (h : f_X7_weightOfAll_4  n a0 j1 x3 σ = some r), vz_V z μ 0 0 4 [(0, some (.ref a0)), (1, some (.long j1)), (3, some (.int x3))] [] vz_G0 σ vz_N0 := by
  intro n
  induction n with
  | zero =>
    intro a0 j1 x3 ha0 h
    cases h
  | succ n ih =>
    intro a0 j1 x3 ha0 h
    rw [f_X7_weightOfAll_4_s] at h
    refine vr_iload_n (pc := 4) hc dX7_weightOfAll_4 rfl ?_
    refine vr_aload_n (pc := 5) hc dX7_weightOfAll_5 rfl ?_
    refine vr_getI (pc := 6) hc dX7_weightOfAll_6 fl_X7_32 ha0 (gi_7_0 ha0) ?_
    refine vr_icmp_ge (pc := 9) hc 24 dX7_weightOfAll_9 (by decide) (fun hb1 => ?_) (fun hb1 => ?_)
    · rw [if_pos hb1] at h
      refine vr_lload_n (pc := 24) hc dX7_weightOfAll_24 rfl ?_
      obtain rfl := Option.some.inj h
      exact hret _ _ (vz_ret_l dX7_weightOfAll_25)
    · rw [if_neg hb1] at h
      refine vr_lload_n (pc := 12) hc dX7_weightOfAll_12 rfl ?_
      refine vr_ldc2 (pc := 13) hc dX7_weightOfAll_13 (10 : Int64) cl_X7_135 ?_
      refine vr_lmul (pc := 16) hc dX7_weightOfAll_16 ?_
      refine vr_lstore_n (pc := 17) hc dX7_weightOfAll_17 (by decide) rfl ?_
      refine vr_iinc (pc := 18) hc dX7_weightOfAll_18 (1 : Int32) (by decide) rfl (by decide) rfl ?_
      refine vr_goto (pc := 21) hc 4 dX7_weightOfAll_21 (by decide) ?_
      exact vz_sub (ih a0 (j1 * (10 : Int64)) (x3 + (1 : Int32))  ha0 h) (vz_sb1 rfl (vz_sb1 rfl (vz_sb1 rfl vz_sb0)))
def f_X7_weightOfAll (a0 : Nat) (σ : vz_I) : Option Int64 := f_X7_weightOfAll_4 vz_fu a0 (1 : Int64) (0 : Int32) σ
set_option maxRecDepth 20000 in
set_option maxHeartbeats 1000000 in
theorem w_X7_weightOfAll (z : vz_Z) (l : Launch) (a0 : Nat) (σ : vz_I) (ha0 : (vz_G0 a0).1 = 7) {r : Int64} (h : f_X7_weightOfAll a0 σ = some r) : vz_Con z l 0 yX7_weightOfAll cX7_weightOfAll 4 (some .long) [.ref a0] vz_G0 σ vz_N0 (some (.long r)) vz_G0 σ vz_N0 0 0 := by
  refine vz_con (by decide) (Nat.le_of_ble_eq_true rfl) (fun μ hc hl hcap hret => ?_)
  subst hl
  unfold f_X7_weightOfAll at h
  refine vr_lconst (pc := 0) hc dX7_weightOfAll_0 (1 : Int64) (by decide) ?_
  refine vr_lstore_n (pc := 1) hc dX7_weightOfAll_1 (by decide) rfl ?_
  refine vr_iconst (pc := 2) hc dX7_weightOfAll_2 (0 : Int32) (by decide) ?_
  refine vr_istore_n (pc := 3) hc dX7_weightOfAll_3 (by decide) rfl ?_
  exact vz_sub (wn_X7_weightOfAll_4 z μ hc σ hret vz_fu a0 (1 : Int64) (0 : Int32) ha0 h) (vz_sb1 rfl (vz_sb1 rfl (vz_sb1 rfl vz_sb0)))
-- X7_cornersOfAllWalks: depth 0, effects S=True W=False P=True
def f_X7_cornersOfAllWalks_4 : Nat → Nat → Int32 → Int32 → vz_I → Option Int32
  | 0, _, _, _, _ => none
  | n + 1, a0, x1, x2, σ => if (σ a0 0) ≤ x2 then some x1 else if vz_in x2 4 then f_X7_cornersOfAllWalks_4 n a0 (x1 + (σ (a0 + 5 + 2 * x2.toNatClampNeg) 2)) (x2 + (1 : Int32)) σ else none
theorem f_X7_cornersOfAllWalks_4_s (n : Nat) (a0 : Nat) (x1 : Int32) (x2 : Int32) (σ : vz_I) : f_X7_cornersOfAllWalks_4  (n + 1) a0 x1 x2 σ = if (σ a0 0) ≤ x2 then some x1 else if vz_in x2 4 then f_X7_cornersOfAllWalks_4 n a0 (x1 + (σ (a0 + 5 + 2 * x2.toNatClampNeg) 2)) (x2 + (1 : Int32)) σ else none := rfl
set_option maxRecDepth 20000 in
set_option maxHeartbeats 1000000 in
theorem wn_X7_cornersOfAllWalks_4 (z : vz_Z) (μ : vz_M) (hc : vz_C z μ cX7_cornersOfAllWalks RX7 0 3) {r : Int32} (σ : vz_I) (hret : ∀ (pc : Nat) (L : vz_L), vz_ret cX7_cornersOfAllWalks (some .int) pc (some (.int r)) → vz_V z μ 0 0 pc L ((some (.int r)) : Option Value).toList vz_G0 σ vz_N0) : ∀ (n : Nat) (a0 : Nat) (x1 : Int32) (x2 : Int32) (ha0 : (vz_G0 a0).1 = 7) (h : f_X7_cornersOfAllWalks_4  n a0 x1 x2 σ = some r), vz_V z μ 0 0 4 [(0, some (.ref a0)), (1, some (.int x1)), (2, some (.int x2))] [] vz_G0 σ vz_N0 := by
  intro n
  induction n with
  | zero =>
    intro a0 x1 x2 ha0 h
    cases h
  | succ n ih =>
    intro a0 x1 x2 ha0 h
    rw [f_X7_cornersOfAllWalks_4_s] at h
    refine vr_iload_n (pc := 4) hc dX7_cornersOfAllWalks_4 rfl ?_
    refine vr_aload_n (pc := 5) hc dX7_cornersOfAllWalks_5 rfl ?_
    refine vr_getI (pc := 6) hc dX7_cornersOfAllWalks_6 fl_X7_32 ha0 (gi_7_0 ha0) ?_
    refine vr_icmp_ge (pc := 9) hc 30 dX7_cornersOfAllWalks_9 (by decide) (fun hb1 => ?_) (fun hb1 => ?_)
    · rw [if_pos hb1] at h
      refine vr_iload_n (pc := 30) hc dX7_cornersOfAllWalks_30 rfl ?_
      obtain rfl := Option.some.inj h
      exact hret _ _ (vz_ret_i dX7_cornersOfAllWalks_31 rfl)
    · rw [if_neg hb1] at h
      refine vr_iload_n (pc := 12) hc dX7_cornersOfAllWalks_12 rfl ?_
      refine vr_aload_n (pc := 13) hc dX7_cornersOfAllWalks_13 rfl ?_
      refine vr_getR (pc := 14) hc dX7_cornersOfAllWalks_14 fl_X7_11 ha0 (gr_7_5 ha0).1 ?_
      refine vr_iload_n (pc := 17) hc dX7_cornersOfAllWalks_17 rfl ?_
      have hb2 := vz_ifp h
      rw [if_pos hb2] at h
      refine vr_aald (pc := 18) hc 13 4 dX7_cornersOfAllWalks_18 ((gr_7_5 ha0).2.1) (by decide) (by decide) ((gr_7_5 ha0).2.2) (vz_in_vp hb2) (ge_13 ha0 (vz_in_lt hb2)).1 ?_
      refine vr_getI (pc := 19) hc dX7_cornersOfAllWalks_19 fl_X7_62 ((ge_13 ha0 (vz_in_lt hb2)).2) (gi_0_2 ((ge_13 ha0 (vz_in_lt hb2)).2)) ?_
      refine vr_iadd (pc := 22) hc dX7_cornersOfAllWalks_22 ?_
      refine vr_istore_n (pc := 23) hc dX7_cornersOfAllWalks_23 (by decide) rfl ?_
      refine vr_iinc (pc := 24) hc dX7_cornersOfAllWalks_24 (1 : Int32) (by decide) rfl (by decide) rfl ?_
      refine vr_goto (pc := 27) hc 4 dX7_cornersOfAllWalks_27 (by decide) ?_
      exact vz_sub (ih a0 (x1 + (σ (a0 + 5 + 2 * x2.toNatClampNeg) 2)) (x2 + (1 : Int32))  ha0 h) (vz_sb1 rfl (vz_sb1 rfl (vz_sb1 rfl vz_sb0)))
def f_X7_cornersOfAllWalks (a0 : Nat) (σ : vz_I) : Option Int32 := f_X7_cornersOfAllWalks_4 vz_fu a0 (0 : Int32) (0 : Int32) σ
set_option maxRecDepth 20000 in
set_option maxHeartbeats 1000000 in
theorem w_X7_cornersOfAllWalks (z : vz_Z) (l : Launch) (a0 : Nat) (σ : vz_I) (ha0 : (vz_G0 a0).1 = 7) {r : Int32} (h : f_X7_cornersOfAllWalks a0 σ = some r) : vz_Con z l 0 yX7_cornersOfAllWalks cX7_cornersOfAllWalks 3 (some .int) [.ref a0] vz_G0 σ vz_N0 (some (.int r)) vz_G0 σ vz_N0 0 0 := by
  refine vz_con (by decide) (Nat.le_of_ble_eq_true rfl) (fun μ hc hl hcap hret => ?_)
  subst hl
  unfold f_X7_cornersOfAllWalks at h
  refine vr_iconst (pc := 0) hc dX7_cornersOfAllWalks_0 (0 : Int32) (by decide) ?_
  refine vr_istore_n (pc := 1) hc dX7_cornersOfAllWalks_1 (by decide) rfl ?_
  refine vr_iconst (pc := 2) hc dX7_cornersOfAllWalks_2 (0 : Int32) (by decide) ?_
  refine vr_istore_n (pc := 3) hc dX7_cornersOfAllWalks_3 (by decide) rfl ?_
  exact vz_sub (wn_X7_cornersOfAllWalks_4 z μ hc σ hret vz_fu a0 (0 : Int32) (0 : Int32) ha0 h) (vz_sb1 rfl (vz_sb1 rfl (vz_sb1 rfl vz_sb0)))
-- X7_minutesOfAllReaders: depth 0, effects S=True W=False P=True
def f_X7_minutesOfAllReaders_4 : Nat → Nat → Int32 → Int32 → vz_I → Option Int32
  | 0, _, _, _, _ => none
  | n + 1, a0, x1, x2, σ => if (σ a0 2) ≤ x2 then some x1 else if vz_in x2 4 then if vz_in x2 4 then vz_let (x1 + (((σ (a0 + 13 + x2.toNatClampNeg) 2) - (σ (a0 + 13 + x2.toNatClampNeg) 1)) + (1 : Int32))) (fun x4 => f_X7_minutesOfAllReaders_4 n a0 x4 (x2 + (1 : Int32)) σ) else none else none
theorem f_X7_minutesOfAllReaders_4_s (n : Nat) (a0 : Nat) (x1 : Int32) (x2 : Int32) (σ : vz_I) : f_X7_minutesOfAllReaders_4  (n + 1) a0 x1 x2 σ = if (σ a0 2) ≤ x2 then some x1 else if vz_in x2 4 then if vz_in x2 4 then vz_let (x1 + (((σ (a0 + 13 + x2.toNatClampNeg) 2) - (σ (a0 + 13 + x2.toNatClampNeg) 1)) + (1 : Int32))) (fun x4 => f_X7_minutesOfAllReaders_4 n a0 x4 (x2 + (1 : Int32)) σ) else none else none := rfl
set_option maxRecDepth 20000 in
set_option maxHeartbeats 1000000 in
theorem wn_X7_minutesOfAllReaders_4 (z : vz_Z) (μ : vz_M) (hc : vz_C z μ cX7_minutesOfAllReaders RX7 0 3) {r : Int32} (σ : vz_I) (hret : ∀ (pc : Nat) (L : vz_L), vz_ret cX7_minutesOfAllReaders (some .int) pc (some (.int r)) → vz_V z μ 0 0 pc L ((some (.int r)) : Option Value).toList vz_G0 σ vz_N0) : ∀ (n : Nat) (a0 : Nat) (x1 : Int32) (x2 : Int32) (ha0 : (vz_G0 a0).1 = 7) (h : f_X7_minutesOfAllReaders_4  n a0 x1 x2 σ = some r), vz_V z μ 0 0 4 [(0, some (.ref a0)), (1, some (.int x1)), (2, some (.int x2))] [] vz_G0 σ vz_N0 := by
  intro n
  induction n with
  | zero =>
    intro a0 x1 x2 ha0 h
    cases h
  | succ n ih =>
    intro a0 x1 x2 ha0 h
    rw [f_X7_minutesOfAllReaders_4_s] at h
    refine vr_iload_n (pc := 4) hc dX7_minutesOfAllReaders_4 rfl ?_
    refine vr_aload_n (pc := 5) hc dX7_minutesOfAllReaders_5 rfl ?_
    refine vr_getI (pc := 6) hc dX7_minutesOfAllReaders_6 fl_X7_39 ha0 (gi_7_2 ha0) ?_
    refine vr_icmp_ge (pc := 9) hc 42 dX7_minutesOfAllReaders_9 (by decide) (fun hb1 => ?_) (fun hb1 => ?_)
    · rw [if_pos hb1] at h
      refine vr_iload_n (pc := 42) hc dX7_minutesOfAllReaders_42 rfl ?_
      obtain rfl := Option.some.inj h
      exact hret _ _ (vz_ret_i dX7_minutesOfAllReaders_43 rfl)
    · rw [if_neg hb1] at h
      refine vr_iload_n (pc := 12) hc dX7_minutesOfAllReaders_12 rfl ?_
      refine vr_aload_n (pc := 13) hc dX7_minutesOfAllReaders_13 rfl ?_
      refine vr_getR (pc := 14) hc dX7_minutesOfAllReaders_14 fl_X7_19 ha0 (gr_7_6 ha0).1 ?_
      refine vr_iload_n (pc := 17) hc dX7_minutesOfAllReaders_17 rfl ?_
      have hb2 := vz_ifp h
      rw [if_pos hb2] at h
      refine vr_aald (pc := 18) hc 14 4 dX7_minutesOfAllReaders_18 ((gr_7_6 ha0).2.1) (by decide) (by decide) ((gr_7_6 ha0).2.2) (vz_in_vp hb2) (ge_14 ha0 (vz_in_lt hb2)).1 ?_
      refine vr_getI (pc := 19) hc dX7_minutesOfAllReaders_19 fl_X7_79 ((ge_14 ha0 (vz_in_lt hb2)).2) (gi_3_2 ((ge_14 ha0 (vz_in_lt hb2)).2)) ?_
      refine vr_aload_n (pc := 22) hc dX7_minutesOfAllReaders_22 rfl ?_
      refine vr_getR (pc := 23) hc dX7_minutesOfAllReaders_23 fl_X7_19 ha0 (gr_7_6 ha0).1 ?_
      refine vr_iload_n (pc := 26) hc dX7_minutesOfAllReaders_26 rfl ?_
      have hb3 := vz_ifp h
      rw [if_pos hb3] at h
      refine vr_aald (pc := 27) hc 14 4 dX7_minutesOfAllReaders_27 ((gr_7_6 ha0).2.1) (by decide) (by decide) ((gr_7_6 ha0).2.2) (vz_in_vp hb3) (ge_14 ha0 (vz_in_lt hb3)).1 ?_
      refine vr_getI (pc := 28) hc dX7_minutesOfAllReaders_28 fl_X7_76 ((ge_14 ha0 (vz_in_lt hb3)).2) (gi_3_1 ((ge_14 ha0 (vz_in_lt hb3)).2)) ?_
      refine vr_isub (pc := 31) hc dX7_minutesOfAllReaders_31 ?_
      refine vr_iconst (pc := 32) hc dX7_minutesOfAllReaders_32 (1 : Int32) (by decide) ?_
      refine vr_iadd (pc := 33) hc dX7_minutesOfAllReaders_33 ?_
      refine vr_iadd (pc := 34) hc dX7_minutesOfAllReaders_34 ?_
      obtain ⟨x4, hx5⟩ : ∃ x, x = x1 + (((σ (a0 + 13 + x2.toNatClampNeg) 2) - (σ (a0 + 13 + x2.toNatClampNeg) 1)) + (1 : Int32)) := ⟨_, rfl⟩
      rw [← hx5] at h ⊢
      rw [vz_let_e] at h
      refine vr_istore_n (pc := 35) hc dX7_minutesOfAllReaders_35 (by decide) rfl ?_
      refine vr_iinc (pc := 36) hc dX7_minutesOfAllReaders_36 (1 : Int32) (by decide) rfl (by decide) rfl ?_
      refine vr_goto (pc := 39) hc 4 dX7_minutesOfAllReaders_39 (by decide) ?_
      exact vz_sub (ih a0 x4 (x2 + (1 : Int32))  ha0 h) (vz_sb1 rfl (vz_sb1 rfl (vz_sb1 rfl vz_sb0)))
def f_X7_minutesOfAllReaders (a0 : Nat) (σ : vz_I) : Option Int32 := f_X7_minutesOfAllReaders_4 vz_fu a0 (0 : Int32) (0 : Int32) σ
set_option maxRecDepth 20000 in
set_option maxHeartbeats 1000000 in
theorem w_X7_minutesOfAllReaders (z : vz_Z) (l : Launch) (a0 : Nat) (σ : vz_I) (ha0 : (vz_G0 a0).1 = 7) {r : Int32} (h : f_X7_minutesOfAllReaders a0 σ = some r) : vz_Con z l 0 yX7_minutesOfAllReaders cX7_minutesOfAllReaders 3 (some .int) [.ref a0] vz_G0 σ vz_N0 (some (.int r)) vz_G0 σ vz_N0 0 0 := by
  refine vz_con (by decide) (Nat.le_of_ble_eq_true rfl) (fun μ hc hl hcap hret => ?_)
  subst hl
  unfold f_X7_minutesOfAllReaders at h
  refine vr_iconst (pc := 0) hc dX7_minutesOfAllReaders_0 (0 : Int32) (by decide) ?_
  refine vr_istore_n (pc := 1) hc dX7_minutesOfAllReaders_1 (by decide) rfl ?_
  refine vr_iconst (pc := 2) hc dX7_minutesOfAllReaders_2 (0 : Int32) (by decide) ?_
  refine vr_istore_n (pc := 3) hc dX7_minutesOfAllReaders_3 (by decide) rfl ?_
  exact vz_sub (wn_X7_minutesOfAllReaders_4 z μ hc σ hret vz_fu a0 (0 : Int32) (0 : Int32) ha0 h) (vz_sb1 rfl (vz_sb1 rfl (vz_sb1 rfl vz_sb0)))
-- X8_fault: depth 0, effects S=True W=False P=False
def f_X8_fault  (σ : vz_I) : Int32 := σ 1 7
set_option maxRecDepth 20000 in
set_option maxHeartbeats 1000000 in
theorem w_X8_fault (z : vz_Z) (l : Launch)  (σ : vz_I)  {r : Int32} (h : f_X8_fault  σ = r) : vz_Con z l 0 yX8_fault cX8_fault 1 (some .int) [.ref 0] vz_G0 σ vz_N0 (some (.int r)) vz_G0 σ vz_N0 0 0 := by
  refine vz_con (by decide) (Nat.le_of_ble_eq_true rfl) (fun μ hc hl hcap hret => ?_)
  subst hl
  unfold f_X8_fault at h
  refine vr_aload_n (pc := 0) hc dX8_fault_0 rfl ?_
  refine vr_getR (pc := 1) hc dX8_fault_1 fl_X8_12 gc_0 (gr_8_0 gc_0).1 ?_
  refine vr_getI (pc := 4) hc dX8_fault_4 fl_X8_104 ((gr_8_0 gc_0).2.1) (gi_6_7 ((gr_8_0 gc_0).2.1)) ?_
  subst h
  exact hret _ _ (vz_ret_i dX8_fault_7 rfl)
-- X8_torn: depth 0, effects S=True W=False P=False
def f_X8_torn  (σ : vz_I) : Int32 := σ 0 10
set_option maxRecDepth 20000 in
set_option maxHeartbeats 1000000 in
theorem w_X8_torn (z : vz_Z) (l : Launch)  (σ : vz_I)  {r : Int32} (h : f_X8_torn  σ = r) : vz_Con z l 0 yX8_torn cX8_torn 1 (some .int) [.ref 0] vz_G0 σ vz_N0 (some (.int r)) vz_G0 σ vz_N0 0 0 := by
  refine vz_con (by decide) (Nat.le_of_ble_eq_true rfl) (fun μ hc hl hcap hret => ?_)
  subst hl
  unfold f_X8_torn at h
  refine vr_aload_n (pc := 0) hc dX8_torn_0 rfl ?_
  refine vr_getI (pc := 1) hc dX8_torn_1 fl_X8_65 gc_0 (gi_8_10 gc_0) ?_
  subst h
  exact hret _ _ (vz_ret_i dX8_torn_4 rfl)
-- X8_isWithin: depth 0, effects S=False W=False P=False
def f_X8_isWithin (x0 : Int32) (x1 : Int32) (x2 : Int32)  : Int32 := if x0 < x1 then (0 : Int32) else if x2 < x0 then (0 : Int32) else (1 : Int32)
set_option maxRecDepth 20000 in
set_option maxHeartbeats 1000000 in
theorem w_X8_isWithin (z : vz_Z) (l : Launch) (x0 : Int32) (x1 : Int32) (x2 : Int32) (σ : vz_I)  {r : Int32} (h : f_X8_isWithin x0 x1 x2  = r) : vz_Con z l 0 yX8_isWithin cX8_isWithin 3 (some .boolean) [.int x0, .int x1, .int x2] vz_G0 σ vz_N0 (some (.int r)) vz_G0 σ vz_N0 0 0 := by
  refine vz_con (by decide) (Nat.le_of_ble_eq_true rfl) (fun μ hc hl hcap hret => ?_)
  subst hl
  unfold f_X8_isWithin at h
  refine vr_iload_n (pc := 0) hc dX8_isWithin_0 rfl ?_
  refine vr_iload_n (pc := 1) hc dX8_isWithin_1 rfl ?_
  refine vr_icmp_lt (pc := 2) hc 14 dX8_isWithin_2 (by decide) (fun hb1 => ?_) (fun hb1 => ?_)
  · rw [if_pos hb1] at h
    refine vr_iconst (pc := 14) hc dX8_isWithin_14 (0 : Int32) (by decide) ?_
    subst h
    exact hret _ _ (vz_ret_i dX8_isWithin_15 (by decide))
  · rw [if_neg hb1] at h
    refine vr_iload_n (pc := 5) hc dX8_isWithin_5 rfl ?_
    refine vr_iload_n (pc := 6) hc dX8_isWithin_6 rfl ?_
    refine vr_icmp_gt (pc := 7) hc 14 dX8_isWithin_7 (by decide) (fun hb2 => ?_) (fun hb2 => ?_)
    · rw [if_pos hb2] at h
      refine vr_iconst (pc := 14) hc dX8_isWithin_14 (0 : Int32) (by decide) ?_
      subst h
      exact hret _ _ (vz_ret_i dX8_isWithin_15 (by decide))
    · rw [if_neg hb2] at h
      refine vr_iconst (pc := 10) hc dX8_isWithin_10 (1 : Int32) (by decide) ?_
      refine vr_goto (pc := 11) hc 15 dX8_isWithin_11 (by decide) ?_
      subst h
      exact hret _ _ (vz_ret_i dX8_isWithin_15 (by decide))
theorem bn_X8_isWithin (x0 : Int32) (x1 : Int32) (x2 : Int32)  : narrow .boolean (.int (f_X8_isWithin x0 x1 x2 )) = .int (f_X8_isWithin x0 x1 x2 ) := by
  unfold f_X8_isWithin
  (repeat' split) <;> rfl
-- X8_isEither: depth 0, effects S=False W=False P=False
def f_X8_isEither (x0 : Int32)  : Int32 := if x0 = 0 then (1 : Int32) else if x0 = (1 : Int32) then (1 : Int32) else (0 : Int32)
set_option maxRecDepth 20000 in
set_option maxHeartbeats 1000000 in
theorem w_X8_isEither (z : vz_Z) (l : Launch) (x0 : Int32) (σ : vz_I)  {r : Int32} (h : f_X8_isEither x0  = r) : vz_Con z l 0 yX8_isEither cX8_isEither 1 (some .boolean) [.int x0] vz_G0 σ vz_N0 (some (.int r)) vz_G0 σ vz_N0 0 0 := by
  refine vz_con (by decide) (Nat.le_of_ble_eq_true rfl) (fun μ hc hl hcap hret => ?_)
  subst hl
  unfold f_X8_isEither at h
  refine vr_iload_n (pc := 0) hc dX8_isEither_0 rfl ?_
  refine vr_if_eq (pc := 1) hc 9 dX8_isEither_1 (by decide) (fun hb1 => ?_) (fun hb1 => ?_)
  · rw [if_pos hb1] at h
    refine vr_iconst (pc := 9) hc dX8_isEither_9 (1 : Int32) (by decide) ?_
    refine vr_goto (pc := 10) hc 14 dX8_isEither_10 (by decide) ?_
    subst h
    exact hret _ _ (vz_ret_i dX8_isEither_14 (by decide))
  · rw [if_neg hb1] at h
    refine vr_iload_n (pc := 4) hc dX8_isEither_4 rfl ?_
    refine vr_iconst (pc := 5) hc dX8_isEither_5 (1 : Int32) (by decide) ?_
    refine vr_icmp_ne (pc := 6) hc 13 dX8_isEither_6 (by decide) (fun hb2 => ?_) (fun hb2 => ?_)
    · rw [if_neg hb2] at h
      refine vr_iconst (pc := 13) hc dX8_isEither_13 (0 : Int32) (by decide) ?_
      subst h
      exact hret _ _ (vz_ret_i dX8_isEither_14 (by decide))
    · rw [if_pos hb2] at h
      refine vr_iconst (pc := 9) hc dX8_isEither_9 (1 : Int32) (by decide) ?_
      refine vr_goto (pc := 10) hc 14 dX8_isEither_10 (by decide) ?_
      subst h
      exact hret _ _ (vz_ret_i dX8_isEither_14 (by decide))
theorem bn_X8_isEither (x0 : Int32)  : narrow .boolean (.int (f_X8_isEither x0 )) = .int (f_X8_isEither x0 ) := by
  unfold f_X8_isEither
  (repeat' split) <;> rfl
-- X8_span: depth 0, effects S=False W=False P=False
def f_X8_span (x0 : Int32) (x1 : Int32)  : Int64 := ((1152921504606846975 : Int64) <<< (x0.toInt64 &&& 63)) &&& (((1152921504606846975 : Int64).toUInt64 >>> (((59 : Int32) - x1).toInt64.toUInt64 &&& Int64.toUInt64 63)).toInt64)
set_option maxRecDepth 20000 in
set_option maxHeartbeats 1000000 in
theorem w_X8_span (z : vz_Z) (l : Launch) (x0 : Int32) (x1 : Int32) (σ : vz_I)  {r : Int64} (h : f_X8_span x0 x1  = r) : vz_Con z l 0 yX8_span cX8_span 2 (some .long) [.int x0, .int x1] vz_G0 σ vz_N0 (some (.long r)) vz_G0 σ vz_N0 0 0 := by
  refine vz_con (by decide) (Nat.le_of_ble_eq_true rfl) (fun μ hc hl hcap hret => ?_)
  subst hl
  unfold f_X8_span at h
  refine vr_ldc2 (pc := 0) hc dX8_span_0 (1152921504606846975 : Int64) cl_X8_249 ?_
  refine vr_iload_n (pc := 3) hc dX8_span_3 rfl ?_
  refine vr_lshl (pc := 4) hc dX8_span_4 ?_
  refine vr_ldc2 (pc := 5) hc dX8_span_5 (1152921504606846975 : Int64) cl_X8_249 ?_
  refine vr_bipush (pc := 8) hc dX8_span_8 (59 : Int32) (by decide) ?_
  refine vr_iload_n (pc := 10) hc dX8_span_10 rfl ?_
  refine vr_isub (pc := 11) hc dX8_span_11 ?_
  refine vr_lushr (pc := 12) hc dX8_span_12 ?_
  refine vr_land (pc := 13) hc dX8_span_13 ?_
  subst h
  exact hret _ _ (vz_ret_l dX8_span_14)
-- X8_repeated: depth 0, effects S=False W=False P=True
def f_X8_repeated_2 : Nat → Int64 → Int32 → Option Int64
  | 0, _, _ => none
  | n + 1, j0, x3 => if x3 ≤ 0 then some (j0 &&& (1152921504606846975 : Int64)) else if (60 : Int32) ≤ x3 then some (j0 &&& (1152921504606846975 : Int64)) else f_X8_repeated_2 n (j0 ||| (j0 <<< (x3.toInt64 &&& 63))) (x3 * (2 : Int32))
theorem f_X8_repeated_2_s (n : Nat) (j0 : Int64) (x3 : Int32)  : f_X8_repeated_2  (n + 1) j0 x3  = if x3 ≤ 0 then some (j0 &&& (1152921504606846975 : Int64)) else if (60 : Int32) ≤ x3 then some (j0 &&& (1152921504606846975 : Int64)) else f_X8_repeated_2 n (j0 ||| (j0 <<< (x3.toInt64 &&& 63))) (x3 * (2 : Int32)) := rfl
set_option maxRecDepth 20000 in
set_option maxHeartbeats 1000000 in
theorem wn_X8_repeated_2 (z : vz_Z) (μ : vz_M) (hc : vz_C z μ cX8_repeated RX8 0 4) {r : Int64} (σ : vz_I) (hret : ∀ (pc : Nat) (L : vz_L), vz_ret cX8_repeated (some .long) pc (some (.long r)) → vz_V z μ 0 0 pc L ((some (.long r)) : Option Value).toList vz_G0 σ vz_N0) : ∀ (n : Nat) (j0 : Int64) (x3 : Int32)  (h : f_X8_repeated_2  n j0 x3  = some r), vz_V z μ 0 0 2 [(0, some (.long j0)), (3, some (.int x3))] [] vz_G0 σ vz_N0 := by
  intro n
  induction n with
  | zero =>
    intro j0 x3 h
    cases h
  | succ n ih =>
    intro j0 x3 h
    rw [f_X8_repeated_2_s] at h
    refine vr_iload_n (pc := 2) hc dX8_repeated_2 rfl ?_
    refine vr_if_le (pc := 3) hc 25 dX8_repeated_3 (by decide) (fun hb1 => ?_) (fun hb1 => ?_)
    · rw [if_pos hb1] at h
      refine vr_lload_n (pc := 25) hc dX8_repeated_25 rfl ?_
      refine vr_ldc2 (pc := 26) hc dX8_repeated_26 (1152921504606846975 : Int64) cl_X8_249 ?_
      refine vr_land (pc := 29) hc dX8_repeated_29 ?_
      obtain rfl := Option.some.inj h
      exact hret _ _ (vz_ret_l dX8_repeated_30)
    · rw [if_neg hb1] at h
      refine vr_iload_n (pc := 6) hc dX8_repeated_6 rfl ?_
      refine vr_bipush (pc := 7) hc dX8_repeated_7 (60 : Int32) (by decide) ?_
      refine vr_icmp_ge (pc := 9) hc 25 dX8_repeated_9 (by decide) (fun hb2 => ?_) (fun hb2 => ?_)
      · rw [if_pos hb2] at h
        refine vr_lload_n (pc := 25) hc dX8_repeated_25 rfl ?_
        refine vr_ldc2 (pc := 26) hc dX8_repeated_26 (1152921504606846975 : Int64) cl_X8_249 ?_
        refine vr_land (pc := 29) hc dX8_repeated_29 ?_
        obtain rfl := Option.some.inj h
        exact hret _ _ (vz_ret_l dX8_repeated_30)
      · rw [if_neg hb2] at h
        refine vr_lload_n (pc := 12) hc dX8_repeated_12 rfl ?_
        refine vr_lload_n (pc := 13) hc dX8_repeated_13 rfl ?_
        refine vr_iload_n (pc := 14) hc dX8_repeated_14 rfl ?_
        refine vr_lshl (pc := 15) hc dX8_repeated_15 ?_
        refine vr_lor (pc := 16) hc dX8_repeated_16 ?_
        refine vr_lstore_n (pc := 17) hc dX8_repeated_17 (by decide) rfl ?_
        refine vr_iload_n (pc := 18) hc dX8_repeated_18 rfl ?_
        refine vr_iconst (pc := 19) hc dX8_repeated_19 (2 : Int32) (by decide) ?_
        refine vr_imul (pc := 20) hc dX8_repeated_20 ?_
        refine vr_istore_n (pc := 21) hc dX8_repeated_21 (by decide) rfl ?_
        refine vr_goto (pc := 22) hc 2 dX8_repeated_22 (by decide) ?_
        exact vz_sub (ih (j0 ||| (j0 <<< (x3.toInt64 &&& 63))) (x3 * (2 : Int32))   h) (vz_sb1 rfl (vz_sb1 rfl vz_sb0))
def f_X8_repeated (j0 : Int64) (x2 : Int32)  : Option Int64 := f_X8_repeated_2 vz_fu j0 x2
set_option maxRecDepth 20000 in
set_option maxHeartbeats 1000000 in
theorem w_X8_repeated (z : vz_Z) (l : Launch) (j0 : Int64) (x2 : Int32) (σ : vz_I)  {r : Int64} (h : f_X8_repeated j0 x2  = some r) : vz_Con z l 0 yX8_repeated cX8_repeated 4 (some .long) [.long j0, .int x2] vz_G0 σ vz_N0 (some (.long r)) vz_G0 σ vz_N0 0 0 := by
  refine vz_con (by decide) (Nat.le_of_ble_eq_true rfl) (fun μ hc hl hcap hret => ?_)
  subst hl
  unfold f_X8_repeated at h
  refine vr_iload_n (pc := 0) hc dX8_repeated_0 rfl ?_
  refine vr_istore_n (pc := 1) hc dX8_repeated_1 (by decide) rfl ?_
  exact vz_sub (wn_X8_repeated_2 z μ hc σ hret vz_fu j0 x2 h) (vz_sb1 rfl (vz_sb1 rfl vz_sb0))
-- X8_firstMinute: depth 0, effects S=False W=False P=True
def f_X8_firstMinute_2 : Nat → Int64 → Int32 → Option Int32
  | 0, _, _ => none
  | n + 1, j0, x2 => if (60 : Int32) ≤ x2 then some (-4 : Int32) else if (lg_cmp ((j0 >>> (x2.toInt64 &&& 63)) &&& (1 : Int64)) (1 : Int64)) = 0 then some x2 else f_X8_firstMinute_2 n j0 (x2 + (1 : Int32))
theorem f_X8_firstMinute_2_s (n : Nat) (j0 : Int64) (x2 : Int32)  : f_X8_firstMinute_2  (n + 1) j0 x2  = if (60 : Int32) ≤ x2 then some (-4 : Int32) else if (lg_cmp ((j0 >>> (x2.toInt64 &&& 63)) &&& (1 : Int64)) (1 : Int64)) = 0 then some x2 else f_X8_firstMinute_2 n j0 (x2 + (1 : Int32)) := rfl
set_option maxRecDepth 20000 in
set_option maxHeartbeats 1000000 in
theorem wn_X8_firstMinute_2 (z : vz_Z) (μ : vz_M) (hc : vz_C z μ cX8_firstMinute RX8 0 3) {r : Int32} (σ : vz_I) (hret : ∀ (pc : Nat) (L : vz_L), vz_ret cX8_firstMinute (some .int) pc (some (.int r)) → vz_V z μ 0 0 pc L ((some (.int r)) : Option Value).toList vz_G0 σ vz_N0) : ∀ (n : Nat) (j0 : Int64) (x2 : Int32)  (h : f_X8_firstMinute_2  n j0 x2  = some r), vz_V z μ 0 0 2 [(0, some (.long j0)), (2, some (.int x2))] [] vz_G0 σ vz_N0 := by
  intro n
  induction n with
  | zero =>
    intro j0 x2 h
    cases h
  | succ n ih =>
    intro j0 x2 h
    rw [f_X8_firstMinute_2_s] at h
    refine vr_iload_n (pc := 2) hc dX8_firstMinute_2 rfl ?_
    refine vr_bipush (pc := 3) hc dX8_firstMinute_3 (60 : Int32) (by decide) ?_
    refine vr_icmp_ge (pc := 5) hc 26 dX8_firstMinute_5 (by decide) (fun hb1 => ?_) (fun hb1 => ?_)
    · rw [if_pos hb1] at h
      refine vr_bipush (pc := 26) hc dX8_firstMinute_26 (-4 : Int32) (by decide) ?_
      obtain rfl := Option.some.inj h
      exact hret _ _ (vz_ret_i dX8_firstMinute_28 rfl)
    · rw [if_neg hb1] at h
      refine vr_lload_n (pc := 8) hc dX8_firstMinute_8 rfl ?_
      refine vr_iload_n (pc := 9) hc dX8_firstMinute_9 rfl ?_
      refine vr_lshr (pc := 10) hc dX8_firstMinute_10 ?_
      refine vr_lconst (pc := 11) hc dX8_firstMinute_11 (1 : Int64) (by decide) ?_
      refine vr_land (pc := 12) hc dX8_firstMinute_12 ?_
      refine vr_lconst (pc := 13) hc dX8_firstMinute_13 (1 : Int64) (by decide) ?_
      refine vr_lcmp (pc := 14) hc dX8_firstMinute_14 ?_
      refine vr_if_ne (pc := 15) hc 20 dX8_firstMinute_15 (by decide) (fun hb2 => ?_) (fun hb2 => ?_)
      · rw [if_neg hb2] at h
        refine vr_iinc (pc := 20) hc dX8_firstMinute_20 (1 : Int32) (by decide) rfl (by decide) rfl ?_
        refine vr_goto (pc := 23) hc 2 dX8_firstMinute_23 (by decide) ?_
        exact vz_sub (ih j0 (x2 + (1 : Int32))   h) (vz_sb1 rfl (vz_sb1 rfl vz_sb0))
      · rw [if_pos hb2] at h
        refine vr_iload_n (pc := 18) hc dX8_firstMinute_18 rfl ?_
        obtain rfl := Option.some.inj h
        exact hret _ _ (vz_ret_i dX8_firstMinute_19 rfl)
def f_X8_firstMinute (j0 : Int64)  : Option Int32 := f_X8_firstMinute_2 vz_fu j0 (0 : Int32)
set_option maxRecDepth 20000 in
set_option maxHeartbeats 1000000 in
theorem w_X8_firstMinute (z : vz_Z) (l : Launch) (j0 : Int64) (σ : vz_I)  {r : Int32} (h : f_X8_firstMinute j0  = some r) : vz_Con z l 0 yX8_firstMinute cX8_firstMinute 3 (some .int) [.long j0] vz_G0 σ vz_N0 (some (.int r)) vz_G0 σ vz_N0 0 0 := by
  refine vz_con (by decide) (Nat.le_of_ble_eq_true rfl) (fun μ hc hl hcap hret => ?_)
  subst hl
  unfold f_X8_firstMinute at h
  refine vr_iconst (pc := 0) hc dX8_firstMinute_0 (0 : Int32) (by decide) ?_
  refine vr_istore_n (pc := 1) hc dX8_firstMinute_1 (by decide) rfl ?_
  exact vz_sub (wn_X8_firstMinute_2 z μ hc σ hret vz_fu j0 (0 : Int32) h) (vz_sb1 rfl (vz_sb1 rfl vz_sb0))
-- X8_lastMinute: depth 0, effects S=False W=False P=True
def f_X8_lastMinute_3 : Nat → Int64 → Int32 → Option Int32
  | 0, _, _ => none
  | n + 1, j0, x2 => if x2 < 0 then some (-4 : Int32) else if (lg_cmp ((j0 >>> (x2.toInt64 &&& 63)) &&& (1 : Int64)) (1 : Int64)) = 0 then some x2 else f_X8_lastMinute_3 n j0 (x2 + (-1 : Int32))
theorem f_X8_lastMinute_3_s (n : Nat) (j0 : Int64) (x2 : Int32)  : f_X8_lastMinute_3  (n + 1) j0 x2  = if x2 < 0 then some (-4 : Int32) else if (lg_cmp ((j0 >>> (x2.toInt64 &&& 63)) &&& (1 : Int64)) (1 : Int64)) = 0 then some x2 else f_X8_lastMinute_3 n j0 (x2 + (-1 : Int32)) := rfl
set_option maxRecDepth 20000 in
set_option maxHeartbeats 1000000 in
theorem wn_X8_lastMinute_3 (z : vz_Z) (μ : vz_M) (hc : vz_C z μ cX8_lastMinute RX8 0 3) {r : Int32} (σ : vz_I) (hret : ∀ (pc : Nat) (L : vz_L), vz_ret cX8_lastMinute (some .int) pc (some (.int r)) → vz_V z μ 0 0 pc L ((some (.int r)) : Option Value).toList vz_G0 σ vz_N0) : ∀ (n : Nat) (j0 : Int64) (x2 : Int32)  (h : f_X8_lastMinute_3  n j0 x2  = some r), vz_V z μ 0 0 3 [(0, some (.long j0)), (2, some (.int x2))] [] vz_G0 σ vz_N0 := by
  intro n
  induction n with
  | zero =>
    intro j0 x2 h
    cases h
  | succ n ih =>
    intro j0 x2 h
    rw [f_X8_lastMinute_3_s] at h
    refine vr_iload_n (pc := 3) hc dX8_lastMinute_3 rfl ?_
    refine vr_if_lt (pc := 4) hc 25 dX8_lastMinute_4 (by decide) (fun hb1 => ?_) (fun hb1 => ?_)
    · rw [if_pos hb1] at h
      refine vr_bipush (pc := 25) hc dX8_lastMinute_25 (-4 : Int32) (by decide) ?_
      obtain rfl := Option.some.inj h
      exact hret _ _ (vz_ret_i dX8_lastMinute_27 rfl)
    · rw [if_neg hb1] at h
      refine vr_lload_n (pc := 7) hc dX8_lastMinute_7 rfl ?_
      refine vr_iload_n (pc := 8) hc dX8_lastMinute_8 rfl ?_
      refine vr_lshr (pc := 9) hc dX8_lastMinute_9 ?_
      refine vr_lconst (pc := 10) hc dX8_lastMinute_10 (1 : Int64) (by decide) ?_
      refine vr_land (pc := 11) hc dX8_lastMinute_11 ?_
      refine vr_lconst (pc := 12) hc dX8_lastMinute_12 (1 : Int64) (by decide) ?_
      refine vr_lcmp (pc := 13) hc dX8_lastMinute_13 ?_
      refine vr_if_ne (pc := 14) hc 19 dX8_lastMinute_14 (by decide) (fun hb2 => ?_) (fun hb2 => ?_)
      · rw [if_neg hb2] at h
        refine vr_iinc (pc := 19) hc dX8_lastMinute_19 (-1 : Int32) (by decide) rfl (by decide) rfl ?_
        refine vr_goto (pc := 22) hc 3 dX8_lastMinute_22 (by decide) ?_
        exact vz_sub (ih j0 (x2 + (-1 : Int32))   h) (vz_sb1 rfl (vz_sb1 rfl vz_sb0))
      · rw [if_pos hb2] at h
        refine vr_iload_n (pc := 17) hc dX8_lastMinute_17 rfl ?_
        obtain rfl := Option.some.inj h
        exact hret _ _ (vz_ret_i dX8_lastMinute_18 rfl)
def f_X8_lastMinute (j0 : Int64)  : Option Int32 := f_X8_lastMinute_3 vz_fu j0 (59 : Int32)
set_option maxRecDepth 20000 in
set_option maxHeartbeats 1000000 in
theorem w_X8_lastMinute (z : vz_Z) (l : Launch) (j0 : Int64) (σ : vz_I)  {r : Int32} (h : f_X8_lastMinute j0  = some r) : vz_Con z l 0 yX8_lastMinute cX8_lastMinute 3 (some .int) [.long j0] vz_G0 σ vz_N0 (some (.int r)) vz_G0 σ vz_N0 0 0 := by
  refine vz_con (by decide) (Nat.le_of_ble_eq_true rfl) (fun μ hc hl hcap hret => ?_)
  subst hl
  unfold f_X8_lastMinute at h
  refine vr_bipush (pc := 0) hc dX8_lastMinute_0 (59 : Int32) (by decide) ?_
  refine vr_istore_n (pc := 2) hc dX8_lastMinute_2 (by decide) rfl ?_
  exact vz_sub (wn_X8_lastMinute_3 z μ hc σ hret vz_fu j0 (59 : Int32) h) (vz_sb1 rfl (vz_sb1 rfl vz_sb0))
-- X8_greatestDivisor: depth 0, effects S=False W=False P=True
def f_X8_greatestDivisor_3 : Nat → Int64 → Int64 → Int32 → Option Int64
  | 0, _, _, _ => none
  | n + 1, j0, j2, x4 => if (200 : Int32) ≤ x4 then some j0 else if (lg_cmp j2 (0 : Int64)) = 0 then some j0 else if j2 = 0 then none else f_X8_greatestDivisor_3 n j2 (j0 - j0 / j2 * j2) (x4 + (1 : Int32))
theorem f_X8_greatestDivisor_3_s (n : Nat) (j0 : Int64) (j2 : Int64) (x4 : Int32)  : f_X8_greatestDivisor_3  (n + 1) j0 j2 x4  = if (200 : Int32) ≤ x4 then some j0 else if (lg_cmp j2 (0 : Int64)) = 0 then some j0 else if j2 = 0 then none else f_X8_greatestDivisor_3 n j2 (j0 - j0 / j2 * j2) (x4 + (1 : Int32)) := rfl
set_option maxRecDepth 20000 in
set_option maxHeartbeats 1000000 in
theorem wn_X8_greatestDivisor_3 (z : vz_Z) (μ : vz_M) (hc : vz_C z μ cX8_greatestDivisor RX8 0 7) {r : Int64} (σ : vz_I) (hret : ∀ (pc : Nat) (L : vz_L), vz_ret cX8_greatestDivisor (some .long) pc (some (.long r)) → vz_V z μ 0 0 pc L ((some (.long r)) : Option Value).toList vz_G0 σ vz_N0) : ∀ (n : Nat) (j0 : Int64) (j2 : Int64) (x4 : Int32)  (h : f_X8_greatestDivisor_3  n j0 j2 x4  = some r), vz_V z μ 0 0 3 [(0, some (.long j0)), (2, some (.long j2)), (4, some (.int x4))] [] vz_G0 σ vz_N0 := by
  intro n
  induction n with
  | zero =>
    intro j0 j2 x4 h
    cases h
  | succ n ih =>
    intro j0 j2 x4 h
    rw [f_X8_greatestDivisor_3_s] at h
    refine vr_iload (pc := 3) hc dX8_greatestDivisor_3 rfl ?_
    refine vr_sipush (pc := 5) hc dX8_greatestDivisor_5 (200 : Int32) (by decide) ?_
    refine vr_icmp_ge (pc := 8) hc 33 dX8_greatestDivisor_8 (by decide) (fun hb1 => ?_) (fun hb1 => ?_)
    · rw [if_pos hb1] at h
      refine vr_lload_n (pc := 33) hc dX8_greatestDivisor_33 rfl ?_
      obtain rfl := Option.some.inj h
      exact hret _ _ (vz_ret_l dX8_greatestDivisor_34)
    · rw [if_neg hb1] at h
      refine vr_lload_n (pc := 11) hc dX8_greatestDivisor_11 rfl ?_
      refine vr_lconst (pc := 12) hc dX8_greatestDivisor_12 (0 : Int64) (by decide) ?_
      refine vr_lcmp (pc := 13) hc dX8_greatestDivisor_13 ?_
      refine vr_if_eq (pc := 14) hc 33 dX8_greatestDivisor_14 (by decide) (fun hb2 => ?_) (fun hb2 => ?_)
      · rw [if_pos hb2] at h
        refine vr_lload_n (pc := 33) hc dX8_greatestDivisor_33 rfl ?_
        obtain rfl := Option.some.inj h
        exact hret _ _ (vz_ret_l dX8_greatestDivisor_34)
      · rw [if_neg hb2] at h
        refine vr_lload_n (pc := 17) hc dX8_greatestDivisor_17 rfl ?_
        refine vr_lload_n (pc := 18) hc dX8_greatestDivisor_18 rfl ?_
        have hb3 : ¬ j2 = 0 := vz_if0 h
        rw [if_neg hb3] at h
        refine vr_lrem (pc := 19) hc dX8_greatestDivisor_19 hb3 ?_
        refine vr_lstore (pc := 20) hc dX8_greatestDivisor_20 (by decide) rfl ?_
        refine vr_lload_n (pc := 22) hc dX8_greatestDivisor_22 rfl ?_
        refine vr_lstore_n (pc := 23) hc dX8_greatestDivisor_23 (by decide) rfl ?_
        refine vr_lload (pc := 24) hc dX8_greatestDivisor_24 rfl ?_
        refine vr_lstore_n (pc := 26) hc dX8_greatestDivisor_26 (by decide) rfl ?_
        refine vr_iinc (pc := 27) hc dX8_greatestDivisor_27 (1 : Int32) (by decide) rfl (by decide) rfl ?_
        refine vr_goto (pc := 30) hc 3 dX8_greatestDivisor_30 (by decide) ?_
        exact vz_sub (ih j2 (j0 - j0 / j2 * j2) (x4 + (1 : Int32))   h) (vz_sb1 rfl (vz_sb1 rfl (vz_sb1 rfl vz_sb0)))
def f_X8_greatestDivisor (j0 : Int64) (j2 : Int64)  : Option Int64 := f_X8_greatestDivisor_3 vz_fu j0 j2 (0 : Int32)
set_option maxRecDepth 20000 in
set_option maxHeartbeats 1000000 in
theorem w_X8_greatestDivisor (z : vz_Z) (l : Launch) (j0 : Int64) (j2 : Int64) (σ : vz_I)  {r : Int64} (h : f_X8_greatestDivisor j0 j2  = some r) : vz_Con z l 0 yX8_greatestDivisor cX8_greatestDivisor 7 (some .long) [.long j0, .long j2] vz_G0 σ vz_N0 (some (.long r)) vz_G0 σ vz_N0 0 0 := by
  refine vz_con (by decide) (Nat.le_of_ble_eq_true rfl) (fun μ hc hl hcap hret => ?_)
  subst hl
  unfold f_X8_greatestDivisor at h
  refine vr_iconst (pc := 0) hc dX8_greatestDivisor_0 (0 : Int32) (by decide) ?_
  refine vr_istore (pc := 1) hc dX8_greatestDivisor_1 (by decide) rfl ?_
  exact vz_sub (wn_X8_greatestDivisor_3 z μ hc σ hret vz_fu j0 j2 (0 : Int32) h) (vz_sb1 rfl (vz_sb1 rfl (vz_sb1 rfl vz_sb0)))
-- X9_in: depth 0, effects S=False W=False P=False
def f_X9_in (j0 : Int64) (j2 : Int64) (j4 : Int64)  : Int32 := if (lg_cmp j0 j2) < 0 then (0 : Int32) else if 0 < (lg_cmp j0 j4) then (0 : Int32) else (1 : Int32)
set_option maxRecDepth 20000 in
set_option maxHeartbeats 1000000 in
theorem w_X9_in (z : vz_Z) (l : Launch) (j0 : Int64) (j2 : Int64) (j4 : Int64) (σ : vz_I)  {r : Int32} (h : f_X9_in j0 j2 j4  = r) : vz_Con z l 0 yX9_in cX9_in 6 (some .boolean) [.long j0, .long j2, .long j4] vz_G0 σ vz_N0 (some (.int r)) vz_G0 σ vz_N0 0 0 := by
  refine vz_con (by decide) (Nat.le_of_ble_eq_true rfl) (fun μ hc hl hcap hret => ?_)
  subst hl
  unfold f_X9_in at h
  refine vr_lload_n (pc := 0) hc dX9_in_0 rfl ?_
  refine vr_lload_n (pc := 1) hc dX9_in_1 rfl ?_
  refine vr_lcmp (pc := 2) hc dX9_in_2 ?_
  refine vr_if_lt (pc := 3) hc 17 dX9_in_3 (by decide) (fun hb1 => ?_) (fun hb1 => ?_)
  · rw [if_pos hb1] at h
    refine vr_iconst (pc := 17) hc dX9_in_17 (0 : Int32) (by decide) ?_
    subst h
    exact hret _ _ (vz_ret_i dX9_in_18 (by decide))
  · rw [if_neg hb1] at h
    refine vr_lload_n (pc := 6) hc dX9_in_6 rfl ?_
    refine vr_lload (pc := 7) hc dX9_in_7 rfl ?_
    refine vr_lcmp (pc := 9) hc dX9_in_9 ?_
    refine vr_if_gt (pc := 10) hc 17 dX9_in_10 (by decide) (fun hb2 => ?_) (fun hb2 => ?_)
    · rw [if_pos hb2] at h
      refine vr_iconst (pc := 17) hc dX9_in_17 (0 : Int32) (by decide) ?_
      subst h
      exact hret _ _ (vz_ret_i dX9_in_18 (by decide))
    · rw [if_neg hb2] at h
      refine vr_iconst (pc := 13) hc dX9_in_13 (1 : Int32) (by decide) ?_
      refine vr_goto (pc := 14) hc 18 dX9_in_14 (by decide) ?_
      subst h
      exact hret _ _ (vz_ret_i dX9_in_18 (by decide))
theorem bn_X9_in (j0 : Int64) (j2 : Int64) (j4 : Int64)  : narrow .boolean (.int (f_X9_in j0 j2 j4 )) = .int (f_X9_in j0 j2 j4 ) := by
  unfold f_X9_in
  (repeat' split) <;> rfl
-- X9_byteAt: depth 0, effects S=True W=False P=True
def f_X9_byteAt (x1 : Int32) (σ : vz_I) : Option Int32 := if (σ 108 8) ≤ x1 then some (-4 : Int32) else if vz_in x1 160 then some (σ 111 x1.toNatClampNeg) else none
set_option maxRecDepth 20000 in
set_option maxHeartbeats 1000000 in
theorem w_X9_byteAt (z : vz_Z) (l : Launch) (x1 : Int32) (σ : vz_I)  {r : Int32} (h : f_X9_byteAt x1 σ = some r) : vz_Con z l 0 yX9_byteAt cX9_byteAt 2 (some .int) [.ref 108, .int x1] vz_G0 σ vz_N0 (some (.int r)) vz_G0 σ vz_N0 0 0 := by
  refine vz_con (by decide) (Nat.le_of_ble_eq_true rfl) (fun μ hc hl hcap hret => ?_)
  subst hl
  unfold f_X9_byteAt at h
  refine vr_iload_n (pc := 0) hc dX9_byteAt_0 rfl ?_
  refine vr_aload_n (pc := 1) hc dX9_byteAt_1 rfl ?_
  refine vr_getI (pc := 2) hc dX9_byteAt_2 fl_X9_59 gc_108 (gi_9_8 gc_108) ?_
  refine vr_icmp_ge (pc := 5) hc 17 dX9_byteAt_5 (by decide) (fun hb1 => ?_) (fun hb1 => ?_)
  · rw [if_pos hb1] at h
    refine vr_bipush (pc := 17) hc dX9_byteAt_17 (-4 : Int32) (by decide) ?_
    obtain rfl := Option.some.inj h
    exact hret _ _ (vz_ret_i dX9_byteAt_19 rfl)
  · rw [if_neg hb1] at h
    refine vr_aload_n (pc := 8) hc dX9_byteAt_8 rfl ?_
    refine vr_getR (pc := 9) hc dX9_byteAt_9 fl_X9_16 gc_108 (gr_9_7 gc_108).1 ?_
    refine vr_iload_n (pc := 12) hc dX9_byteAt_12 rfl ?_
    have hb2 := vz_ifp h
    rw [if_pos hb2] at h
    refine vr_iald (pc := 13) hc 160 dX9_byteAt_13 ((gr_9_7 gc_108).2.1) ((gr_9_7 gc_108).2.2) (vz_in_vp hb2) ?_
    refine vr_goto (pc := 14) hc 19 dX9_byteAt_14 (by decide) ?_
    obtain rfl := Option.some.inj h
    exact hret _ _ (vz_ret_i dX9_byteAt_19 rfl)
-- X9_fails: depth 0, effects S=True W=True P=False
def f_X9_fails (x1 : Int32) (σ : vz_I) : vz_I := if (σ 108 10) = 0 then vz_let (vz_up (vz_up σ 108 10 x1) 108 11 ((vz_up σ 108 10 x1) 108 13)) (fun σ2 => σ2) else σ
set_option maxRecDepth 20000 in
set_option maxHeartbeats 1000000 in
theorem w_X9_fails (z : vz_Z) (l : Launch) (x1 : Int32) (σ : vz_I)  {σ' : vz_I} (h : f_X9_fails x1 σ = σ') : vz_Con z l 0 yX9_fails cX9_fails 2 none [.ref 108, .int x1] vz_G0 σ vz_N0 none vz_G0 σ' vz_N0 0 0 := by
  refine vz_con (by decide) (Nat.le_of_ble_eq_true rfl) (fun μ hc hl hcap hret => ?_)
  subst hl
  unfold f_X9_fails at h
  refine vr_aload_n (pc := 0) hc dX9_fails_0 rfl ?_
  refine vr_getI (pc := 1) hc dX9_fails_1 fl_X9_63 gc_108 (gi_9_10 gc_108) ?_
  refine vr_if_ne (pc := 4) hc 20 dX9_fails_4 (by decide) (fun hb1 => ?_) (fun hb1 => ?_)
  · rw [if_neg hb1] at h
    subst h
    exact hret _ _ (vz_ret_v dX9_fails_20)
  · rw [if_pos hb1] at h
    refine vr_aload_n (pc := 7) hc dX9_fails_7 rfl ?_
    refine vr_iload_n (pc := 8) hc dX9_fails_8 rfl ?_
    refine vr_putI (pc := 9) hc dX9_fails_9 fl_X9_63 gc_108 (gi_9_10 gc_108) rfl rfl ?_
    refine vr_aload_n (pc := 12) hc dX9_fails_12 rfl ?_
    refine vr_aload_n (pc := 13) hc dX9_fails_13 rfl ?_
    refine vr_getI (pc := 14) hc dX9_fails_14 fl_X9_66 gc_108 (gi_9_13 gc_108) ?_
    refine vr_putI (pc := 17) hc dX9_fails_17 fl_X9_69 gc_108 (gi_9_11 gc_108) rfl rfl ?_
    obtain ⟨σ2, hσ3⟩ : ∃ x, x = vz_up (vz_up σ 108 10 x1) 108 11 ((vz_up σ 108 10 x1) 108 13) := ⟨_, rfl⟩
    rw [← hσ3] at h ⊢
    rw [vz_let_e] at h
    subst h
    exact hret _ _ (vz_ret_v dX9_fails_20)
-- X9_isFull: depth 0, effects S=True W=False P=True
def f_X9_isFull_26 (x1 : Int32) (σ : vz_I) : Option Int32 := if x1 = (4 : Int32) then if vz_in (42 : Int32) 61 then if (σ 110 (42 : Int32).toNatClampNeg) = (9 : Int32) then some (1 : Int32) else some (0 : Int32) else none else some (0 : Int32)
set_option maxRecDepth 20000 in
set_option maxHeartbeats 1000000 in
theorem wn_X9_isFull_26 (z : vz_Z) (μ : vz_M) (hc : vz_C z μ cX9_isFull RX9 0 2) {r : Int32} (σ : vz_I) (hret : ∀ (pc : Nat) (L : vz_L), vz_ret cX9_isFull (some .boolean) pc (some (.int r)) → vz_V z μ 0 0 pc L ((some (.int r)) : Option Value).toList vz_G0 σ vz_N0) (x1 : Int32)  (h : f_X9_isFull_26  x1 σ = some r) : vz_V z μ 0 0 26 [(0, some (.ref 108)), (1, some (.int x1))] [] vz_G0 σ vz_N0 := by
  unfold f_X9_isFull_26 at h
  refine vr_iload_n (pc := 26) hc dX9_isFull_26 rfl ?_
  refine vr_iconst (pc := 27) hc dX9_isFull_27 (4 : Int32) (by decide) ?_
  refine vr_icmp_ne (pc := 28) hc 47 dX9_isFull_28 (by decide) (fun hb3 => ?_) (fun hb3 => ?_)
  · rw [if_neg hb3] at h
    refine vr_iconst (pc := 47) hc dX9_isFull_47 (0 : Int32) (by decide) ?_
    obtain rfl := Option.some.inj h
    exact hret _ _ (vz_ret_i dX9_isFull_48 (by decide))
  · rw [if_pos hb3] at h
    refine vr_aload_n (pc := 31) hc dX9_isFull_31 rfl ?_
    refine vr_getR (pc := 32) hc dX9_isFull_32 fl_X9_13 gc_108 (gr_9_3 gc_108).1 ?_
    refine vr_bipush (pc := 35) hc dX9_isFull_35 (42 : Int32) (by decide) ?_
    have hb4 := vz_ifp h
    rw [if_pos hb4] at h
    refine vr_iald (pc := 37) hc 61 dX9_isFull_37 ((gr_9_3 gc_108).2.1) ((gr_9_3 gc_108).2.2) (vz_in_vp hb4) ?_
    refine vr_bipush (pc := 38) hc dX9_isFull_38 (9 : Int32) (by decide) ?_
    refine vr_icmp_ne (pc := 40) hc 47 dX9_isFull_40 (by decide) (fun hb5 => ?_) (fun hb5 => ?_)
    · rw [if_neg hb5] at h
      refine vr_iconst (pc := 47) hc dX9_isFull_47 (0 : Int32) (by decide) ?_
      obtain rfl := Option.some.inj h
      exact hret _ _ (vz_ret_i dX9_isFull_48 (by decide))
    · rw [if_pos hb5] at h
      refine vr_iconst (pc := 43) hc dX9_isFull_43 (1 : Int32) (by decide) ?_
      refine vr_goto (pc := 44) hc 48 dX9_isFull_44 (by decide) ?_
      obtain rfl := Option.some.inj h
      exact hret _ _ (vz_ret_i dX9_isFull_48 (by decide))
def f_X9_isFull_13 (x1 : Int32) (σ : vz_I) : Option Int32 := if x1 = (5 : Int32) then if (σ 108 5) = (4 : Int32) then some (1 : Int32) else f_X9_isFull_26 x1 σ else f_X9_isFull_26 x1 σ
set_option maxRecDepth 20000 in
set_option maxHeartbeats 1000000 in
theorem wn_X9_isFull_13 (z : vz_Z) (μ : vz_M) (hc : vz_C z μ cX9_isFull RX9 0 2) {r : Int32} (σ : vz_I) (hret : ∀ (pc : Nat) (L : vz_L), vz_ret cX9_isFull (some .boolean) pc (some (.int r)) → vz_V z μ 0 0 pc L ((some (.int r)) : Option Value).toList vz_G0 σ vz_N0) (x1 : Int32)  (h : f_X9_isFull_13  x1 σ = some r) : vz_V z μ 0 0 13 [(0, some (.ref 108)), (1, some (.int x1))] [] vz_G0 σ vz_N0 := by
  unfold f_X9_isFull_13 at h
  refine vr_iload_n (pc := 13) hc dX9_isFull_13 rfl ?_
  refine vr_iconst (pc := 14) hc dX9_isFull_14 (5 : Int32) (by decide) ?_
  refine vr_icmp_ne (pc := 15) hc 26 dX9_isFull_15 (by decide) (fun hb2 => ?_) (fun hb2 => ?_)
  · rw [if_neg hb2] at h
    exact vz_sub (wn_X9_isFull_26 z μ hc σ hret x1 h) (vz_sb1 rfl (vz_sb1 rfl vz_sb0))
  · rw [if_pos hb2] at h
    refine vr_aload_n (pc := 18) hc dX9_isFull_18 rfl ?_
    refine vr_getI (pc := 19) hc dX9_isFull_19 fl_X9_107 gc_108 (gi_9_5 gc_108) ?_
    refine vr_iconst (pc := 22) hc dX9_isFull_22 (4 : Int32) (by decide) ?_
    refine vr_icmp_eq (pc := 23) hc 43 dX9_isFull_23 (by decide) (fun hb6 => ?_) (fun hb6 => ?_)
    · rw [if_pos hb6] at h
      refine vr_iconst (pc := 43) hc dX9_isFull_43 (1 : Int32) (by decide) ?_
      refine vr_goto (pc := 44) hc 48 dX9_isFull_44 (by decide) ?_
      obtain rfl := Option.some.inj h
      exact hret _ _ (vz_ret_i dX9_isFull_48 (by decide))
    · rw [if_neg hb6] at h
      exact vz_sub (wn_X9_isFull_26 z μ hc σ hret x1 h) (vz_sb1 rfl (vz_sb1 rfl vz_sb0))
def f_X9_isFull (x1 : Int32) (σ : vz_I) : Option Int32 := if (3 : Int32) < x1 then f_X9_isFull_13 x1 σ else if (σ 108 4) = (4 : Int32) then some (1 : Int32) else f_X9_isFull_13 x1 σ
set_option maxRecDepth 20000 in
set_option maxHeartbeats 1000000 in
theorem w_X9_isFull (z : vz_Z) (l : Launch) (x1 : Int32) (σ : vz_I)  {r : Int32} (h : f_X9_isFull x1 σ = some r) : vz_Con z l 0 yX9_isFull cX9_isFull 2 (some .boolean) [.ref 108, .int x1] vz_G0 σ vz_N0 (some (.int r)) vz_G0 σ vz_N0 0 0 := by
  refine vz_con (by decide) (Nat.le_of_ble_eq_true rfl) (fun μ hc hl hcap hret => ?_)
  subst hl
  unfold f_X9_isFull at h
  refine vr_iload_n (pc := 0) hc dX9_isFull_0 rfl ?_
  refine vr_iconst (pc := 1) hc dX9_isFull_1 (3 : Int32) (by decide) ?_
  refine vr_icmp_gt (pc := 2) hc 13 dX9_isFull_2 (by decide) (fun hb1 => ?_) (fun hb1 => ?_)
  · rw [if_pos hb1] at h
    exact vz_sub (wn_X9_isFull_13 z μ hc σ hret x1 h) (vz_sb1 rfl (vz_sb1 rfl vz_sb0))
  · rw [if_neg hb1] at h
    refine vr_aload_n (pc := 5) hc dX9_isFull_5 rfl ?_
    refine vr_getI (pc := 6) hc dX9_isFull_6 fl_X9_100 gc_108 (gi_9_4 gc_108) ?_
    refine vr_iconst (pc := 9) hc dX9_isFull_9 (4 : Int32) (by decide) ?_
    refine vr_icmp_eq (pc := 10) hc 43 dX9_isFull_10 (by decide) (fun hb7 => ?_) (fun hb7 => ?_)
    · rw [if_pos hb7] at h
      refine vr_iconst (pc := 43) hc dX9_isFull_43 (1 : Int32) (by decide) ?_
      refine vr_goto (pc := 44) hc 48 dX9_isFull_44 (by decide) ?_
      obtain rfl := Option.some.inj h
      exact hret _ _ (vz_ret_i dX9_isFull_48 (by decide))
    · rw [if_neg hb7] at h
      exact vz_sub (wn_X9_isFull_13 z μ hc σ hret x1 h) (vz_sb1 rfl (vz_sb1 rfl vz_sb0))
-- X9_fault: depth 0, effects S=True W=False P=False
def f_X9_fault  (σ : vz_I) : Int32 := σ 108 9
set_option maxRecDepth 20000 in
set_option maxHeartbeats 1000000 in
theorem w_X9_fault (z : vz_Z) (l : Launch)  (σ : vz_I)  {r : Int32} (h : f_X9_fault  σ = r) : vz_Con z l 0 yX9_fault cX9_fault 1 (some .int) [.ref 108] vz_G0 σ vz_N0 (some (.int r)) vz_G0 σ vz_N0 0 0 := by
  refine vz_con (by decide) (Nat.le_of_ble_eq_true rfl) (fun μ hc hl hcap hret => ?_)
  subst hl
  unfold f_X9_fault at h
  refine vr_aload_n (pc := 0) hc dX9_fault_0 rfl ?_
  refine vr_getI (pc := 1) hc dX9_fault_1 fl_X9_147 gc_108 (gi_9_9 gc_108) ?_
  subst h
  exact hret _ _ (vz_ret_i dX9_fault_4 rfl)
-- X9_isStreetOn: depth 0, effects S=True W=False P=True
def f_X9_isStreetOn_65 (k6 : Int32 → Int32 → Int32 → Int32 → Int32 → Option Int32) (x1 : Int32) (x2 : Int32) (x3 : Int32) (x5 : Int32) (x6 : Int32) (x7 : Int32) (σ : vz_I) : Option Int32 := if x6 = x3 then if x7 = x2 then k6 x1 x2 x3 (1 : Int32) (x5 + (1 : Int32)) else k6 x1 x2 x3 (0 : Int32) (x5 + (1 : Int32)) else k6 x1 x2 x3 (0 : Int32) (x5 + (1 : Int32))
set_option maxRecDepth 20000 in
set_option maxHeartbeats 1000000 in
theorem wn_X9_isStreetOn_65 (z : vz_Z) (μ : vz_M) (hc : vz_C z μ cX9_isStreetOn RX9 0 8) {r : Int32} (σ : vz_I) (hret : ∀ (pc : Nat) (L : vz_L), vz_ret cX9_isStreetOn (some .boolean) pc (some (.int r)) → vz_V z μ 0 0 pc L ((some (.int r)) : Option Value).toList vz_G0 σ vz_N0) (k6 : Int32 → Int32 → Int32 → Int32 → Int32 → Option Int32) (hk6 : ∀ (x1 : Int32) (x2 : Int32) (x3 : Int32) (x4 : Int32) (x5 : Int32), k6 x1 x2 x3 x4 x5 = some r → vz_V z μ 0 0 6 [(0, some (.ref 108)), (1, some (.int x1)), (2, some (.int x2)), (3, some (.int x3)), (4, some (.int x4)), (5, some (.int x5))] [] vz_G0 σ vz_N0) (x1 : Int32) (x2 : Int32) (x3 : Int32) (x5 : Int32) (x6 : Int32) (x7 : Int32)  (h : f_X9_isStreetOn_65 k6 x1 x2 x3 x5 x6 x7 σ = some r) : vz_V z μ 0 0 65 [(0, some (.ref 108)), (1, some (.int x1)), (2, some (.int x2)), (3, some (.int x3)), (5, some (.int x5)), (6, some (.int x6)), (7, some (.int x7))] [] vz_G0 σ vz_N0 := by
  unfold f_X9_isStreetOn_65 at h
  refine vr_iload (pc := 65) hc dX9_isStreetOn_65 rfl ?_
  refine vr_iload_n (pc := 67) hc dX9_isStreetOn_67 rfl ?_
  refine vr_icmp_ne (pc := 68) hc 81 dX9_isStreetOn_68 (by decide) (fun hb8 => ?_) (fun hb8 => ?_)
  · rw [if_neg hb8] at h
    refine vr_iconst (pc := 81) hc dX9_isStreetOn_81 (0 : Int32) (by decide) ?_
    refine vr_istore (pc := 82) hc dX9_isStreetOn_82 (by decide) rfl ?_
    refine vr_iinc (pc := 84) hc dX9_isStreetOn_84 (1 : Int32) (by decide) rfl (by decide) rfl ?_
    refine vr_goto (pc := 87) hc 6 dX9_isStreetOn_87 (by decide) ?_
    exact vz_sub (hk6 x1 x2 x3 (0 : Int32) (x5 + (1 : Int32))   h) (vz_sb1 rfl (vz_sb1 rfl (vz_sb1 rfl (vz_sb1 rfl (vz_sb1 rfl (vz_sb1 rfl vz_sb0))))))
  · rw [if_pos hb8] at h
    refine vr_iload (pc := 71) hc dX9_isStreetOn_71 rfl ?_
    refine vr_iload_n (pc := 73) hc dX9_isStreetOn_73 rfl ?_
    refine vr_icmp_ne (pc := 74) hc 81 dX9_isStreetOn_74 (by decide) (fun hb9 => ?_) (fun hb9 => ?_)
    · rw [if_neg hb9] at h
      refine vr_iconst (pc := 81) hc dX9_isStreetOn_81 (0 : Int32) (by decide) ?_
      refine vr_istore (pc := 82) hc dX9_isStreetOn_82 (by decide) rfl ?_
      refine vr_iinc (pc := 84) hc dX9_isStreetOn_84 (1 : Int32) (by decide) rfl (by decide) rfl ?_
      refine vr_goto (pc := 87) hc 6 dX9_isStreetOn_87 (by decide) ?_
      exact vz_sub (hk6 x1 x2 x3 (0 : Int32) (x5 + (1 : Int32))   h) (vz_sb1 rfl (vz_sb1 rfl (vz_sb1 rfl (vz_sb1 rfl (vz_sb1 rfl (vz_sb1 rfl vz_sb0))))))
    · rw [if_pos hb9] at h
      refine vr_iconst (pc := 77) hc dX9_isStreetOn_77 (1 : Int32) (by decide) ?_
      refine vr_goto (pc := 78) hc 82 dX9_isStreetOn_78 (by decide) ?_
      refine vr_istore (pc := 82) hc dX9_isStreetOn_82 (by decide) rfl ?_
      refine vr_iinc (pc := 84) hc dX9_isStreetOn_84 (1 : Int32) (by decide) rfl (by decide) rfl ?_
      refine vr_goto (pc := 87) hc 6 dX9_isStreetOn_87 (by decide) ?_
      exact vz_sub (hk6 x1 x2 x3 (1 : Int32) (x5 + (1 : Int32))   h) (vz_sb1 rfl (vz_sb1 rfl (vz_sb1 rfl (vz_sb1 rfl (vz_sb1 rfl (vz_sb1 rfl vz_sb0))))))
def f_X9_isStreetOn_6 : Nat → Int32 → Int32 → Int32 → Int32 → Int32 → vz_I → Option Int32
  | 0, _, _, _, _, _, _ => none
  | n + 1, x1, x2, x3, x4, x5, σ => if vz_in (x1 + (42 : Int32)) 305 then if (σ 109 (x1 + (42 : Int32)).toNatClampNeg) ≤ x5 then if x4 = 0 ∨ x4 = 1 then some x4 else none else if vz_in ((x1 + (43 : Int32)) + x5) 305 then if vz_in ((x1 + (52 : Int32)) + x5) 305 then if x4 = 0 then if (σ 109 ((x1 + (43 : Int32)) + x5).toNatClampNeg) = x2 then if (σ 109 ((x1 + (52 : Int32)) + x5).toNatClampNeg) = x3 then f_X9_isStreetOn_6 n x1 x2 x3 (1 : Int32) (x5 + (1 : Int32)) σ else f_X9_isStreetOn_65 (fun x1 x2 x3 x4 x5 => f_X9_isStreetOn_6 n x1 x2 x3 x4 x5 σ) x1 x2 x3 x5 (σ 109 ((x1 + (43 : Int32)) + x5).toNatClampNeg) (σ 109 ((x1 + (52 : Int32)) + x5).toNatClampNeg) σ else f_X9_isStreetOn_65 (fun x1 x2 x3 x4 x5 => f_X9_isStreetOn_6 n x1 x2 x3 x4 x5 σ) x1 x2 x3 x5 (σ 109 ((x1 + (43 : Int32)) + x5).toNatClampNeg) (σ 109 ((x1 + (52 : Int32)) + x5).toNatClampNeg) σ else f_X9_isStreetOn_6 n x1 x2 x3 (1 : Int32) (x5 + (1 : Int32)) σ else none else none else none
theorem f_X9_isStreetOn_6_s (n : Nat) (x1 : Int32) (x2 : Int32) (x3 : Int32) (x4 : Int32) (x5 : Int32) (σ : vz_I) : f_X9_isStreetOn_6  (n + 1) x1 x2 x3 x4 x5 σ = if vz_in (x1 + (42 : Int32)) 305 then if (σ 109 (x1 + (42 : Int32)).toNatClampNeg) ≤ x5 then if x4 = 0 ∨ x4 = 1 then some x4 else none else if vz_in ((x1 + (43 : Int32)) + x5) 305 then if vz_in ((x1 + (52 : Int32)) + x5) 305 then if x4 = 0 then if (σ 109 ((x1 + (43 : Int32)) + x5).toNatClampNeg) = x2 then if (σ 109 ((x1 + (52 : Int32)) + x5).toNatClampNeg) = x3 then f_X9_isStreetOn_6 n x1 x2 x3 (1 : Int32) (x5 + (1 : Int32)) σ else f_X9_isStreetOn_65 (fun x1 x2 x3 x4 x5 => f_X9_isStreetOn_6 n x1 x2 x3 x4 x5 σ) x1 x2 x3 x5 (σ 109 ((x1 + (43 : Int32)) + x5).toNatClampNeg) (σ 109 ((x1 + (52 : Int32)) + x5).toNatClampNeg) σ else f_X9_isStreetOn_65 (fun x1 x2 x3 x4 x5 => f_X9_isStreetOn_6 n x1 x2 x3 x4 x5 σ) x1 x2 x3 x5 (σ 109 ((x1 + (43 : Int32)) + x5).toNatClampNeg) (σ 109 ((x1 + (52 : Int32)) + x5).toNatClampNeg) σ else f_X9_isStreetOn_6 n x1 x2 x3 (1 : Int32) (x5 + (1 : Int32)) σ else none else none else none := rfl
set_option maxRecDepth 20000 in
set_option maxHeartbeats 1000000 in
theorem wn_X9_isStreetOn_6 (z : vz_Z) (μ : vz_M) (hc : vz_C z μ cX9_isStreetOn RX9 0 8) {r : Int32} (σ : vz_I) (hret : ∀ (pc : Nat) (L : vz_L), vz_ret cX9_isStreetOn (some .boolean) pc (some (.int r)) → vz_V z μ 0 0 pc L ((some (.int r)) : Option Value).toList vz_G0 σ vz_N0) : ∀ (n : Nat) (x1 : Int32) (x2 : Int32) (x3 : Int32) (x4 : Int32) (x5 : Int32)  (h : f_X9_isStreetOn_6  n x1 x2 x3 x4 x5 σ = some r), vz_V z μ 0 0 6 [(0, some (.ref 108)), (1, some (.int x1)), (2, some (.int x2)), (3, some (.int x3)), (4, some (.int x4)), (5, some (.int x5))] [] vz_G0 σ vz_N0 := by
  intro n
  induction n with
  | zero =>
    intro x1 x2 x3 x4 x5 h
    cases h
  | succ n ih =>
    intro x1 x2 x3 x4 x5 h
    rw [f_X9_isStreetOn_6_s] at h
    refine vr_iload (pc := 6) hc dX9_isStreetOn_6 rfl ?_
    refine vr_aload_n (pc := 8) hc dX9_isStreetOn_8 rfl ?_
    refine vr_getR (pc := 9) hc dX9_isStreetOn_9 fl_X9_7 gc_108 (gr_9_0 gc_108).1 ?_
    refine vr_iload_n (pc := 12) hc dX9_isStreetOn_12 rfl ?_
    refine vr_bipush (pc := 13) hc dX9_isStreetOn_13 (42 : Int32) (by decide) ?_
    refine vr_iadd (pc := 15) hc dX9_isStreetOn_15 ?_
    have hb1 := vz_ifp h
    rw [if_pos hb1] at h
    refine vr_iald (pc := 16) hc 305 dX9_isStreetOn_16 ((gr_9_0 gc_108).2.1) ((gr_9_0 gc_108).2.2) (vz_in_vp hb1) ?_
    refine vr_icmp_ge (pc := 17) hc 90 dX9_isStreetOn_17 (by decide) (fun hb2 => ?_) (fun hb2 => ?_)
    · rw [if_pos hb2] at h
      refine vr_iload (pc := 90) hc dX9_isStreetOn_90 rfl ?_
      have hb3 := vz_ifp h
      rw [if_pos hb3] at h
      obtain rfl := Option.some.inj h
      exact hret _ _ (vz_ret_i dX9_isStreetOn_92 (vz_bn hb3))
    · rw [if_neg hb2] at h
      refine vr_aload_n (pc := 20) hc dX9_isStreetOn_20 rfl ?_
      refine vr_getR (pc := 21) hc dX9_isStreetOn_21 fl_X9_7 gc_108 (gr_9_0 gc_108).1 ?_
      refine vr_iload_n (pc := 24) hc dX9_isStreetOn_24 rfl ?_
      refine vr_bipush (pc := 25) hc dX9_isStreetOn_25 (43 : Int32) (by decide) ?_
      refine vr_iadd (pc := 27) hc dX9_isStreetOn_27 ?_
      refine vr_iload (pc := 28) hc dX9_isStreetOn_28 rfl ?_
      refine vr_iadd (pc := 30) hc dX9_isStreetOn_30 ?_
      have hb4 := vz_ifp h
      rw [if_pos hb4] at h
      refine vr_iald (pc := 31) hc 305 dX9_isStreetOn_31 ((gr_9_0 gc_108).2.1) ((gr_9_0 gc_108).2.2) (vz_in_vp hb4) ?_
      refine vr_istore (pc := 32) hc dX9_isStreetOn_32 (by decide) rfl ?_
      refine vr_aload_n (pc := 34) hc dX9_isStreetOn_34 rfl ?_
      refine vr_getR (pc := 35) hc dX9_isStreetOn_35 fl_X9_7 gc_108 (gr_9_0 gc_108).1 ?_
      refine vr_iload_n (pc := 38) hc dX9_isStreetOn_38 rfl ?_
      refine vr_bipush (pc := 39) hc dX9_isStreetOn_39 (52 : Int32) (by decide) ?_
      refine vr_iadd (pc := 41) hc dX9_isStreetOn_41 ?_
      refine vr_iload (pc := 42) hc dX9_isStreetOn_42 rfl ?_
      refine vr_iadd (pc := 44) hc dX9_isStreetOn_44 ?_
      have hb5 := vz_ifp h
      rw [if_pos hb5] at h
      refine vr_iald (pc := 45) hc 305 dX9_isStreetOn_45 ((gr_9_0 gc_108).2.1) ((gr_9_0 gc_108).2.2) (vz_in_vp hb5) ?_
      refine vr_istore (pc := 46) hc dX9_isStreetOn_46 (by decide) rfl ?_
      refine vr_iload (pc := 48) hc dX9_isStreetOn_48 rfl ?_
      refine vr_if_ne (pc := 50) hc 77 dX9_isStreetOn_50 (by decide) (fun hb6 => ?_) (fun hb6 => ?_)
      · rw [if_neg hb6] at h
        refine vr_iconst (pc := 77) hc dX9_isStreetOn_77 (1 : Int32) (by decide) ?_
        refine vr_goto (pc := 78) hc 82 dX9_isStreetOn_78 (by decide) ?_
        refine vr_istore (pc := 82) hc dX9_isStreetOn_82 (by decide) rfl ?_
        refine vr_iinc (pc := 84) hc dX9_isStreetOn_84 (1 : Int32) (by decide) rfl (by decide) rfl ?_
        refine vr_goto (pc := 87) hc 6 dX9_isStreetOn_87 (by decide) ?_
        exact vz_sub (ih x1 x2 x3 (1 : Int32) (x5 + (1 : Int32))   h) (vz_sb1 rfl (vz_sb1 rfl (vz_sb1 rfl (vz_sb1 rfl (vz_sb1 rfl (vz_sb1 rfl vz_sb0))))))
      · rw [if_pos hb6] at h
        refine vr_iload (pc := 53) hc dX9_isStreetOn_53 rfl ?_
        refine vr_iload_n (pc := 55) hc dX9_isStreetOn_55 rfl ?_
        refine vr_icmp_ne (pc := 56) hc 65 dX9_isStreetOn_56 (by decide) (fun hb7 => ?_) (fun hb7 => ?_)
        · rw [if_neg hb7] at h
          exact vz_sub (wn_X9_isStreetOn_65 z μ hc σ hret (fun x1 x2 x3 x4 x5 => f_X9_isStreetOn_6 n x1 x2 x3 x4 x5 σ) ih x1 x2 x3 x5 (σ 109 ((x1 + (43 : Int32)) + x5).toNatClampNeg) (σ 109 ((x1 + (52 : Int32)) + x5).toNatClampNeg) h) (vz_sb1 rfl (vz_sb1 rfl (vz_sb1 rfl (vz_sb1 rfl (vz_sb1 rfl (vz_sb1 rfl (vz_sb1 rfl vz_sb0)))))))
        · rw [if_pos hb7] at h
          refine vr_iload (pc := 59) hc dX9_isStreetOn_59 rfl ?_
          refine vr_iload_n (pc := 61) hc dX9_isStreetOn_61 rfl ?_
          refine vr_icmp_eq (pc := 62) hc 77 dX9_isStreetOn_62 (by decide) (fun hb10 => ?_) (fun hb10 => ?_)
          · rw [if_pos hb10] at h
            refine vr_iconst (pc := 77) hc dX9_isStreetOn_77 (1 : Int32) (by decide) ?_
            refine vr_goto (pc := 78) hc 82 dX9_isStreetOn_78 (by decide) ?_
            refine vr_istore (pc := 82) hc dX9_isStreetOn_82 (by decide) rfl ?_
            refine vr_iinc (pc := 84) hc dX9_isStreetOn_84 (1 : Int32) (by decide) rfl (by decide) rfl ?_
            refine vr_goto (pc := 87) hc 6 dX9_isStreetOn_87 (by decide) ?_
            exact vz_sub (ih x1 x2 x3 (1 : Int32) (x5 + (1 : Int32))   h) (vz_sb1 rfl (vz_sb1 rfl (vz_sb1 rfl (vz_sb1 rfl (vz_sb1 rfl (vz_sb1 rfl vz_sb0))))))
          · rw [if_neg hb10] at h
            exact vz_sub (wn_X9_isStreetOn_65 z μ hc σ hret (fun x1 x2 x3 x4 x5 => f_X9_isStreetOn_6 n x1 x2 x3 x4 x5 σ) ih x1 x2 x3 x5 (σ 109 ((x1 + (43 : Int32)) + x5).toNatClampNeg) (σ 109 ((x1 + (52 : Int32)) + x5).toNatClampNeg) h) (vz_sb1 rfl (vz_sb1 rfl (vz_sb1 rfl (vz_sb1 rfl (vz_sb1 rfl (vz_sb1 rfl (vz_sb1 rfl vz_sb0)))))))
def f_X9_isStreetOn (x1 : Int32) (x2 : Int32) (x3 : Int32) (σ : vz_I) : Option Int32 := f_X9_isStreetOn_6 vz_fu x1 x2 x3 (0 : Int32) (0 : Int32) σ
set_option maxRecDepth 20000 in
set_option maxHeartbeats 1000000 in
theorem w_X9_isStreetOn (z : vz_Z) (l : Launch) (x1 : Int32) (x2 : Int32) (x3 : Int32) (σ : vz_I)  {r : Int32} (h : f_X9_isStreetOn x1 x2 x3 σ = some r) : vz_Con z l 0 yX9_isStreetOn cX9_isStreetOn 8 (some .boolean) [.ref 108, .int x1, .int x2, .int x3] vz_G0 σ vz_N0 (some (.int r)) vz_G0 σ vz_N0 0 0 := by
  refine vz_con (by decide) (Nat.le_of_ble_eq_true rfl) (fun μ hc hl hcap hret => ?_)
  subst hl
  unfold f_X9_isStreetOn at h
  refine vr_iconst (pc := 0) hc dX9_isStreetOn_0 (0 : Int32) (by decide) ?_
  refine vr_istore (pc := 1) hc dX9_isStreetOn_1 (by decide) rfl ?_
  refine vr_iconst (pc := 3) hc dX9_isStreetOn_3 (0 : Int32) (by decide) ?_
  refine vr_istore (pc := 4) hc dX9_isStreetOn_4 (by decide) rfl ?_
  exact vz_sub (wn_X9_isStreetOn_6 z μ hc σ hret vz_fu x1 x2 x3 (0 : Int32) (0 : Int32) h) (vz_sb1 rfl (vz_sb1 rfl (vz_sb1 rfl (vz_sb1 rfl (vz_sb1 rfl (vz_sb1 rfl vz_sb0))))))
-- X9_paceOn: depth 0, effects S=True W=False P=True
def f_X9_paceOn (x1 : Int32) (x2 : Int32) (σ : vz_I) : Option Int32 := if vz_in (x1 + x2) 305 then if (σ 109 (x1 + x2).toNatClampNeg) = 0 then some (2 : Int32) else if (σ 109 (x1 + x2).toNatClampNeg) = (1 : Int32) then some (1 : Int32) else if (σ 109 (x1 + x2).toNatClampNeg) = (2 : Int32) then some (3 : Int32) else some (6 : Int32) else none
set_option maxRecDepth 20000 in
set_option maxHeartbeats 1000000 in
theorem w_X9_paceOn (z : vz_Z) (l : Launch) (x1 : Int32) (x2 : Int32) (σ : vz_I)  {r : Int32} (h : f_X9_paceOn x1 x2 σ = some r) : vz_Con z l 0 yX9_paceOn cX9_paceOn 4 (some .int) [.ref 108, .int x1, .int x2] vz_G0 σ vz_N0 (some (.int r)) vz_G0 σ vz_N0 0 0 := by
  refine vz_con (by decide) (Nat.le_of_ble_eq_true rfl) (fun μ hc hl hcap hret => ?_)
  subst hl
  unfold f_X9_paceOn at h
  refine vr_aload_n (pc := 0) hc dX9_paceOn_0 rfl ?_
  refine vr_getR (pc := 1) hc dX9_paceOn_1 fl_X9_7 gc_108 (gr_9_0 gc_108).1 ?_
  refine vr_iload_n (pc := 4) hc dX9_paceOn_4 rfl ?_
  refine vr_iload_n (pc := 5) hc dX9_paceOn_5 rfl ?_
  refine vr_iadd (pc := 6) hc dX9_paceOn_6 ?_
  have hb1 := vz_ifp h
  rw [if_pos hb1] at h
  refine vr_iald (pc := 7) hc 305 dX9_paceOn_7 ((gr_9_0 gc_108).2.1) ((gr_9_0 gc_108).2.2) (vz_in_vp hb1) ?_
  refine vr_istore_n (pc := 8) hc dX9_paceOn_8 (by decide) rfl ?_
  refine vr_iload_n (pc := 9) hc dX9_paceOn_9 rfl ?_
  refine vr_if_ne (pc := 10) hc 17 dX9_paceOn_10 (by decide) (fun hb2 => ?_) (fun hb2 => ?_)
  · rw [if_neg hb2] at h
    refine vr_iload_n (pc := 17) hc dX9_paceOn_17 rfl ?_
    refine vr_iconst (pc := 18) hc dX9_paceOn_18 (1 : Int32) (by decide) ?_
    refine vr_icmp_ne (pc := 19) hc 26 dX9_paceOn_19 (by decide) (fun hb3 => ?_) (fun hb3 => ?_)
    · rw [if_neg hb3] at h
      refine vr_iload_n (pc := 26) hc dX9_paceOn_26 rfl ?_
      refine vr_iconst (pc := 27) hc dX9_paceOn_27 (2 : Int32) (by decide) ?_
      refine vr_icmp_ne (pc := 28) hc 35 dX9_paceOn_28 (by decide) (fun hb4 => ?_) (fun hb4 => ?_)
      · rw [if_neg hb4] at h
        refine vr_bipush (pc := 35) hc dX9_paceOn_35 (6 : Int32) (by decide) ?_
        obtain rfl := Option.some.inj h
        exact hret _ _ (vz_ret_i dX9_paceOn_37 rfl)
      · rw [if_pos hb4] at h
        refine vr_iconst (pc := 31) hc dX9_paceOn_31 (3 : Int32) (by decide) ?_
        refine vr_goto (pc := 32) hc 37 dX9_paceOn_32 (by decide) ?_
        obtain rfl := Option.some.inj h
        exact hret _ _ (vz_ret_i dX9_paceOn_37 rfl)
    · rw [if_pos hb3] at h
      refine vr_iconst (pc := 22) hc dX9_paceOn_22 (1 : Int32) (by decide) ?_
      refine vr_goto (pc := 23) hc 37 dX9_paceOn_23 (by decide) ?_
      obtain rfl := Option.some.inj h
      exact hret _ _ (vz_ret_i dX9_paceOn_37 rfl)
  · rw [if_pos hb2] at h
    refine vr_iconst (pc := 13) hc dX9_paceOn_13 (2 : Int32) (by decide) ?_
    refine vr_goto (pc := 14) hc 37 dX9_paceOn_14 (by decide) ?_
    obtain rfl := Option.some.inj h
    exact hret _ _ (vz_ret_i dX9_paceOn_37 rfl)
-- X9_isWetOn: depth 0, effects S=True W=False P=True
def f_X9_isWetOn (x1 : Int32) (x2 : Int32) (σ : vz_I) : Option Int32 := if vz_in (x1 + (40 : Int32)) 305 then if x2 < (σ 109 (x1 + (40 : Int32)).toNatClampNeg) then some (0 : Int32) else if vz_in (x1 + (40 : Int32)) 305 then if vz_in (x1 + (41 : Int32)) 305 then if ((σ 109 (x1 + (40 : Int32)).toNatClampNeg) + (σ 109 (x1 + (41 : Int32)).toNatClampNeg)) ≤ x2 then some (0 : Int32) else some (1 : Int32) else none else none else none
set_option maxRecDepth 20000 in
set_option maxHeartbeats 1000000 in
theorem w_X9_isWetOn (z : vz_Z) (l : Launch) (x1 : Int32) (x2 : Int32) (σ : vz_I)  {r : Int32} (h : f_X9_isWetOn x1 x2 σ = some r) : vz_Con z l 0 yX9_isWetOn cX9_isWetOn 3 (some .boolean) [.ref 108, .int x1, .int x2] vz_G0 σ vz_N0 (some (.int r)) vz_G0 σ vz_N0 0 0 := by
  refine vz_con (by decide) (Nat.le_of_ble_eq_true rfl) (fun μ hc hl hcap hret => ?_)
  subst hl
  unfold f_X9_isWetOn at h
  refine vr_iload_n (pc := 0) hc dX9_isWetOn_0 rfl ?_
  refine vr_aload_n (pc := 1) hc dX9_isWetOn_1 rfl ?_
  refine vr_getR (pc := 2) hc dX9_isWetOn_2 fl_X9_7 gc_108 (gr_9_0 gc_108).1 ?_
  refine vr_iload_n (pc := 5) hc dX9_isWetOn_5 rfl ?_
  refine vr_bipush (pc := 6) hc dX9_isWetOn_6 (40 : Int32) (by decide) ?_
  refine vr_iadd (pc := 8) hc dX9_isWetOn_8 ?_
  have hb1 := vz_ifp h
  rw [if_pos hb1] at h
  refine vr_iald (pc := 9) hc 305 dX9_isWetOn_9 ((gr_9_0 gc_108).2.1) ((gr_9_0 gc_108).2.2) (vz_in_vp hb1) ?_
  refine vr_icmp_lt (pc := 10) hc 40 dX9_isWetOn_10 (by decide) (fun hb2 => ?_) (fun hb2 => ?_)
  · rw [if_pos hb2] at h
    refine vr_iconst (pc := 40) hc dX9_isWetOn_40 (0 : Int32) (by decide) ?_
    obtain rfl := Option.some.inj h
    exact hret _ _ (vz_ret_i dX9_isWetOn_41 (by decide))
  · rw [if_neg hb2] at h
    refine vr_iload_n (pc := 13) hc dX9_isWetOn_13 rfl ?_
    refine vr_aload_n (pc := 14) hc dX9_isWetOn_14 rfl ?_
    refine vr_getR (pc := 15) hc dX9_isWetOn_15 fl_X9_7 gc_108 (gr_9_0 gc_108).1 ?_
    refine vr_iload_n (pc := 18) hc dX9_isWetOn_18 rfl ?_
    refine vr_bipush (pc := 19) hc dX9_isWetOn_19 (40 : Int32) (by decide) ?_
    refine vr_iadd (pc := 21) hc dX9_isWetOn_21 ?_
    have hb3 := vz_ifp h
    rw [if_pos hb3] at h
    refine vr_iald (pc := 22) hc 305 dX9_isWetOn_22 ((gr_9_0 gc_108).2.1) ((gr_9_0 gc_108).2.2) (vz_in_vp hb3) ?_
    refine vr_aload_n (pc := 23) hc dX9_isWetOn_23 rfl ?_
    refine vr_getR (pc := 24) hc dX9_isWetOn_24 fl_X9_7 gc_108 (gr_9_0 gc_108).1 ?_
    refine vr_iload_n (pc := 27) hc dX9_isWetOn_27 rfl ?_
    refine vr_bipush (pc := 28) hc dX9_isWetOn_28 (41 : Int32) (by decide) ?_
    refine vr_iadd (pc := 30) hc dX9_isWetOn_30 ?_
    have hb4 := vz_ifp h
    rw [if_pos hb4] at h
    refine vr_iald (pc := 31) hc 305 dX9_isWetOn_31 ((gr_9_0 gc_108).2.1) ((gr_9_0 gc_108).2.2) (vz_in_vp hb4) ?_
    refine vr_iadd (pc := 32) hc dX9_isWetOn_32 ?_
    refine vr_icmp_ge (pc := 33) hc 40 dX9_isWetOn_33 (by decide) (fun hb5 => ?_) (fun hb5 => ?_)
    · rw [if_pos hb5] at h
      refine vr_iconst (pc := 40) hc dX9_isWetOn_40 (0 : Int32) (by decide) ?_
      obtain rfl := Option.some.inj h
      exact hret _ _ (vz_ret_i dX9_isWetOn_41 (by decide))
    · rw [if_neg hb5] at h
      refine vr_iconst (pc := 36) hc dX9_isWetOn_36 (1 : Int32) (by decide) ?_
      refine vr_goto (pc := 37) hc 41 dX9_isWetOn_37 (by decide) ?_
      obtain rfl := Option.some.inj h
      exact hret _ _ (vz_ret_i dX9_isWetOn_41 (by decide))
-- X9_wholeOf: depth 0, effects S=True W=False P=True
def f_X9_wholeOf (x1 : Int32) (x2 : Int32) (σ : vz_I) : Option Int32 := if vz_in (((10 : Int32) * x1) + x2) 40 then if vz_in (((10 : Int32) * x1) + x2) 40 then if (σ 114 (((10 : Int32) * x1) + x2).toNatClampNeg) ≤ (σ 115 (((10 : Int32) * x1) + x2).toNatClampNeg) then if vz_in (((10 : Int32) * x1) + x2) 40 then some (σ 115 (((10 : Int32) * x1) + x2).toNatClampNeg) else none else if vz_in (((10 : Int32) * x1) + x2) 40 then some (σ 114 (((10 : Int32) * x1) + x2).toNatClampNeg) else none else none else none
set_option maxRecDepth 20000 in
set_option maxHeartbeats 1000000 in
theorem w_X9_wholeOf (z : vz_Z) (l : Launch) (x1 : Int32) (x2 : Int32) (σ : vz_I)  {r : Int32} (h : f_X9_wholeOf x1 x2 σ = some r) : vz_Con z l 0 yX9_wholeOf cX9_wholeOf 4 (some .int) [.ref 108, .int x1, .int x2] vz_G0 σ vz_N0 (some (.int r)) vz_G0 σ vz_N0 0 0 := by
  refine vz_con (by decide) (Nat.le_of_ble_eq_true rfl) (fun μ hc hl hcap hret => ?_)
  subst hl
  unfold f_X9_wholeOf at h
  refine vr_bipush (pc := 0) hc dX9_wholeOf_0 (10 : Int32) (by decide) ?_
  refine vr_iload_n (pc := 2) hc dX9_wholeOf_2 rfl ?_
  refine vr_imul (pc := 3) hc dX9_wholeOf_3 ?_
  refine vr_iload_n (pc := 4) hc dX9_wholeOf_4 rfl ?_
  refine vr_iadd (pc := 5) hc dX9_wholeOf_5 ?_
  refine vr_istore_n (pc := 6) hc dX9_wholeOf_6 (by decide) rfl ?_
  refine vr_aload_n (pc := 7) hc dX9_wholeOf_7 rfl ?_
  refine vr_getR (pc := 8) hc dX9_wholeOf_8 fl_X9_25 gc_108 (gr_9_19 gc_108).1 ?_
  refine vr_iload_n (pc := 11) hc dX9_wholeOf_11 rfl ?_
  have hb1 := vz_ifp h
  rw [if_pos hb1] at h
  refine vr_iald (pc := 12) hc 40 dX9_wholeOf_12 ((gr_9_19 gc_108).2.1) ((gr_9_19 gc_108).2.2) (vz_in_vp hb1) ?_
  refine vr_aload_n (pc := 13) hc dX9_wholeOf_13 rfl ?_
  refine vr_getR (pc := 14) hc dX9_wholeOf_14 fl_X9_28 gc_108 (gr_9_20 gc_108).1 ?_
  refine vr_iload_n (pc := 17) hc dX9_wholeOf_17 rfl ?_
  have hb2 := vz_ifp h
  rw [if_pos hb2] at h
  refine vr_iald (pc := 18) hc 40 dX9_wholeOf_18 ((gr_9_20 gc_108).2.1) ((gr_9_20 gc_108).2.2) (vz_in_vp hb2) ?_
  refine vr_icmp_le (pc := 19) hc 31 dX9_wholeOf_19 (by decide) (fun hb3 => ?_) (fun hb3 => ?_)
  · rw [if_pos hb3] at h
    refine vr_aload_n (pc := 31) hc dX9_wholeOf_31 rfl ?_
    refine vr_getR (pc := 32) hc dX9_wholeOf_32 fl_X9_28 gc_108 (gr_9_20 gc_108).1 ?_
    refine vr_iload_n (pc := 35) hc dX9_wholeOf_35 rfl ?_
    have hb4 := vz_ifp h
    rw [if_pos hb4] at h
    refine vr_iald (pc := 36) hc 40 dX9_wholeOf_36 ((gr_9_20 gc_108).2.1) ((gr_9_20 gc_108).2.2) (vz_in_vp hb4) ?_
    obtain rfl := Option.some.inj h
    exact hret _ _ (vz_ret_i dX9_wholeOf_37 rfl)
  · rw [if_neg hb3] at h
    refine vr_aload_n (pc := 22) hc dX9_wholeOf_22 rfl ?_
    refine vr_getR (pc := 23) hc dX9_wholeOf_23 fl_X9_25 gc_108 (gr_9_19 gc_108).1 ?_
    refine vr_iload_n (pc := 26) hc dX9_wholeOf_26 rfl ?_
    have hb5 := vz_ifp h
    rw [if_pos hb5] at h
    refine vr_iald (pc := 27) hc 40 dX9_wholeOf_27 ((gr_9_19 gc_108).2.1) ((gr_9_19 gc_108).2.2) (vz_in_vp hb5) ?_
    refine vr_goto (pc := 28) hc 37 dX9_wholeOf_28 (by decide) ?_
    obtain rfl := Option.some.inj h
    exact hret _ _ (vz_ret_i dX9_wholeOf_37 rfl)
-- X9_puts: depth 0, effects S=True W=True P=True
def f_X9_puts (x1 : Int32) (x2 : Int32) (x3 : Int32) (σ : vz_I) : Option (Int32 × vz_I) := if x1 = 0 then some ((-1 : Int32), σ) else if vz_in x2 305 then if vz_in x2 305 then some (σ 109 x2.toNatClampNeg, vz_up σ 109 x2.toNatClampNeg x3) else none else none
set_option maxRecDepth 20000 in
set_option maxHeartbeats 1000000 in
theorem w_X9_puts (z : vz_Z) (l : Launch) (x1 : Int32) (x2 : Int32) (x3 : Int32) (σ : vz_I)  {r : Int32} {σ' : vz_I} (h : f_X9_puts x1 x2 x3 σ = some (r, σ')) : vz_Con z l 0 yX9_puts cX9_puts 5 (some .int) [.ref 108, .int x1, .int x2, .int x3] vz_G0 σ vz_N0 (some (.int r)) vz_G0 σ' vz_N0 0 0 := by
  refine vz_con (by decide) (Nat.le_of_ble_eq_true rfl) (fun μ hc hl hcap hret => ?_)
  subst hl
  unfold f_X9_puts at h
  refine vr_iload_n (pc := 0) hc dX9_puts_0 rfl ?_
  refine vr_if_ne (pc := 1) hc 6 dX9_puts_1 (by decide) (fun hb1 => ?_) (fun hb1 => ?_)
  · rw [if_neg hb1] at h
    refine vr_aload_n (pc := 6) hc dX9_puts_6 rfl ?_
    refine vr_getR (pc := 7) hc dX9_puts_7 fl_X9_7 gc_108 (gr_9_0 gc_108).1 ?_
    refine vr_iload_n (pc := 10) hc dX9_puts_10 rfl ?_
    have hb2 := vz_ifp h
    rw [if_pos hb2] at h
    refine vr_iald (pc := 11) hc 305 dX9_puts_11 ((gr_9_0 gc_108).2.1) ((gr_9_0 gc_108).2.2) (vz_in_vp hb2) ?_
    refine vr_istore (pc := 12) hc dX9_puts_12 (by decide) rfl ?_
    refine vr_aload_n (pc := 14) hc dX9_puts_14 rfl ?_
    refine vr_getR (pc := 15) hc dX9_puts_15 fl_X9_7 gc_108 (gr_9_0 gc_108).1 ?_
    refine vr_iload_n (pc := 18) hc dX9_puts_18 rfl ?_
    refine vr_iload_n (pc := 19) hc dX9_puts_19 rfl ?_
    have hb3 := vz_ifp h
    rw [if_pos hb3] at h
    refine vr_iast (pc := 20) hc 305 dX9_puts_20 ((gr_9_0 gc_108).2.1) ((gr_9_0 gc_108).2.2) (vz_in_vp hb3) ?_
    refine vr_iload (pc := 21) hc dX9_puts_21 rfl ?_
    obtain ⟨rfl, rfl⟩ := vz_in2 h
    exact hret _ _ (vz_ret_i dX9_puts_23 rfl)
  · rw [if_pos hb1] at h
    refine vr_iconst (pc := 4) hc dX9_puts_4 (-1 : Int32) (by decide) ?_
    obtain ⟨rfl, rfl⟩ := vz_in2 h
    exact hret _ _ (vz_ret_i dX9_puts_5 rfl)
-- X9_shiftsOn: depth 0, effects S=True W=True P=True
def f_X9_shiftsOn_60 : Nat → Int32 → Int32 → Int32 → Int32 → vz_I → Option vz_I
  | 0, _, _, _, _, _ => none
  | n + 1, x1, x2, x4, x5, σ => if x4 ≤ x5 then some σ else if vz_in x5 4 then if vz_in (((x1 + (12 : Int32)) + ((4 : Int32) * x2)) + x5) 305 then vz_let (vz_up σ 109 (((x1 + (12 : Int32)) + ((4 : Int32) * x2)) + x5).toNatClampNeg (σ 116 x5.toNatClampNeg)) (fun σ6 => f_X9_shiftsOn_60 n x1 x2 x4 (x5 + (1 : Int32)) σ6) else none else none
theorem f_X9_shiftsOn_60_s (n : Nat) (x1 : Int32) (x2 : Int32) (x4 : Int32) (x5 : Int32) (σ : vz_I) : f_X9_shiftsOn_60  (n + 1) x1 x2 x4 x5 σ = if x4 ≤ x5 then some σ else if vz_in x5 4 then if vz_in (((x1 + (12 : Int32)) + ((4 : Int32) * x2)) + x5) 305 then vz_let (vz_up σ 109 (((x1 + (12 : Int32)) + ((4 : Int32) * x2)) + x5).toNatClampNeg (σ 116 x5.toNatClampNeg)) (fun σ6 => f_X9_shiftsOn_60 n x1 x2 x4 (x5 + (1 : Int32)) σ6) else none else none := rfl
set_option maxRecDepth 20000 in
set_option maxHeartbeats 1000000 in
theorem wn_X9_shiftsOn_60 (z : vz_Z) (μ : vz_M) (hc : vz_C z μ cX9_shiftsOn RX9 0 6) {σ' : vz_I} (hret : ∀ (pc : Nat) (L : vz_L), vz_ret cX9_shiftsOn none pc none → vz_V z μ 0 0 pc L (none : Option Value).toList vz_G0 σ' vz_N0) : ∀ (n : Nat) (x1 : Int32) (x2 : Int32) (x4 : Int32) (x5 : Int32) (σ : vz_I)  (h : f_X9_shiftsOn_60  n x1 x2 x4 x5 σ = some σ'), vz_V z μ 0 0 60 [(0, some (.ref 108)), (1, some (.int x1)), (2, some (.int x2)), (4, some (.int x4)), (5, some (.int x5))] [] vz_G0 σ vz_N0 := by
  intro n
  induction n with
  | zero =>
    intro x1 x2 x4 x5 σ h
    cases h
  | succ n ih =>
    intro x1 x2 x4 x5 σ h
    rw [f_X9_shiftsOn_60_s] at h
    refine vr_iload (pc := 60) hc dX9_shiftsOn_60 rfl ?_
    refine vr_iload (pc := 62) hc dX9_shiftsOn_62 rfl ?_
    refine vr_icmp_ge (pc := 64) hc 96 dX9_shiftsOn_64 (by decide) (fun hb3 => ?_) (fun hb3 => ?_)
    · rw [if_pos hb3] at h
      obtain rfl := Option.some.inj h
      exact hret _ _ (vz_ret_v dX9_shiftsOn_96)
    · rw [if_neg hb3] at h
      refine vr_aload_n (pc := 67) hc dX9_shiftsOn_67 rfl ?_
      refine vr_getR (pc := 68) hc dX9_shiftsOn_68 fl_X9_7 gc_108 (gr_9_0 gc_108).1 ?_
      refine vr_iload_n (pc := 71) hc dX9_shiftsOn_71 rfl ?_
      refine vr_bipush (pc := 72) hc dX9_shiftsOn_72 (12 : Int32) (by decide) ?_
      refine vr_iadd (pc := 74) hc dX9_shiftsOn_74 ?_
      refine vr_iconst (pc := 75) hc dX9_shiftsOn_75 (4 : Int32) (by decide) ?_
      refine vr_iload_n (pc := 76) hc dX9_shiftsOn_76 rfl ?_
      refine vr_imul (pc := 77) hc dX9_shiftsOn_77 ?_
      refine vr_iadd (pc := 78) hc dX9_shiftsOn_78 ?_
      refine vr_iload (pc := 79) hc dX9_shiftsOn_79 rfl ?_
      refine vr_iadd (pc := 81) hc dX9_shiftsOn_81 ?_
      refine vr_aload_n (pc := 82) hc dX9_shiftsOn_82 rfl ?_
      refine vr_getR (pc := 83) hc dX9_shiftsOn_83 fl_X9_31 gc_108 (gr_9_21 gc_108).1 ?_
      refine vr_iload (pc := 86) hc dX9_shiftsOn_86 rfl ?_
      have hb4 := vz_ifp h
      rw [if_pos hb4] at h
      refine vr_iald (pc := 88) hc 4 dX9_shiftsOn_88 ((gr_9_21 gc_108).2.1) ((gr_9_21 gc_108).2.2) (vz_in_vp hb4) ?_
      have hb5 := vz_ifp h
      rw [if_pos hb5] at h
      refine vr_iast (pc := 89) hc 305 dX9_shiftsOn_89 ((gr_9_0 gc_108).2.1) ((gr_9_0 gc_108).2.2) (vz_in_vp hb5) ?_
      obtain ⟨σ6, hσ7⟩ : ∃ x, x = vz_up σ 109 (((x1 + (12 : Int32)) + ((4 : Int32) * x2)) + x5).toNatClampNeg (σ 116 x5.toNatClampNeg) := ⟨_, rfl⟩
      rw [← hσ7] at h ⊢
      rw [vz_let_e] at h
      refine vr_iinc (pc := 90) hc dX9_shiftsOn_90 (1 : Int32) (by decide) rfl (by decide) rfl ?_
      refine vr_goto (pc := 93) hc 60 dX9_shiftsOn_93 (by decide) ?_
      exact vz_sub (ih x1 x2 x4 (x5 + (1 : Int32)) σ6  h) (vz_sb1 rfl (vz_sb1 rfl (vz_sb1 rfl (vz_sb1 rfl (vz_sb1 rfl vz_sb0)))))
def f_X9_shiftsOn_16 : Nat → Int32 → Int32 → Int32 → Int32 → Int32 → vz_I → Option vz_I
  | 0, _, _, _, _, _, _ => none
  | n + 1, x1, x2, x3, x4, x5, σ => if x4 ≤ x5 then f_X9_shiftsOn_60 vz_fu x1 x2 x4 (0 : Int32) σ else if x4 = 0 then none else if vz_in (((x1 + (12 : Int32)) + ((4 : Int32) * x2)) + ((x3 + x5) - (x3 + x5) / x4 * x4)) 305 then if vz_in x5 4 then vz_let (vz_up σ 116 x5.toNatClampNeg (σ 109 (((x1 + (12 : Int32)) + ((4 : Int32) * x2)) + ((x3 + x5) - (x3 + x5) / x4 * x4)).toNatClampNeg)) (fun σ11 => f_X9_shiftsOn_16 n x1 x2 x3 x4 (x5 + (1 : Int32)) σ11) else none else none
theorem f_X9_shiftsOn_16_s (n : Nat) (x1 : Int32) (x2 : Int32) (x3 : Int32) (x4 : Int32) (x5 : Int32) (σ : vz_I) : f_X9_shiftsOn_16  (n + 1) x1 x2 x3 x4 x5 σ = if x4 ≤ x5 then f_X9_shiftsOn_60 vz_fu x1 x2 x4 (0 : Int32) σ else if x4 = 0 then none else if vz_in (((x1 + (12 : Int32)) + ((4 : Int32) * x2)) + ((x3 + x5) - (x3 + x5) / x4 * x4)) 305 then if vz_in x5 4 then vz_let (vz_up σ 116 x5.toNatClampNeg (σ 109 (((x1 + (12 : Int32)) + ((4 : Int32) * x2)) + ((x3 + x5) - (x3 + x5) / x4 * x4)).toNatClampNeg)) (fun σ11 => f_X9_shiftsOn_16 n x1 x2 x3 x4 (x5 + (1 : Int32)) σ11) else none else none := rfl
set_option maxRecDepth 20000 in
set_option maxHeartbeats 1000000 in
theorem wn_X9_shiftsOn_16 (z : vz_Z) (μ : vz_M) (hc : vz_C z μ cX9_shiftsOn RX9 0 6) {σ' : vz_I} (hret : ∀ (pc : Nat) (L : vz_L), vz_ret cX9_shiftsOn none pc none → vz_V z μ 0 0 pc L (none : Option Value).toList vz_G0 σ' vz_N0) : ∀ (n : Nat) (x1 : Int32) (x2 : Int32) (x3 : Int32) (x4 : Int32) (x5 : Int32) (σ : vz_I)  (h : f_X9_shiftsOn_16  n x1 x2 x3 x4 x5 σ = some σ'), vz_V z μ 0 0 16 [(0, some (.ref 108)), (1, some (.int x1)), (2, some (.int x2)), (3, some (.int x3)), (4, some (.int x4)), (5, some (.int x5))] [] vz_G0 σ vz_N0 := by
  intro n
  induction n with
  | zero =>
    intro x1 x2 x3 x4 x5 σ h
    cases h
  | succ n ih =>
    intro x1 x2 x3 x4 x5 σ h
    rw [f_X9_shiftsOn_16_s] at h
    refine vr_iload (pc := 16) hc dX9_shiftsOn_16 rfl ?_
    refine vr_iload (pc := 18) hc dX9_shiftsOn_18 rfl ?_
    refine vr_icmp_ge (pc := 20) hc 57 dX9_shiftsOn_20 (by decide) (fun hb2 => ?_) (fun hb2 => ?_)
    · rw [if_pos hb2] at h
      refine vr_iconst (pc := 57) hc dX9_shiftsOn_57 (0 : Int32) (by decide) ?_
      refine vr_istore (pc := 58) hc dX9_shiftsOn_58 (by decide) rfl ?_
      exact vz_sub (wn_X9_shiftsOn_60 z μ hc hret vz_fu x1 x2 x4 (0 : Int32) σ h) (vz_sb1 rfl (vz_sb1 rfl (vz_sb1 rfl (vz_sb1 rfl (vz_sb1 rfl vz_sb0)))))
    · rw [if_neg hb2] at h
      refine vr_aload_n (pc := 23) hc dX9_shiftsOn_23 rfl ?_
      refine vr_getR (pc := 24) hc dX9_shiftsOn_24 fl_X9_31 gc_108 (gr_9_21 gc_108).1 ?_
      refine vr_iload (pc := 27) hc dX9_shiftsOn_27 rfl ?_
      refine vr_aload_n (pc := 29) hc dX9_shiftsOn_29 rfl ?_
      refine vr_getR (pc := 30) hc dX9_shiftsOn_30 fl_X9_7 gc_108 (gr_9_0 gc_108).1 ?_
      refine vr_iload_n (pc := 33) hc dX9_shiftsOn_33 rfl ?_
      refine vr_bipush (pc := 34) hc dX9_shiftsOn_34 (12 : Int32) (by decide) ?_
      refine vr_iadd (pc := 36) hc dX9_shiftsOn_36 ?_
      refine vr_iconst (pc := 37) hc dX9_shiftsOn_37 (4 : Int32) (by decide) ?_
      refine vr_iload_n (pc := 38) hc dX9_shiftsOn_38 rfl ?_
      refine vr_imul (pc := 39) hc dX9_shiftsOn_39 ?_
      refine vr_iadd (pc := 40) hc dX9_shiftsOn_40 ?_
      refine vr_iload_n (pc := 41) hc dX9_shiftsOn_41 rfl ?_
      refine vr_iload (pc := 42) hc dX9_shiftsOn_42 rfl ?_
      refine vr_iadd (pc := 44) hc dX9_shiftsOn_44 ?_
      refine vr_iload (pc := 45) hc dX9_shiftsOn_45 rfl ?_
      have hb8 : ¬ x4 = 0 := vz_if0 h
      rw [if_neg hb8] at h
      refine vr_irem (pc := 47) hc dX9_shiftsOn_47 hb8 ?_
      refine vr_iadd (pc := 48) hc dX9_shiftsOn_48 ?_
      have hb9 := vz_ifp h
      rw [if_pos hb9] at h
      refine vr_iald (pc := 49) hc 305 dX9_shiftsOn_49 ((gr_9_0 gc_108).2.1) ((gr_9_0 gc_108).2.2) (vz_in_vp hb9) ?_
      have hb10 := vz_ifp h
      rw [if_pos hb10] at h
      refine vr_iast (pc := 50) hc 4 dX9_shiftsOn_50 ((gr_9_21 gc_108).2.1) ((gr_9_21 gc_108).2.2) (vz_in_vp hb10) ?_
      obtain ⟨σ11, hσ12⟩ : ∃ x, x = vz_up σ 116 x5.toNatClampNeg (σ 109 (((x1 + (12 : Int32)) + ((4 : Int32) * x2)) + ((x3 + x5) - (x3 + x5) / x4 * x4)).toNatClampNeg) := ⟨_, rfl⟩
      rw [← hσ12] at h ⊢
      rw [vz_let_e] at h
      refine vr_iinc (pc := 51) hc dX9_shiftsOn_51 (1 : Int32) (by decide) rfl (by decide) rfl ?_
      refine vr_goto (pc := 54) hc 16 dX9_shiftsOn_54 (by decide) ?_
      exact vz_sub (ih x1 x2 x3 x4 (x5 + (1 : Int32)) σ11  h) (vz_sb1 rfl (vz_sb1 rfl (vz_sb1 rfl (vz_sb1 rfl (vz_sb1 rfl (vz_sb1 rfl vz_sb0))))))
def f_X9_shiftsOn (x1 : Int32) (x2 : Int32) (x3 : Int32) (σ : vz_I) : Option vz_I := if vz_in ((x1 + (8 : Int32)) + x2) 305 then f_X9_shiftsOn_16 vz_fu x1 x2 x3 (σ 109 ((x1 + (8 : Int32)) + x2).toNatClampNeg) (0 : Int32) σ else none
set_option maxRecDepth 20000 in
set_option maxHeartbeats 1000000 in
theorem w_X9_shiftsOn (z : vz_Z) (l : Launch) (x1 : Int32) (x2 : Int32) (x3 : Int32) (σ : vz_I)  {σ' : vz_I} (h : f_X9_shiftsOn x1 x2 x3 σ = some σ') : vz_Con z l 0 yX9_shiftsOn cX9_shiftsOn 6 none [.ref 108, .int x1, .int x2, .int x3] vz_G0 σ vz_N0 none vz_G0 σ' vz_N0 0 0 := by
  refine vz_con (by decide) (Nat.le_of_ble_eq_true rfl) (fun μ hc hl hcap hret => ?_)
  subst hl
  unfold f_X9_shiftsOn at h
  refine vr_aload_n (pc := 0) hc dX9_shiftsOn_0 rfl ?_
  refine vr_getR (pc := 1) hc dX9_shiftsOn_1 fl_X9_7 gc_108 (gr_9_0 gc_108).1 ?_
  refine vr_iload_n (pc := 4) hc dX9_shiftsOn_4 rfl ?_
  refine vr_bipush (pc := 5) hc dX9_shiftsOn_5 (8 : Int32) (by decide) ?_
  refine vr_iadd (pc := 7) hc dX9_shiftsOn_7 ?_
  refine vr_iload_n (pc := 8) hc dX9_shiftsOn_8 rfl ?_
  refine vr_iadd (pc := 9) hc dX9_shiftsOn_9 ?_
  have hb1 := vz_ifp h
  rw [if_pos hb1] at h
  refine vr_iald (pc := 10) hc 305 dX9_shiftsOn_10 ((gr_9_0 gc_108).2.1) ((gr_9_0 gc_108).2.2) (vz_in_vp hb1) ?_
  refine vr_istore (pc := 11) hc dX9_shiftsOn_11 (by decide) rfl ?_
  refine vr_iconst (pc := 13) hc dX9_shiftsOn_13 (0 : Int32) (by decide) ?_
  refine vr_istore (pc := 14) hc dX9_shiftsOn_14 (by decide) rfl ?_
  exact vz_sub (wn_X9_shiftsOn_16 z μ hc hret vz_fu x1 x2 x3 (σ 109 ((x1 + (8 : Int32)) + x2).toNatClampNeg) (0 : Int32) σ h) (vz_sb1 rfl (vz_sb1 rfl (vz_sb1 rfl (vz_sb1 rfl (vz_sb1 rfl (vz_sb1 rfl vz_sb0))))))
