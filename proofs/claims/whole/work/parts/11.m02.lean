-- X8_kindsKnownBy: depth 1, effects S=True W=False P=True
def f_X8_kindsKnownBy_5 : Nat → Int32 → Int32 → Int32 → Int32 → vz_I → Option Int32
  | 0, _, _, _, _, _ => none
  | n + 1, x1, x2, x3, x4, σ => if (4 : Int32) ≤ x4 then some x3 else if ((x1 >>> (x4 &&& 31)) &&& (1 : Int32)) = (1 : Int32) then if vz_in x4 4 then if (f_X8_isWithin (σ 65 x4.toNatClampNeg) (0 : Int32) x2) = 0 then f_X8_kindsKnownBy_5 n x1 x2 x3 (x4 + (1 : Int32)) σ else f_X8_kindsKnownBy_5 n x1 x2 (x3 + (1 : Int32)) (x4 + (1 : Int32)) σ else none else f_X8_kindsKnownBy_5 n x1 x2 x3 (x4 + (1 : Int32)) σ
theorem f_X8_kindsKnownBy_5_s (n : Nat) (x1 : Int32) (x2 : Int32) (x3 : Int32) (x4 : Int32) (σ : vz_I) : f_X8_kindsKnownBy_5  (n + 1) x1 x2 x3 x4 σ = if (4 : Int32) ≤ x4 then some x3 else if ((x1 >>> (x4 &&& 31)) &&& (1 : Int32)) = (1 : Int32) then if vz_in x4 4 then if (f_X8_isWithin (σ 65 x4.toNatClampNeg) (0 : Int32) x2) = 0 then f_X8_kindsKnownBy_5 n x1 x2 x3 (x4 + (1 : Int32)) σ else f_X8_kindsKnownBy_5 n x1 x2 (x3 + (1 : Int32)) (x4 + (1 : Int32)) σ else none else f_X8_kindsKnownBy_5 n x1 x2 x3 (x4 + (1 : Int32)) σ := rfl
set_option maxRecDepth 20000 in
set_option maxHeartbeats 1000000 in
theorem wn_X8_kindsKnownBy_5 (z : vz_Z) (μ : vz_M) (hc : vz_C z μ cX8_kindsKnownBy RX8 1 5) {r : Int32} (σ : vz_I) (hret : ∀ (pc : Nat) (L : vz_L), vz_ret cX8_kindsKnownBy (some .int) pc (some (.int r)) → vz_V z μ 0 0 pc L ((some (.int r)) : Option Value).toList vz_G0 σ vz_N0) : ∀ (n : Nat) (x1 : Int32) (x2 : Int32) (x3 : Int32) (x4 : Int32)  (h : f_X8_kindsKnownBy_5  n x1 x2 x3 x4 σ = some r), vz_V z μ 0 0 5 [(0, some (.ref 0)), (1, some (.int x1)), (2, some (.int x2)), (3, some (.int x3)), (4, some (.int x4))] [] vz_G0 σ vz_N0 := by
  intro n
  induction n with
  | zero =>
    intro x1 x2 x3 x4 h
    cases h
  | succ n ih =>
    intro x1 x2 x3 x4 h
    rw [f_X8_kindsKnownBy_5_s] at h
    refine vr_iload (pc := 5) hc dX8_kindsKnownBy_5 rfl ?_
    refine vr_iconst (pc := 7) hc dX8_kindsKnownBy_7 (4 : Int32) (by decide) ?_
    refine vr_icmp_ge (pc := 8) hc 45 dX8_kindsKnownBy_8 (by decide) (fun hb1 => ?_) (fun hb1 => ?_)
    · rw [if_pos hb1] at h
      refine vr_iload_n (pc := 45) hc dX8_kindsKnownBy_45 rfl ?_
      obtain rfl := Option.some.inj h
      exact hret _ _ (vz_ret_i dX8_kindsKnownBy_46 rfl)
    · rw [if_neg hb1] at h
      refine vr_iload_n (pc := 11) hc dX8_kindsKnownBy_11 rfl ?_
      refine vr_iload (pc := 12) hc dX8_kindsKnownBy_12 rfl ?_
      refine vr_ishr (pc := 14) hc dX8_kindsKnownBy_14 ?_
      refine vr_iconst (pc := 15) hc dX8_kindsKnownBy_15 (1 : Int32) (by decide) ?_
      refine vr_iand (pc := 16) hc dX8_kindsKnownBy_16 ?_
      refine vr_iconst (pc := 17) hc dX8_kindsKnownBy_17 (1 : Int32) (by decide) ?_
      refine vr_icmp_ne (pc := 18) hc 39 dX8_kindsKnownBy_18 (by decide) (fun hb2 => ?_) (fun hb2 => ?_)
      · rw [if_neg hb2] at h
        refine vr_iinc (pc := 39) hc dX8_kindsKnownBy_39 (1 : Int32) (by decide) rfl (by decide) rfl ?_
        refine vr_goto (pc := 42) hc 5 dX8_kindsKnownBy_42 (by decide) ?_
        exact vz_sub (ih x1 x2 x3 (x4 + (1 : Int32))   h) (vz_sb1 rfl (vz_sb1 rfl (vz_sb1 rfl (vz_sb1 rfl (vz_sb1 rfl vz_sb0)))))
      · rw [if_pos hb2] at h
        refine vr_aload_n (pc := 21) hc dX8_kindsKnownBy_21 rfl ?_
        refine vr_getR (pc := 22) hc dX8_kindsKnownBy_22 fl_X8_61 gc_0 (gr_8_9 gc_0).1 ?_
        refine vr_iload (pc := 25) hc dX8_kindsKnownBy_25 rfl ?_
        have hb3 := vz_ifp h
        rw [if_pos hb3] at h
        refine vr_iald (pc := 27) hc 4 dX8_kindsKnownBy_27 ((gr_8_9 gc_0).2.1) ((gr_8_9 gc_0).2.2) (vz_in_vp hb3) ?_
        refine vr_iconst (pc := 28) hc dX8_kindsKnownBy_28 (0 : Int32) (by decide) ?_
        refine vr_iload_n (pc := 29) hc dX8_kindsKnownBy_29 rfl ?_
        refine vr_cSi (pc := 30) hc dX8_kindsKnownBy_30 mt_X8_isWithin sx_X8_isWithin ml_X8_70  (w_X8_isWithin z μ.2.1 (σ 65 x4.toNatClampNeg) (0 : Int32) x2 σ rfl) rfl (by decide) rfl (Nat.le_of_ble_eq_true rfl) ?_
        refine vr_if_eq (pc := 33) hc 39 dX8_kindsKnownBy_33 (by decide) (fun hb4 => ?_) (fun hb4 => ?_)
        · rw [if_pos hb4] at h
          refine vr_iinc (pc := 39) hc dX8_kindsKnownBy_39 (1 : Int32) (by decide) rfl (by decide) rfl ?_
          refine vr_goto (pc := 42) hc 5 dX8_kindsKnownBy_42 (by decide) ?_
          exact vz_sub (ih x1 x2 x3 (x4 + (1 : Int32))   h) (vz_sb1 rfl (vz_sb1 rfl (vz_sb1 rfl (vz_sb1 rfl (vz_sb1 rfl vz_sb0)))))
        · rw [if_neg hb4] at h
          refine vr_iinc (pc := 36) hc dX8_kindsKnownBy_36 (1 : Int32) (by decide) rfl (by decide) rfl ?_
          refine vr_iinc (pc := 39) hc dX8_kindsKnownBy_39 (1 : Int32) (by decide) rfl (by decide) rfl ?_
          refine vr_goto (pc := 42) hc 5 dX8_kindsKnownBy_42 (by decide) ?_
          exact vz_sub (ih x1 x2 (x3 + (1 : Int32)) (x4 + (1 : Int32))   h) (vz_sb1 rfl (vz_sb1 rfl (vz_sb1 rfl (vz_sb1 rfl (vz_sb1 rfl vz_sb0)))))
def f_X8_kindsKnownBy (x1 : Int32) (x2 : Int32) (σ : vz_I) : Option Int32 := f_X8_kindsKnownBy_5 vz_fu x1 x2 (0 : Int32) (0 : Int32) σ
set_option maxRecDepth 20000 in
set_option maxHeartbeats 1000000 in
theorem w_X8_kindsKnownBy (z : vz_Z) (l : Launch) (x1 : Int32) (x2 : Int32) (σ : vz_I)  {r : Int32} (h : f_X8_kindsKnownBy x1 x2 σ = some r) : vz_Con z l 1 yX8_kindsKnownBy cX8_kindsKnownBy 5 (some .int) [.ref 0, .int x1, .int x2] vz_G0 σ vz_N0 (some (.int r)) vz_G0 σ vz_N0 0 0 := by
  refine vz_con (by decide) (Nat.le_of_ble_eq_true rfl) (fun μ hc hl hcap hret => ?_)
  subst hl
  unfold f_X8_kindsKnownBy at h
  refine vr_iconst (pc := 0) hc dX8_kindsKnownBy_0 (0 : Int32) (by decide) ?_
  refine vr_istore_n (pc := 1) hc dX8_kindsKnownBy_1 (by decide) rfl ?_
  refine vr_iconst (pc := 2) hc dX8_kindsKnownBy_2 (0 : Int32) (by decide) ?_
  refine vr_istore (pc := 3) hc dX8_kindsKnownBy_3 (by decide) rfl ?_
  exact vz_sub (wn_X8_kindsKnownBy_5 z μ hc σ hret vz_fu x1 x2 (0 : Int32) (0 : Int32) h) (vz_sb1 rfl (vz_sb1 rfl (vz_sb1 rfl (vz_sb1 rfl (vz_sb1 rfl vz_sb0)))))
-- X8_isCorner: depth 1, effects S=False W=False P=False
def f_X8_isCorner (x0 : Int32)  : Int32 := f_X8_isWithin x0 (0 : Int32) (7 : Int32)
set_option maxRecDepth 20000 in
set_option maxHeartbeats 1000000 in
theorem w_X8_isCorner (z : vz_Z) (l : Launch) (x0 : Int32) (σ : vz_I)  {r : Int32} (h : f_X8_isCorner x0  = r) : vz_Con z l 1 yX8_isCorner cX8_isCorner 1 (some .boolean) [.int x0] vz_G0 σ vz_N0 (some (.int r)) vz_G0 σ vz_N0 0 0 := by
  refine vz_con (by decide) (Nat.le_of_ble_eq_true rfl) (fun μ hc hl hcap hret => ?_)
  subst hl
  unfold f_X8_isCorner at h
  refine vr_iload_n (pc := 0) hc dX8_isCorner_0 rfl ?_
  refine vr_iconst (pc := 1) hc dX8_isCorner_1 (0 : Int32) (by decide) ?_
  refine vr_bipush (pc := 2) hc dX8_isCorner_2 (7 : Int32) (by decide) ?_
  refine vr_cSi (pc := 4) hc dX8_isCorner_4 mt_X8_isWithin sx_X8_isWithin ml_X8_70  (w_X8_isWithin z μ.2.1 x0 (0 : Int32) (7 : Int32) σ rfl) rfl (by decide) rfl (Nat.le_of_ble_eq_true rfl) ?_
  subst h
  exact hret _ _ (vz_ret_i dX8_isCorner_7 (bn_X8_isWithin x0 (0 : Int32) (7 : Int32)))
theorem bn_X8_isCorner (x0 : Int32)  : narrow .boolean (.int (f_X8_isCorner x0 )) = .int (f_X8_isCorner x0 ) := by
  unfold f_X8_isCorner
  exact bn_X8_isWithin _ _ _
-- X8_isMinute: depth 1, effects S=False W=False P=False
def f_X8_isMinute (x0 : Int32)  : Int32 := f_X8_isWithin x0 (0 : Int32) (59 : Int32)
set_option maxRecDepth 20000 in
set_option maxHeartbeats 1000000 in
theorem w_X8_isMinute (z : vz_Z) (l : Launch) (x0 : Int32) (σ : vz_I)  {r : Int32} (h : f_X8_isMinute x0  = r) : vz_Con z l 1 yX8_isMinute cX8_isMinute 1 (some .boolean) [.int x0] vz_G0 σ vz_N0 (some (.int r)) vz_G0 σ vz_N0 0 0 := by
  refine vz_con (by decide) (Nat.le_of_ble_eq_true rfl) (fun μ hc hl hcap hret => ?_)
  subst hl
  unfold f_X8_isMinute at h
  refine vr_iload_n (pc := 0) hc dX8_isMinute_0 rfl ?_
  refine vr_iconst (pc := 1) hc dX8_isMinute_1 (0 : Int32) (by decide) ?_
  refine vr_bipush (pc := 2) hc dX8_isMinute_2 (59 : Int32) (by decide) ?_
  refine vr_cSi (pc := 4) hc dX8_isMinute_4 mt_X8_isWithin sx_X8_isWithin ml_X8_70  (w_X8_isWithin z μ.2.1 x0 (0 : Int32) (59 : Int32) σ rfl) rfl (by decide) rfl (Nat.le_of_ble_eq_true rfl) ?_
  subst h
  exact hret _ _ (vz_ret_i dX8_isMinute_7 (bn_X8_isWithin x0 (0 : Int32) (59 : Int32)))
theorem bn_X8_isMinute (x0 : Int32)  : narrow .boolean (.int (f_X8_isMinute x0 )) = .int (f_X8_isMinute x0 ) := by
  unfold f_X8_isMinute
  exact bn_X8_isWithin _ _ _
-- X8_isNews: depth 1, effects S=False W=False P=False
def f_X8_isNews (x0 : Int32)  : Int32 := f_X8_isWithin x0 (0 : Int32) (9 : Int32)
set_option maxRecDepth 20000 in
set_option maxHeartbeats 1000000 in
theorem w_X8_isNews (z : vz_Z) (l : Launch) (x0 : Int32) (σ : vz_I)  {r : Int32} (h : f_X8_isNews x0  = r) : vz_Con z l 1 yX8_isNews cX8_isNews 1 (some .boolean) [.int x0] vz_G0 σ vz_N0 (some (.int r)) vz_G0 σ vz_N0 0 0 := by
  refine vz_con (by decide) (Nat.le_of_ble_eq_true rfl) (fun μ hc hl hcap hret => ?_)
  subst hl
  unfold f_X8_isNews at h
  refine vr_iload_n (pc := 0) hc dX8_isNews_0 rfl ?_
  refine vr_iconst (pc := 1) hc dX8_isNews_1 (0 : Int32) (by decide) ?_
  refine vr_bipush (pc := 2) hc dX8_isNews_2 (9 : Int32) (by decide) ?_
  refine vr_cSi (pc := 4) hc dX8_isNews_4 mt_X8_isWithin sx_X8_isWithin ml_X8_70  (w_X8_isWithin z μ.2.1 x0 (0 : Int32) (9 : Int32) σ rfl) rfl (by decide) rfl (Nat.le_of_ble_eq_true rfl) ?_
  subst h
  exact hret _ _ (vz_ret_i dX8_isNews_7 (bn_X8_isWithin x0 (0 : Int32) (9 : Int32)))
theorem bn_X8_isNews (x0 : Int32)  : narrow .boolean (.int (f_X8_isNews x0 )) = .int (f_X8_isNews x0 ) := by
  unfold f_X8_isNews
  exact bn_X8_isWithin _ _ _
-- X8_isSheet: depth 1, effects S=False W=False P=False
def f_X8_isSheet (x0 : Int32)  : Int32 := f_X8_isWithin x0 (0 : Int32) (3 : Int32)
set_option maxRecDepth 20000 in
set_option maxHeartbeats 1000000 in
theorem w_X8_isSheet (z : vz_Z) (l : Launch) (x0 : Int32) (σ : vz_I)  {r : Int32} (h : f_X8_isSheet x0  = r) : vz_Con z l 1 yX8_isSheet cX8_isSheet 1 (some .boolean) [.int x0] vz_G0 σ vz_N0 (some (.int r)) vz_G0 σ vz_N0 0 0 := by
  refine vz_con (by decide) (Nat.le_of_ble_eq_true rfl) (fun μ hc hl hcap hret => ?_)
  subst hl
  unfold f_X8_isSheet at h
  refine vr_iload_n (pc := 0) hc dX8_isSheet_0 rfl ?_
  refine vr_iconst (pc := 1) hc dX8_isSheet_1 (0 : Int32) (by decide) ?_
  refine vr_iconst (pc := 2) hc dX8_isSheet_2 (3 : Int32) (by decide) ?_
  refine vr_cSi (pc := 3) hc dX8_isSheet_3 mt_X8_isWithin sx_X8_isWithin ml_X8_70  (w_X8_isWithin z μ.2.1 x0 (0 : Int32) (3 : Int32) σ rfl) rfl (by decide) rfl (Nat.le_of_ble_eq_true rfl) ?_
  subst h
  exact hret _ _ (vz_ret_i dX8_isSheet_6 (bn_X8_isWithin x0 (0 : Int32) (3 : Int32)))
theorem bn_X8_isSheet (x0 : Int32)  : narrow .boolean (.int (f_X8_isSheet x0 )) = .int (f_X8_isSheet x0 ) := by
  unfold f_X8_isSheet
  exact bn_X8_isWithin _ _ _
-- X8_isLane: depth 1, effects S=False W=False P=False
def f_X8_isLane (x0 : Int32)  : Int32 := f_X8_isWithin x0 (0 : Int32) (2 : Int32)
set_option maxRecDepth 20000 in
set_option maxHeartbeats 1000000 in
theorem w_X8_isLane (z : vz_Z) (l : Launch) (x0 : Int32) (σ : vz_I)  {r : Int32} (h : f_X8_isLane x0  = r) : vz_Con z l 1 yX8_isLane cX8_isLane 1 (some .boolean) [.int x0] vz_G0 σ vz_N0 (some (.int r)) vz_G0 σ vz_N0 0 0 := by
  refine vz_con (by decide) (Nat.le_of_ble_eq_true rfl) (fun μ hc hl hcap hret => ?_)
  subst hl
  unfold f_X8_isLane at h
  refine vr_iload_n (pc := 0) hc dX8_isLane_0 rfl ?_
  refine vr_iconst (pc := 1) hc dX8_isLane_1 (0 : Int32) (by decide) ?_
  refine vr_iconst (pc := 2) hc dX8_isLane_2 (2 : Int32) (by decide) ?_
  refine vr_cSi (pc := 3) hc dX8_isLane_3 mt_X8_isWithin sx_X8_isWithin ml_X8_70  (w_X8_isWithin z μ.2.1 x0 (0 : Int32) (2 : Int32) σ rfl) rfl (by decide) rfl (Nat.le_of_ble_eq_true rfl) ?_
  subst h
  exact hret _ _ (vz_ret_i dX8_isLane_6 (bn_X8_isWithin x0 (0 : Int32) (2 : Int32)))
theorem bn_X8_isLane (x0 : Int32)  : narrow .boolean (.int (f_X8_isLane x0 )) = .int (f_X8_isLane x0 ) := by
  unfold f_X8_isLane
  exact bn_X8_isWithin _ _ _
-- X8_partOfFraction: depth 1, effects S=False W=False P=True
def f_X8_partOfFraction_17 (j5 : Int64) (js0 : Int64)  : Option Int64 := if (lg_cmp j5 (0 : Int64)) = 0 then some js0 else if j5 = 0 then none else some (js0 / j5)
set_option maxRecDepth 20000 in
set_option maxHeartbeats 1000000 in
theorem wn_X8_partOfFraction_17 (z : vz_Z) (μ : vz_M) (hc : vz_C z μ cX8_partOfFraction RX8 1 9) {r : Int64} (σ : vz_I) (hret : ∀ (pc : Nat) (L : vz_L), vz_ret cX8_partOfFraction (some .long) pc (some (.long r)) → vz_V z μ 0 0 pc L ((some (.long r)) : Option Value).toList vz_G0 σ vz_N0) (j5 : Int64) (js0 : Int64)  (h : f_X8_partOfFraction_17  j5 js0  = some r) : vz_V z μ 0 0 17 [(5, some (.long j5))] [.long js0] vz_G0 σ vz_N0 := by
  unfold f_X8_partOfFraction_17 at h
  refine vr_lstore (pc := 17) hc dX8_partOfFraction_17 (by decide) rfl ?_
  refine vr_lload (pc := 19) hc dX8_partOfFraction_19 rfl ?_
  refine vr_lconst (pc := 21) hc dX8_partOfFraction_21 (0 : Int64) (by decide) ?_
  refine vr_lcmp (pc := 22) hc dX8_partOfFraction_22 ?_
  refine vr_if_ne (pc := 23) hc 31 dX8_partOfFraction_23 (by decide) (fun hb5 => ?_) (fun hb5 => ?_)
  · rw [if_neg hb5] at h
    refine vr_lload (pc := 31) hc dX8_partOfFraction_31 rfl ?_
    refine vr_lload (pc := 33) hc dX8_partOfFraction_33 rfl ?_
    have hb6 : ¬ j5 = 0 := vz_if0 h
    rw [if_neg hb6] at h
    refine vr_ldiv (pc := 35) hc dX8_partOfFraction_35 hb6 ?_
    obtain rfl := Option.some.inj h
    exact hret _ _ (vz_ret_l dX8_partOfFraction_36)
  · rw [if_pos hb5] at h
    refine vr_lload (pc := 26) hc dX8_partOfFraction_26 rfl ?_
    refine vr_goto (pc := 28) hc 36 dX8_partOfFraction_28 (by decide) ?_
    obtain rfl := Option.some.inj h
    exact hret _ _ (vz_ret_l dX8_partOfFraction_36)
def f_X8_partOfFraction (j0 : Int64) (j2 : Int64) (x4 : Int32)  : Option Int64 := vz_b1 (f_X8_greatestDivisor j0 j2) (fun v2 => if x4 = 0 then f_X8_partOfFraction_17 v2 j0 else f_X8_partOfFraction_17 v2 j2)
set_option maxRecDepth 20000 in
set_option maxHeartbeats 1000000 in
theorem w_X8_partOfFraction (z : vz_Z) (l : Launch) (j0 : Int64) (j2 : Int64) (x4 : Int32) (σ : vz_I)  {r : Int64} (h : f_X8_partOfFraction j0 j2 x4  = some r) : vz_Con z l 1 yX8_partOfFraction cX8_partOfFraction 9 (some .long) [.long j0, .long j2, .int x4] vz_G0 σ vz_N0 (some (.long r)) vz_G0 σ vz_N0 0 0 := by
  refine vz_con (by decide) (Nat.le_of_ble_eq_true rfl) (fun μ hc hl hcap hret => ?_)
  subst hl
  unfold f_X8_partOfFraction at h
  refine vr_lload_n (pc := 0) hc dX8_partOfFraction_0 rfl ?_
  refine vr_lload_n (pc := 1) hc dX8_partOfFraction_1 rfl ?_
  obtain ⟨v2, he1, h⟩ := vz_b1e h
  refine vr_cSj (pc := 2) hc dX8_partOfFraction_2 mt_X8_greatestDivisor sx_X8_greatestDivisor ml_X8_358  (w_X8_greatestDivisor z μ.2.1 j0 j2 σ he1) rfl (by decide) rfl (Nat.le_of_ble_eq_true rfl) ?_
  refine vr_lstore (pc := 5) hc dX8_partOfFraction_5 (by decide) rfl ?_
  refine vr_iload (pc := 7) hc dX8_partOfFraction_7 rfl ?_
  refine vr_if_ne (pc := 9) hc 16 dX8_partOfFraction_9 (by decide) (fun hb4 => ?_) (fun hb4 => ?_)
  · rw [if_neg hb4] at h
    refine vr_lload_n (pc := 16) hc dX8_partOfFraction_16 rfl ?_
    exact vz_sub (wn_X8_partOfFraction_17 z μ hc σ hret v2 j2 h) (vz_sb1 rfl vz_sb0)
  · rw [if_pos hb4] at h
    refine vr_lload_n (pc := 12) hc dX8_partOfFraction_12 rfl ?_
    refine vr_goto (pc := 13) hc 17 dX8_partOfFraction_13 (by decide) ?_
    exact vz_sub (wn_X8_partOfFraction_17 z μ hc σ hret v2 j0 h) (vz_sb1 rfl vz_sb0)
-- X9_feed: depth 1, effects S=True W=True P=True
def f_X9_feed (x1 : Int32) (σ : vz_I) : Option (Int32 × vz_I) := if (f_X9_in x1.toInt64 (0 : Int64) (127 : Int64)) = 0 then some ((-1 : Int32), σ) else if (σ 108 8) = (160 : Int32) then some ((-3 : Int32), σ) else if vz_in (σ 108 8) 160 then vz_let (vz_up (vz_up σ 111 (σ 108 8).toNatClampNeg x1) 108 8 (((vz_up σ 111 (σ 108 8).toNatClampNeg x1) 108 8) + (1 : Int32))) (fun σ4 => some (σ4 108 8, σ4)) else none
set_option maxRecDepth 20000 in
set_option maxHeartbeats 1000000 in
theorem w_X9_feed (z : vz_Z) (l : Launch) (x1 : Int32) (σ : vz_I)  {r : Int32} {σ' : vz_I} (h : f_X9_feed x1 σ = some (r, σ')) : vz_Con z l 1 yX9_feed cX9_feed 2 (some .int) [.ref 108, .int x1] vz_G0 σ vz_N0 (some (.int r)) vz_G0 σ' vz_N0 0 0 := by
  refine vz_con (by decide) (Nat.le_of_ble_eq_true rfl) (fun μ hc hl hcap hret => ?_)
  subst hl
  unfold f_X9_feed at h
  refine vr_iload_n (pc := 0) hc dX9_feed_0 rfl ?_
  refine vr_i2l (pc := 1) hc dX9_feed_1 ?_
  refine vr_lconst (pc := 2) hc dX9_feed_2 (0 : Int64) (by decide) ?_
  refine vr_ldc2 (pc := 3) hc dX9_feed_3 (127 : Int64) cl_X9_53 ?_
  refine vr_cSi (pc := 6) hc dX9_feed_6 mt_X9_in sx_X9_in ml_X9_55  (w_X9_in z μ.2.1 x1.toInt64 (0 : Int64) (127 : Int64) σ rfl) rfl (by decide) rfl (Nat.le_of_ble_eq_true rfl) ?_
  refine vr_if_ne (pc := 9) hc 14 dX9_feed_9 (by decide) (fun hb1 => ?_) (fun hb1 => ?_)
  · rw [if_neg hb1] at h
    refine vr_aload_n (pc := 14) hc dX9_feed_14 rfl ?_
    refine vr_getI (pc := 15) hc dX9_feed_15 fl_X9_59 gc_108 (gi_9_8 gc_108) ?_
    refine vr_sipush (pc := 18) hc dX9_feed_18 (160 : Int32) (by decide) ?_
    refine vr_icmp_ne (pc := 21) hc 27 dX9_feed_21 (by decide) (fun hb2 => ?_) (fun hb2 => ?_)
    · rw [if_neg hb2] at h
      refine vr_aload_n (pc := 27) hc dX9_feed_27 rfl ?_
      refine vr_getR (pc := 28) hc dX9_feed_28 fl_X9_16 gc_108 (gr_9_7 gc_108).1 ?_
      refine vr_aload_n (pc := 31) hc dX9_feed_31 rfl ?_
      refine vr_getI (pc := 32) hc dX9_feed_32 fl_X9_59 gc_108 (gi_9_8 gc_108) ?_
      refine vr_iload_n (pc := 35) hc dX9_feed_35 rfl ?_
      have hb3 := vz_ifp h
      rw [if_pos hb3] at h
      refine vr_iast (pc := 36) hc 160 dX9_feed_36 ((gr_9_7 gc_108).2.1) ((gr_9_7 gc_108).2.2) (vz_in_vp hb3) ?_
      refine vr_aload_n (pc := 37) hc dX9_feed_37 rfl ?_
      refine vr_dup (pc := 38) hc dX9_feed_38 rfl ?_
      refine vr_getI (pc := 39) hc dX9_feed_39 fl_X9_59 gc_108 (gi_9_8 gc_108) ?_
      refine vr_iconst (pc := 42) hc dX9_feed_42 (1 : Int32) (by decide) ?_
      refine vr_iadd (pc := 43) hc dX9_feed_43 ?_
      refine vr_putI (pc := 44) hc dX9_feed_44 fl_X9_59 gc_108 (gi_9_8 gc_108) rfl rfl ?_
      obtain ⟨σ4, hσ5⟩ : ∃ x, x = vz_up (vz_up σ 111 (σ 108 8).toNatClampNeg x1) 108 8 (((vz_up σ 111 (σ 108 8).toNatClampNeg x1) 108 8) + (1 : Int32)) := ⟨_, rfl⟩
      rw [← hσ5] at h ⊢
      rw [vz_let_e] at h
      refine vr_aload_n (pc := 47) hc dX9_feed_47 rfl ?_
      refine vr_getI (pc := 48) hc dX9_feed_48 fl_X9_59 gc_108 (gi_9_8 gc_108) ?_
      obtain ⟨rfl, rfl⟩ := vz_in2 h
      exact hret _ _ (vz_ret_i dX9_feed_51 rfl)
    · rw [if_pos hb2] at h
      refine vr_bipush (pc := 24) hc dX9_feed_24 (-3 : Int32) (by decide) ?_
      obtain ⟨rfl, rfl⟩ := vz_in2 h
      exact hret _ _ (vz_ret_i dX9_feed_26 rfl)
  · rw [if_pos hb1] at h
    refine vr_iconst (pc := 12) hc dX9_feed_12 (-1 : Int32) (by decide) ?_
    obtain ⟨rfl, rfl⟩ := vz_in2 h
    exact hret _ _ (vz_ret_i dX9_feed_13 rfl)
-- X9_end: depth 1, effects S=True W=True P=False
def f_X9_end (x1 : Int32) (σ : vz_I) : Int32 × vz_I := if (f_X9_in x1.toInt64 (0 : Int64) ((σ 108 8).toInt64)) = 0 then ((-1 : Int32), σ) else (σ 108 8, vz_up σ 108 8 x1)
set_option maxRecDepth 20000 in
set_option maxHeartbeats 1000000 in
theorem w_X9_end (z : vz_Z) (l : Launch) (x1 : Int32) (σ : vz_I)  {r : Int32} {σ' : vz_I} (h : f_X9_end x1 σ = (r, σ')) : vz_Con z l 1 yX9_end cX9_end 3 (some .int) [.ref 108, .int x1] vz_G0 σ vz_N0 (some (.int r)) vz_G0 σ' vz_N0 0 0 := by
  refine vz_con (by decide) (Nat.le_of_ble_eq_true rfl) (fun μ hc hl hcap hret => ?_)
  subst hl
  unfold f_X9_end at h
  refine vr_iload_n (pc := 0) hc dX9_end_0 rfl ?_
  refine vr_i2l (pc := 1) hc dX9_end_1 ?_
  refine vr_lconst (pc := 2) hc dX9_end_2 (0 : Int64) (by decide) ?_
  refine vr_aload_n (pc := 3) hc dX9_end_3 rfl ?_
  refine vr_getI (pc := 4) hc dX9_end_4 fl_X9_59 gc_108 (gi_9_8 gc_108) ?_
  refine vr_i2l (pc := 7) hc dX9_end_7 ?_
  refine vr_cSi (pc := 8) hc dX9_end_8 mt_X9_in sx_X9_in ml_X9_55  (w_X9_in z μ.2.1 x1.toInt64 (0 : Int64) ((σ 108 8).toInt64) σ rfl) rfl (by decide) rfl (Nat.le_of_ble_eq_true rfl) ?_
  refine vr_if_ne (pc := 11) hc 16 dX9_end_11 (by decide) (fun hb1 => ?_) (fun hb1 => ?_)
  · rw [if_neg hb1] at h
    refine vr_aload_n (pc := 16) hc dX9_end_16 rfl ?_
    refine vr_getI (pc := 17) hc dX9_end_17 fl_X9_59 gc_108 (gi_9_8 gc_108) ?_
    refine vr_istore_n (pc := 20) hc dX9_end_20 (by decide) rfl ?_
    refine vr_aload_n (pc := 21) hc dX9_end_21 rfl ?_
    refine vr_iload_n (pc := 22) hc dX9_end_22 rfl ?_
    refine vr_putI (pc := 23) hc dX9_end_23 fl_X9_59 gc_108 (gi_9_8 gc_108) rfl rfl ?_
    refine vr_iload_n (pc := 26) hc dX9_end_26 rfl ?_
    obtain ⟨rfl, rfl⟩ := vz_in3 h
    exact hret _ _ (vz_ret_i dX9_end_27 rfl)
  · rw [if_pos hb1] at h
    refine vr_iconst (pc := 14) hc dX9_end_14 (-1 : Int32) (by decide) ?_
    obtain ⟨rfl, rfl⟩ := vz_in3 h
    exact hret _ _ (vz_ret_i dX9_end_15 rfl)
-- X9_nameHere: depth 1, effects S=True W=False P=True
def f_X9_nameHere_106 (k2 : Int32 → Option Int32) (x1 : Int32) (x2 : Int32) (σ : vz_I) : Option Int32 := if x2 = 0 then k2 (x1 + (1 : Int32)) else some x1
set_option maxRecDepth 20000 in
set_option maxHeartbeats 1000000 in
theorem wn_X9_nameHere_106 (z : vz_Z) (μ : vz_M) (hc : vz_C z μ cX9_nameHere RX9 1 4) {r : Int32} (σ : vz_I) (hret : ∀ (pc : Nat) (L : vz_L), vz_ret cX9_nameHere (some .int) pc (some (.int r)) → vz_V z μ 0 0 pc L ((some (.int r)) : Option Value).toList vz_G0 σ vz_N0) (k2 : Int32 → Option Int32) (hk2 : ∀ (x1 : Int32), k2 x1 = some r → vz_V z μ 0 0 2 [(0, some (.ref 108)), (1, some (.int x1))] [] vz_G0 σ vz_N0) (x1 : Int32) (x2 : Int32)  (h : f_X9_nameHere_106 k2 x1 x2 σ = some r) : vz_V z μ 0 0 106 [(0, some (.ref 108)), (1, some (.int x1)), (2, some (.int x2))] [] vz_G0 σ vz_N0 := by
  unfold f_X9_nameHere_106 at h
  refine vr_iload_n (pc := 106) hc dX9_nameHere_106 rfl ?_
  refine vr_if_eq (pc := 107) hc 112 dX9_nameHere_107 (by decide) (fun hb7 => ?_) (fun hb7 => ?_)
  · rw [if_pos hb7] at h
    refine vr_iinc (pc := 112) hc dX9_nameHere_112 (1 : Int32) (by decide) rfl (by decide) rfl ?_
    refine vr_goto (pc := 115) hc 2 dX9_nameHere_115 (by decide) ?_
    exact vz_sub (hk2 (x1 + (1 : Int32))   h) (vz_sb1 rfl (vz_sb1 rfl vz_sb0))
  · rw [if_neg hb7] at h
    refine vr_iload_n (pc := 110) hc dX9_nameHere_110 rfl ?_
    obtain rfl := Option.some.inj h
    exact hret _ _ (vz_ret_i dX9_nameHere_111 rfl)
def f_X9_nameHere_51 (k2 : Int32 → Option Int32) : Nat → Int32 → Int32 → Int32 → vz_I → Option Int32
  | 0, _, _, _, _ => none
  | n + 1, x1, x2, x3, σ => if x2 = 0 then f_X9_nameHere_106 k2 x1 x2 σ else if ((σ 108 12) - (σ 108 13)) ≤ x3 then f_X9_nameHere_106 k2 x1 x2 σ else vz_b1 (f_X9_byteAt ((σ 108 13) + x3) σ) (fun v10 => if vz_in x1 8 then if vz_in ((σ 112 x1.toNatClampNeg) + x3) 33 then if v10 = (σ 113 ((σ 112 x1.toNatClampNeg) + x3).toNatClampNeg) then f_X9_nameHere_51 k2 n x1 (1 : Int32) (x3 + (1 : Int32)) σ else f_X9_nameHere_51 k2 n x1 (0 : Int32) (x3 + (1 : Int32)) σ else none else none)
theorem f_X9_nameHere_51_s (k2 : Int32 → Option Int32) (n : Nat) (x1 : Int32) (x2 : Int32) (x3 : Int32) (σ : vz_I) : f_X9_nameHere_51 k2 (n + 1) x1 x2 x3 σ = if x2 = 0 then f_X9_nameHere_106 k2 x1 x2 σ else if ((σ 108 12) - (σ 108 13)) ≤ x3 then f_X9_nameHere_106 k2 x1 x2 σ else vz_b1 (f_X9_byteAt ((σ 108 13) + x3) σ) (fun v10 => if vz_in x1 8 then if vz_in ((σ 112 x1.toNatClampNeg) + x3) 33 then if v10 = (σ 113 ((σ 112 x1.toNatClampNeg) + x3).toNatClampNeg) then f_X9_nameHere_51 k2 n x1 (1 : Int32) (x3 + (1 : Int32)) σ else f_X9_nameHere_51 k2 n x1 (0 : Int32) (x3 + (1 : Int32)) σ else none else none) := rfl
set_option maxRecDepth 20000 in
set_option maxHeartbeats 1000000 in
theorem wn_X9_nameHere_51 (z : vz_Z) (μ : vz_M) (hc : vz_C z μ cX9_nameHere RX9 1 4) {r : Int32} (σ : vz_I) (hret : ∀ (pc : Nat) (L : vz_L), vz_ret cX9_nameHere (some .int) pc (some (.int r)) → vz_V z μ 0 0 pc L ((some (.int r)) : Option Value).toList vz_G0 σ vz_N0) (k2 : Int32 → Option Int32) (hk2 : ∀ (x1 : Int32), k2 x1 = some r → vz_V z μ 0 0 2 [(0, some (.ref 108)), (1, some (.int x1))] [] vz_G0 σ vz_N0) : ∀ (n : Nat) (x1 : Int32) (x2 : Int32) (x3 : Int32)  (h : f_X9_nameHere_51 k2 n x1 x2 x3 σ = some r), vz_V z μ 0 0 51 [(0, some (.ref 108)), (1, some (.int x1)), (2, some (.int x2)), (3, some (.int x3))] [] vz_G0 σ vz_N0 := by
  intro n
  induction n with
  | zero =>
    intro x1 x2 x3 h
    cases h
  | succ n ih =>
    intro x1 x2 x3 h
    rw [f_X9_nameHere_51_s] at h
    refine vr_iload_n (pc := 51) hc dX9_nameHere_51 rfl ?_
    refine vr_if_eq (pc := 52) hc 106 dX9_nameHere_52 (by decide) (fun hb6 => ?_) (fun hb6 => ?_)
    · rw [if_pos hb6] at h
      exact vz_sub (wn_X9_nameHere_106 z μ hc σ hret k2 hk2 x1 x2 h) (vz_sb1 rfl (vz_sb1 rfl (vz_sb1 rfl vz_sb0)))
    · rw [if_neg hb6] at h
      refine vr_iload_n (pc := 55) hc dX9_nameHere_55 rfl ?_
      refine vr_aload_n (pc := 56) hc dX9_nameHere_56 rfl ?_
      refine vr_getI (pc := 57) hc dX9_nameHere_57 fl_X9_75 gc_108 (gi_9_12 gc_108) ?_
      refine vr_aload_n (pc := 60) hc dX9_nameHere_60 rfl ?_
      refine vr_getI (pc := 61) hc dX9_nameHere_61 fl_X9_66 gc_108 (gi_9_13 gc_108) ?_
      refine vr_isub (pc := 64) hc dX9_nameHere_64 ?_
      refine vr_icmp_ge (pc := 65) hc 106 dX9_nameHere_65 (by decide) (fun hb8 => ?_) (fun hb8 => ?_)
      · rw [if_pos hb8] at h
        exact vz_sub (wn_X9_nameHere_106 z μ hc σ hret k2 hk2 x1 x2 h) (vz_sb1 rfl (vz_sb1 rfl (vz_sb1 rfl vz_sb0)))
      · rw [if_neg hb8] at h
        refine vr_aload_n (pc := 68) hc dX9_nameHere_68 rfl ?_
        refine vr_aload_n (pc := 69) hc dX9_nameHere_69 rfl ?_
        refine vr_getI (pc := 70) hc dX9_nameHere_70 fl_X9_66 gc_108 (gi_9_13 gc_108) ?_
        refine vr_iload_n (pc := 73) hc dX9_nameHere_73 rfl ?_
        refine vr_iadd (pc := 74) hc dX9_nameHere_74 ?_
        obtain ⟨v10, he9, h⟩ := vz_b1e h
        refine vr_cVi (pc := 75) hc dX9_nameHere_75 mt_X9_byteAt ml_X9_78 gc_108 (w_X9_byteAt z μ.2.1 ((σ 108 13) + x3) σ he9) rfl (by decide) rfl (Nat.le_of_ble_eq_true rfl) ?_
        refine vr_aload_n (pc := 78) hc dX9_nameHere_78 rfl ?_
        refine vr_getR (pc := 79) hc dX9_nameHere_79 fl_X9_22 gc_108 (gr_9_17 gc_108).1 ?_
        refine vr_aload_n (pc := 82) hc dX9_nameHere_82 rfl ?_
        refine vr_getR (pc := 83) hc dX9_nameHere_83 fl_X9_19 gc_108 (gr_9_16 gc_108).1 ?_
        refine vr_iload_n (pc := 86) hc dX9_nameHere_86 rfl ?_
        have hb12 := vz_ifp h
        rw [if_pos hb12] at h
        refine vr_iald (pc := 87) hc 8 dX9_nameHere_87 ((gr_9_16 gc_108).2.1) ((gr_9_16 gc_108).2.2) (vz_in_vp hb12) ?_
        refine vr_iload_n (pc := 88) hc dX9_nameHere_88 rfl ?_
        refine vr_iadd (pc := 89) hc dX9_nameHere_89 ?_
        have hb13 := vz_ifp h
        rw [if_pos hb13] at h
        refine vr_iald (pc := 90) hc 33 dX9_nameHere_90 ((gr_9_17 gc_108).2.1) ((gr_9_17 gc_108).2.2) (vz_in_vp hb13) ?_
        refine vr_icmp_ne (pc := 91) hc 98 dX9_nameHere_91 (by decide) (fun hb14 => ?_) (fun hb14 => ?_)
        · rw [if_neg hb14] at h
          refine vr_iconst (pc := 98) hc dX9_nameHere_98 (0 : Int32) (by decide) ?_
          refine vr_istore_n (pc := 99) hc dX9_nameHere_99 (by decide) rfl ?_
          refine vr_iinc (pc := 100) hc dX9_nameHere_100 (1 : Int32) (by decide) rfl (by decide) rfl ?_
          refine vr_goto (pc := 103) hc 51 dX9_nameHere_103 (by decide) ?_
          exact vz_sub (ih x1 (0 : Int32) (x3 + (1 : Int32))   h) (vz_sb1 rfl (vz_sb1 rfl (vz_sb1 rfl (vz_sb1 rfl vz_sb0))))
        · rw [if_pos hb14] at h
          refine vr_iconst (pc := 94) hc dX9_nameHere_94 (1 : Int32) (by decide) ?_
          refine vr_goto (pc := 95) hc 99 dX9_nameHere_95 (by decide) ?_
          refine vr_istore_n (pc := 99) hc dX9_nameHere_99 (by decide) rfl ?_
          refine vr_iinc (pc := 100) hc dX9_nameHere_100 (1 : Int32) (by decide) rfl (by decide) rfl ?_
          refine vr_goto (pc := 103) hc 51 dX9_nameHere_103 (by decide) ?_
          exact vz_sub (ih x1 (1 : Int32) (x3 + (1 : Int32))   h) (vz_sb1 rfl (vz_sb1 rfl (vz_sb1 rfl (vz_sb1 rfl vz_sb0))))
def f_X9_nameHere_2 : Nat → Int32 → vz_I → Option Int32
  | 0, _, _ => none
  | n + 1, x1, σ => if (7 : Int32) ≤ x1 then some (-4 : Int32) else if (σ 108 14) = (1 : Int32) then if vz_in (x1 + (1 : Int32)) 8 then if vz_in x1 8 then if ((σ 108 12) - (σ 108 13)) = ((σ 112 (x1 + (1 : Int32)).toNatClampNeg) - (σ 112 x1.toNatClampNeg)) then f_X9_nameHere_51 (fun x1 => f_X9_nameHere_2 n x1 σ) vz_fu x1 (1 : Int32) (0 : Int32) σ else f_X9_nameHere_51 (fun x1 => f_X9_nameHere_2 n x1 σ) vz_fu x1 (0 : Int32) (0 : Int32) σ else none else none else some (-4 : Int32)
theorem f_X9_nameHere_2_s (n : Nat) (x1 : Int32) (σ : vz_I) : f_X9_nameHere_2  (n + 1) x1 σ = if (7 : Int32) ≤ x1 then some (-4 : Int32) else if (σ 108 14) = (1 : Int32) then if vz_in (x1 + (1 : Int32)) 8 then if vz_in x1 8 then if ((σ 108 12) - (σ 108 13)) = ((σ 112 (x1 + (1 : Int32)).toNatClampNeg) - (σ 112 x1.toNatClampNeg)) then f_X9_nameHere_51 (fun x1 => f_X9_nameHere_2 n x1 σ) vz_fu x1 (1 : Int32) (0 : Int32) σ else f_X9_nameHere_51 (fun x1 => f_X9_nameHere_2 n x1 σ) vz_fu x1 (0 : Int32) (0 : Int32) σ else none else none else some (-4 : Int32) := rfl
set_option maxRecDepth 20000 in
set_option maxHeartbeats 1000000 in
theorem wn_X9_nameHere_2 (z : vz_Z) (μ : vz_M) (hc : vz_C z μ cX9_nameHere RX9 1 4) {r : Int32} (σ : vz_I) (hret : ∀ (pc : Nat) (L : vz_L), vz_ret cX9_nameHere (some .int) pc (some (.int r)) → vz_V z μ 0 0 pc L ((some (.int r)) : Option Value).toList vz_G0 σ vz_N0) : ∀ (n : Nat) (x1 : Int32)  (h : f_X9_nameHere_2  n x1 σ = some r), vz_V z μ 0 0 2 [(0, some (.ref 108)), (1, some (.int x1))] [] vz_G0 σ vz_N0 := by
  intro n
  induction n with
  | zero =>
    intro x1 h
    cases h
  | succ n ih =>
    intro x1 h
    rw [f_X9_nameHere_2_s] at h
    refine vr_iload_n (pc := 2) hc dX9_nameHere_2 rfl ?_
    refine vr_bipush (pc := 3) hc dX9_nameHere_3 (7 : Int32) (by decide) ?_
    refine vr_icmp_ge (pc := 5) hc 118 dX9_nameHere_5 (by decide) (fun hb1 => ?_) (fun hb1 => ?_)
    · rw [if_pos hb1] at h
      refine vr_bipush (pc := 118) hc dX9_nameHere_118 (-4 : Int32) (by decide) ?_
      obtain rfl := Option.some.inj h
      exact hret _ _ (vz_ret_i dX9_nameHere_120 rfl)
    · rw [if_neg hb1] at h
      refine vr_aload_n (pc := 8) hc dX9_nameHere_8 rfl ?_
      refine vr_getI (pc := 9) hc dX9_nameHere_9 fl_X9_72 gc_108 (gi_9_14 gc_108) ?_
      refine vr_iconst (pc := 12) hc dX9_nameHere_12 (1 : Int32) (by decide) ?_
      refine vr_icmp_ne (pc := 13) hc 118 dX9_nameHere_13 (by decide) (fun hb2 => ?_) (fun hb2 => ?_)
      · rw [if_neg hb2] at h
        refine vr_bipush (pc := 118) hc dX9_nameHere_118 (-4 : Int32) (by decide) ?_
        obtain rfl := Option.some.inj h
        exact hret _ _ (vz_ret_i dX9_nameHere_120 rfl)
      · rw [if_pos hb2] at h
        refine vr_aload_n (pc := 16) hc dX9_nameHere_16 rfl ?_
        refine vr_getI (pc := 17) hc dX9_nameHere_17 fl_X9_75 gc_108 (gi_9_12 gc_108) ?_
        refine vr_aload_n (pc := 20) hc dX9_nameHere_20 rfl ?_
        refine vr_getI (pc := 21) hc dX9_nameHere_21 fl_X9_66 gc_108 (gi_9_13 gc_108) ?_
        refine vr_isub (pc := 24) hc dX9_nameHere_24 ?_
        refine vr_aload_n (pc := 25) hc dX9_nameHere_25 rfl ?_
        refine vr_getR (pc := 26) hc dX9_nameHere_26 fl_X9_19 gc_108 (gr_9_16 gc_108).1 ?_
        refine vr_iload_n (pc := 29) hc dX9_nameHere_29 rfl ?_
        refine vr_iconst (pc := 30) hc dX9_nameHere_30 (1 : Int32) (by decide) ?_
        refine vr_iadd (pc := 31) hc dX9_nameHere_31 ?_
        have hb3 := vz_ifp h
        rw [if_pos hb3] at h
        refine vr_iald (pc := 32) hc 8 dX9_nameHere_32 ((gr_9_16 gc_108).2.1) ((gr_9_16 gc_108).2.2) (vz_in_vp hb3) ?_
        refine vr_aload_n (pc := 33) hc dX9_nameHere_33 rfl ?_
        refine vr_getR (pc := 34) hc dX9_nameHere_34 fl_X9_19 gc_108 (gr_9_16 gc_108).1 ?_
        refine vr_iload_n (pc := 37) hc dX9_nameHere_37 rfl ?_
        have hb4 := vz_ifp h
        rw [if_pos hb4] at h
        refine vr_iald (pc := 38) hc 8 dX9_nameHere_38 ((gr_9_16 gc_108).2.1) ((gr_9_16 gc_108).2.2) (vz_in_vp hb4) ?_
        refine vr_isub (pc := 39) hc dX9_nameHere_39 ?_
        refine vr_icmp_ne (pc := 40) hc 47 dX9_nameHere_40 (by decide) (fun hb5 => ?_) (fun hb5 => ?_)
        · rw [if_neg hb5] at h
          refine vr_iconst (pc := 47) hc dX9_nameHere_47 (0 : Int32) (by decide) ?_
          refine vr_istore_n (pc := 48) hc dX9_nameHere_48 (by decide) rfl ?_
          refine vr_iconst (pc := 49) hc dX9_nameHere_49 (0 : Int32) (by decide) ?_
          refine vr_istore_n (pc := 50) hc dX9_nameHere_50 (by decide) rfl ?_
          exact vz_sub (wn_X9_nameHere_51 z μ hc σ hret (fun x1 => f_X9_nameHere_2 n x1 σ) ih vz_fu x1 (0 : Int32) (0 : Int32) h) (vz_sb1 rfl (vz_sb1 rfl (vz_sb1 rfl (vz_sb1 rfl vz_sb0))))
        · rw [if_pos hb5] at h
          refine vr_iconst (pc := 43) hc dX9_nameHere_43 (1 : Int32) (by decide) ?_
          refine vr_goto (pc := 44) hc 48 dX9_nameHere_44 (by decide) ?_
          refine vr_istore_n (pc := 48) hc dX9_nameHere_48 (by decide) rfl ?_
          refine vr_iconst (pc := 49) hc dX9_nameHere_49 (0 : Int32) (by decide) ?_
          refine vr_istore_n (pc := 50) hc dX9_nameHere_50 (by decide) rfl ?_
          exact vz_sub (wn_X9_nameHere_51 z μ hc σ hret (fun x1 => f_X9_nameHere_2 n x1 σ) ih vz_fu x1 (1 : Int32) (0 : Int32) h) (vz_sb1 rfl (vz_sb1 rfl (vz_sb1 rfl (vz_sb1 rfl vz_sb0))))
def f_X9_nameHere  (σ : vz_I) : Option Int32 := f_X9_nameHere_2 vz_fu (0 : Int32) σ
set_option maxRecDepth 20000 in
set_option maxHeartbeats 1000000 in
theorem w_X9_nameHere (z : vz_Z) (l : Launch)  (σ : vz_I)  {r : Int32} (h : f_X9_nameHere  σ = some r) : vz_Con z l 1 yX9_nameHere cX9_nameHere 4 (some .int) [.ref 108] vz_G0 σ vz_N0 (some (.int r)) vz_G0 σ vz_N0 0 0 := by
  refine vz_con (by decide) (Nat.le_of_ble_eq_true rfl) (fun μ hc hl hcap hret => ?_)
  subst hl
  unfold f_X9_nameHere at h
  refine vr_iconst (pc := 0) hc dX9_nameHere_0 (0 : Int32) (by decide) ?_
  refine vr_istore_n (pc := 1) hc dX9_nameHere_1 (by decide) rfl ?_
  exact vz_sub (wn_X9_nameHere_2 z μ hc σ hret vz_fu (0 : Int32) h) (vz_sb1 rfl (vz_sb1 rfl vz_sb0))
-- X9_step: depth 1, effects S=True W=True P=True
def f_X9_step_140 : Nat → vz_I → Option vz_I
  | 0, _ => none
  | n + 1, σ => vz_b1 (f_X9_byteAt (σ 108 12) σ) (fun v16 => if (f_X9_in v16.toInt64 (48 : Int64) (57 : Int64)) = 0 then if (((vz_up σ 108 14 (2 : Int32)) 108 12) - ((vz_up σ 108 14 (2 : Int32)) 108 13)) ≤ (2 : Int32) then some (vz_up σ 108 14 (2 : Int32)) else some (f_X9_fails (1 : Int32) (vz_up σ 108 14 (2 : Int32))) else if (2 : Int32) ≤ ((σ 108 12) - (σ 108 13)) then vz_let (vz_up (vz_up σ 108 15 (σ 108 15)) 108 12 (((vz_up σ 108 15 (σ 108 15)) 108 12) + (1 : Int32))) (fun σ21 => f_X9_step_140 n  σ21) else vz_b1 (f_X9_byteAt (σ 108 12) σ) (fun v24 => vz_let (vz_up σ 108 15 ((((10 : Int32) * (σ 108 15)) + v24) - (48 : Int32))) (fun σ26 => f_X9_step_140 n  (vz_up σ26 108 12 ((σ26 108 12) + (1 : Int32))))))
theorem f_X9_step_140_s (n : Nat)  (σ : vz_I) : f_X9_step_140  (n + 1)  σ = vz_b1 (f_X9_byteAt (σ 108 12) σ) (fun v16 => if (f_X9_in v16.toInt64 (48 : Int64) (57 : Int64)) = 0 then if (((vz_up σ 108 14 (2 : Int32)) 108 12) - ((vz_up σ 108 14 (2 : Int32)) 108 13)) ≤ (2 : Int32) then some (vz_up σ 108 14 (2 : Int32)) else some (f_X9_fails (1 : Int32) (vz_up σ 108 14 (2 : Int32))) else if (2 : Int32) ≤ ((σ 108 12) - (σ 108 13)) then vz_let (vz_up (vz_up σ 108 15 (σ 108 15)) 108 12 (((vz_up σ 108 15 (σ 108 15)) 108 12) + (1 : Int32))) (fun σ21 => f_X9_step_140 n  σ21) else vz_b1 (f_X9_byteAt (σ 108 12) σ) (fun v24 => vz_let (vz_up σ 108 15 ((((10 : Int32) * (σ 108 15)) + v24) - (48 : Int32))) (fun σ26 => f_X9_step_140 n  (vz_up σ26 108 12 ((σ26 108 12) + (1 : Int32)))))) := rfl
set_option maxRecDepth 20000 in
set_option maxHeartbeats 1000000 in
theorem wn_X9_step_140 (z : vz_Z) (μ : vz_M) (hc : vz_C z μ cX9_step RX9 1 2) {σ' : vz_I} (hret : ∀ (pc : Nat) (L : vz_L), vz_ret cX9_step none pc none → vz_V z μ 0 0 pc L (none : Option Value).toList vz_G0 σ' vz_N0) : ∀ (n : Nat)  (σ : vz_I)  (h : f_X9_step_140  n  σ = some σ'), vz_V z μ 0 0 140 [(0, some (.ref 108))] [] vz_G0 σ vz_N0 := by
  intro n
  induction n with
  | zero =>
    intro σ h
    cases h
  | succ n ih =>
    intro σ h
    rw [f_X9_step_140_s] at h
    refine vr_aload_n (pc := 140) hc dX9_step_140 rfl ?_
    refine vr_aload_n (pc := 141) hc dX9_step_141 rfl ?_
    refine vr_getI (pc := 142) hc dX9_step_142 fl_X9_75 gc_108 (gi_9_12 gc_108) ?_
    obtain ⟨v16, he15, h⟩ := vz_b1e h
    refine vr_cVi (pc := 145) hc dX9_step_145 mt_X9_byteAt ml_X9_78 gc_108 (w_X9_byteAt z μ.2.1 (σ 108 12) σ he15) rfl (by decide) rfl (Nat.le_of_ble_eq_true rfl) ?_
    refine vr_i2l (pc := 148) hc dX9_step_148 ?_
    refine vr_ldc2 (pc := 149) hc dX9_step_149 (48 : Int64) cl_X9_89 ?_
    refine vr_ldc2 (pc := 152) hc dX9_step_152 (57 : Int64) cl_X9_91 ?_
    refine vr_cSi (pc := 155) hc dX9_step_155 mt_X9_in sx_X9_in ml_X9_55  (w_X9_in z μ.2.1 v16.toInt64 (48 : Int64) (57 : Int64) σ rfl) rfl (by decide) rfl (Nat.le_of_ble_eq_true rfl) ?_
    refine vr_if_eq (pc := 158) hc 217 dX9_step_158 (by decide) (fun hb18 => ?_) (fun hb18 => ?_)
    · rw [if_pos hb18] at h
      refine vr_aload_n (pc := 217) hc dX9_step_217 rfl ?_
      refine vr_iconst (pc := 218) hc dX9_step_218 (2 : Int32) (by decide) ?_
      refine vr_putI (pc := 219) hc dX9_step_219 fl_X9_72 gc_108 (gi_9_14 gc_108) rfl rfl ?_
      refine vr_aload_n (pc := 222) hc dX9_step_222 rfl ?_
      refine vr_getI (pc := 223) hc dX9_step_223 fl_X9_75 gc_108 (gi_9_12 gc_108) ?_
      refine vr_aload_n (pc := 226) hc dX9_step_226 rfl ?_
      refine vr_getI (pc := 227) hc dX9_step_227 fl_X9_66 gc_108 (gi_9_13 gc_108) ?_
      refine vr_isub (pc := 230) hc dX9_step_230 ?_
      refine vr_iconst (pc := 231) hc dX9_step_231 (2 : Int32) (by decide) ?_
      refine vr_icmp_le (pc := 232) hc 269 dX9_step_232 (by decide) (fun hb19 => ?_) (fun hb19 => ?_)
      · rw [if_pos hb19] at h
        obtain rfl := Option.some.inj h
        exact hret _ _ (vz_ret_v dX9_step_269)
      · rw [if_neg hb19] at h
        refine vr_aload_n (pc := 235) hc dX9_step_235 rfl ?_
        refine vr_iconst (pc := 236) hc dX9_step_236 (1 : Int32) (by decide) ?_
        refine vr_cVv (pc := 237) hc dX9_step_237 mt_X9_fails ml_X9_93 gc_108 (w_X9_fails z μ.2.1 (1 : Int32) (vz_up σ 108 14 (2 : Int32)) rfl) rfl (by decide) rfl (Nat.le_of_ble_eq_true rfl) ?_
        refine vr_goto (pc := 240) hc 269 dX9_step_240 (by decide) ?_
        obtain rfl := Option.some.inj h
        exact hret _ _ (vz_ret_v dX9_step_269)
    · rw [if_neg hb18] at h
      refine vr_aload_n (pc := 161) hc dX9_step_161 rfl ?_
      refine vr_aload_n (pc := 162) hc dX9_step_162 rfl ?_
      refine vr_getI (pc := 163) hc dX9_step_163 fl_X9_75 gc_108 (gi_9_12 gc_108) ?_
      refine vr_aload_n (pc := 166) hc dX9_step_166 rfl ?_
      refine vr_getI (pc := 167) hc dX9_step_167 fl_X9_66 gc_108 (gi_9_13 gc_108) ?_
      refine vr_isub (pc := 170) hc dX9_step_170 ?_
      refine vr_iconst (pc := 171) hc dX9_step_171 (2 : Int32) (by decide) ?_
      refine vr_icmp_ge (pc := 172) hc 197 dX9_step_172 (by decide) (fun hb20 => ?_) (fun hb20 => ?_)
      · rw [if_pos hb20] at h
        refine vr_aload_n (pc := 197) hc dX9_step_197 rfl ?_
        refine vr_getI (pc := 198) hc dX9_step_198 fl_X9_82 gc_108 (gi_9_15 gc_108) ?_
        refine vr_putI (pc := 201) hc dX9_step_201 fl_X9_82 gc_108 (gi_9_15 gc_108) rfl rfl ?_
        refine vr_aload_n (pc := 204) hc dX9_step_204 rfl ?_
        refine vr_dup (pc := 205) hc dX9_step_205 rfl ?_
        refine vr_getI (pc := 206) hc dX9_step_206 fl_X9_75 gc_108 (gi_9_12 gc_108) ?_
        refine vr_iconst (pc := 209) hc dX9_step_209 (1 : Int32) (by decide) ?_
        refine vr_iadd (pc := 210) hc dX9_step_210 ?_
        refine vr_putI (pc := 211) hc dX9_step_211 fl_X9_75 gc_108 (gi_9_12 gc_108) rfl rfl ?_
        obtain ⟨σ21, hσ22⟩ : ∃ x, x = vz_up (vz_up σ 108 15 (σ 108 15)) 108 12 (((vz_up σ 108 15 (σ 108 15)) 108 12) + (1 : Int32)) := ⟨_, rfl⟩
        rw [← hσ22] at h ⊢
        rw [vz_let_e] at h
        refine vr_goto (pc := 214) hc 140 dX9_step_214 (by decide) ?_
        exact vz_sub (ih  σ21  h) (vz_sb1 rfl vz_sb0)
      · rw [if_neg hb20] at h
        refine vr_bipush (pc := 175) hc dX9_step_175 (10 : Int32) (by decide) ?_
        refine vr_aload_n (pc := 177) hc dX9_step_177 rfl ?_
        refine vr_getI (pc := 178) hc dX9_step_178 fl_X9_82 gc_108 (gi_9_15 gc_108) ?_
        refine vr_imul (pc := 181) hc dX9_step_181 ?_
        refine vr_aload_n (pc := 182) hc dX9_step_182 rfl ?_
        refine vr_aload_n (pc := 183) hc dX9_step_183 rfl ?_
        refine vr_getI (pc := 184) hc dX9_step_184 fl_X9_75 gc_108 (gi_9_12 gc_108) ?_
        obtain ⟨v24, he23, h⟩ := vz_b1e h
        refine vr_cVi (pc := 187) hc dX9_step_187 mt_X9_byteAt ml_X9_78 gc_108 (w_X9_byteAt z μ.2.1 (σ 108 12) σ he23) rfl (by decide) rfl (Nat.le_of_ble_eq_true rfl) ?_
        refine vr_iadd (pc := 190) hc dX9_step_190 ?_
        refine vr_bipush (pc := 191) hc dX9_step_191 (48 : Int32) (by decide) ?_
        refine vr_isub (pc := 193) hc dX9_step_193 ?_
        refine vr_goto (pc := 194) hc 201 dX9_step_194 (by decide) ?_
        refine vr_putI (pc := 201) hc dX9_step_201 fl_X9_82 gc_108 (gi_9_15 gc_108) rfl rfl ?_
        obtain ⟨σ26, hσ27⟩ : ∃ x, x = vz_up σ 108 15 ((((10 : Int32) * (σ 108 15)) + v24) - (48 : Int32)) := ⟨_, rfl⟩
        rw [← hσ27] at h ⊢
        rw [vz_let_e] at h
        refine vr_aload_n (pc := 204) hc dX9_step_204 rfl ?_
        refine vr_dup (pc := 205) hc dX9_step_205 rfl ?_
        refine vr_getI (pc := 206) hc dX9_step_206 fl_X9_75 gc_108 (gi_9_12 gc_108) ?_
        refine vr_iconst (pc := 209) hc dX9_step_209 (1 : Int32) (by decide) ?_
        refine vr_iadd (pc := 210) hc dX9_step_210 ?_
        refine vr_putI (pc := 211) hc dX9_step_211 fl_X9_75 gc_108 (gi_9_12 gc_108) rfl rfl ?_
        refine vr_goto (pc := 214) hc 140 dX9_step_214 (by decide) ?_
        exact vz_sub (ih  (vz_up σ26 108 12 ((σ26 108 12) + (1 : Int32)))  h) (vz_sb1 rfl vz_sb0)
def f_X9_step_84 : Nat → vz_I → Option vz_I
  | 0, _ => none
  | n + 1, σ => vz_b1 (f_X9_byteAt (σ 108 12) σ) (fun v29 => if (f_X9_in v29.toInt64 (97 : Int64) (122 : Int64)) = 0 then some (vz_up σ 108 14 (1 : Int32)) else f_X9_step_84 n  (vz_up σ 108 12 ((σ 108 12) + (1 : Int32))))
theorem f_X9_step_84_s (n : Nat)  (σ : vz_I) : f_X9_step_84  (n + 1)  σ = vz_b1 (f_X9_byteAt (σ 108 12) σ) (fun v29 => if (f_X9_in v29.toInt64 (97 : Int64) (122 : Int64)) = 0 then some (vz_up σ 108 14 (1 : Int32)) else f_X9_step_84 n  (vz_up σ 108 12 ((σ 108 12) + (1 : Int32)))) := rfl
set_option maxRecDepth 20000 in
set_option maxHeartbeats 1000000 in
theorem wn_X9_step_84 (z : vz_Z) (μ : vz_M) (hc : vz_C z μ cX9_step RX9 1 2) {σ' : vz_I} (hret : ∀ (pc : Nat) (L : vz_L), vz_ret cX9_step none pc none → vz_V z μ 0 0 pc L (none : Option Value).toList vz_G0 σ' vz_N0) : ∀ (n : Nat)  (σ : vz_I)  (h : f_X9_step_84  n  σ = some σ'), vz_V z μ 0 0 84 [(0, some (.ref 108))] [] vz_G0 σ vz_N0 := by
  intro n
  induction n with
  | zero =>
    intro σ h
    cases h
  | succ n ih =>
    intro σ h
    rw [f_X9_step_84_s] at h
    refine vr_aload_n (pc := 84) hc dX9_step_84 rfl ?_
    refine vr_aload_n (pc := 85) hc dX9_step_85 rfl ?_
    refine vr_getI (pc := 86) hc dX9_step_86 fl_X9_75 gc_108 (gi_9_12 gc_108) ?_
    obtain ⟨v29, he28, h⟩ := vz_b1e h
    refine vr_cVi (pc := 89) hc dX9_step_89 mt_X9_byteAt ml_X9_78 gc_108 (w_X9_byteAt z μ.2.1 (σ 108 12) σ he28) rfl (by decide) rfl (Nat.le_of_ble_eq_true rfl) ?_
    refine vr_i2l (pc := 92) hc dX9_step_92 ?_
    refine vr_ldc2 (pc := 93) hc dX9_step_93 (97 : Int64) cl_X9_85 ?_
    refine vr_ldc2 (pc := 96) hc dX9_step_96 (122 : Int64) cl_X9_87 ?_
    refine vr_cSi (pc := 99) hc dX9_step_99 mt_X9_in sx_X9_in ml_X9_55  (w_X9_in z μ.2.1 v29.toInt64 (97 : Int64) (122 : Int64) σ rfl) rfl (by decide) rfl (Nat.le_of_ble_eq_true rfl) ?_
    refine vr_if_eq (pc := 102) hc 118 dX9_step_102 (by decide) (fun hb31 => ?_) (fun hb31 => ?_)
    · rw [if_pos hb31] at h
      refine vr_aload_n (pc := 118) hc dX9_step_118 rfl ?_
      refine vr_iconst (pc := 119) hc dX9_step_119 (1 : Int32) (by decide) ?_
      refine vr_putI (pc := 120) hc dX9_step_120 fl_X9_72 gc_108 (gi_9_14 gc_108) rfl rfl ?_
      refine vr_goto (pc := 123) hc 269 dX9_step_123 (by decide) ?_
      obtain rfl := Option.some.inj h
      exact hret _ _ (vz_ret_v dX9_step_269)
    · rw [if_neg hb31] at h
      refine vr_aload_n (pc := 105) hc dX9_step_105 rfl ?_
      refine vr_dup (pc := 106) hc dX9_step_106 rfl ?_
      refine vr_getI (pc := 107) hc dX9_step_107 fl_X9_75 gc_108 (gi_9_12 gc_108) ?_
      refine vr_iconst (pc := 110) hc dX9_step_110 (1 : Int32) (by decide) ?_
      refine vr_iadd (pc := 111) hc dX9_step_111 ?_
      refine vr_putI (pc := 112) hc dX9_step_112 fl_X9_75 gc_108 (gi_9_12 gc_108) rfl rfl ?_
      refine vr_goto (pc := 115) hc 84 dX9_step_115 (by decide) ?_
      exact vz_sub (ih  (vz_up σ 108 12 ((σ 108 12) + (1 : Int32)))  h) (vz_sb1 rfl vz_sb0)
def f_X9_step_8 : Nat → vz_I → Option vz_I
  | 0, _ => none
  | n + 1, σ => vz_b1 (f_X9_byteAt (σ 108 12) σ) (fun v3 => if v3 = (32 : Int32) then f_X9_step_8 n  (vz_up σ 108 12 ((σ 108 12) + (1 : Int32))) else vz_b1 (f_X9_byteAt ((vz_up σ 108 13 (σ 108 12)) 108 12) (vz_up σ 108 13 (σ 108 12))) (fun v7 => if v7 = (-4 : Int32) then vz_let (vz_up (vz_up (vz_up σ 108 13 (σ 108 12)) 108 15 (0 : Int32)) 108 14 (0 : Int32)) (fun σ32 => some σ32) else if (f_X9_in v7.toInt64 (97 : Int64) (122 : Int64)) = 0 then if (f_X9_in v7.toInt64 (48 : Int64) (57 : Int64)) = 0 then vz_let (vz_up (vz_up (vz_up σ 108 13 (σ 108 12)) 108 15 (0 : Int32)) 108 14 (3 : Int32)) (fun σ12 => if v7 = (59 : Int32) then some (vz_up σ12 108 12 ((σ12 108 12) + (1 : Int32))) else some (f_X9_fails (1 : Int32) (vz_up σ12 108 12 ((σ12 108 12) + (1 : Int32))))) else f_X9_step_140 vz_fu (vz_up (vz_up σ 108 13 (σ 108 12)) 108 15 (0 : Int32)) else f_X9_step_84 vz_fu (vz_up (vz_up σ 108 13 (σ 108 12)) 108 15 (0 : Int32))))
theorem f_X9_step_8_s (n : Nat)  (σ : vz_I) : f_X9_step_8  (n + 1)  σ = vz_b1 (f_X9_byteAt (σ 108 12) σ) (fun v3 => if v3 = (32 : Int32) then f_X9_step_8 n  (vz_up σ 108 12 ((σ 108 12) + (1 : Int32))) else vz_b1 (f_X9_byteAt ((vz_up σ 108 13 (σ 108 12)) 108 12) (vz_up σ 108 13 (σ 108 12))) (fun v7 => if v7 = (-4 : Int32) then vz_let (vz_up (vz_up (vz_up σ 108 13 (σ 108 12)) 108 15 (0 : Int32)) 108 14 (0 : Int32)) (fun σ32 => some σ32) else if (f_X9_in v7.toInt64 (97 : Int64) (122 : Int64)) = 0 then if (f_X9_in v7.toInt64 (48 : Int64) (57 : Int64)) = 0 then vz_let (vz_up (vz_up (vz_up σ 108 13 (σ 108 12)) 108 15 (0 : Int32)) 108 14 (3 : Int32)) (fun σ12 => if v7 = (59 : Int32) then some (vz_up σ12 108 12 ((σ12 108 12) + (1 : Int32))) else some (f_X9_fails (1 : Int32) (vz_up σ12 108 12 ((σ12 108 12) + (1 : Int32))))) else f_X9_step_140 vz_fu (vz_up (vz_up σ 108 13 (σ 108 12)) 108 15 (0 : Int32)) else f_X9_step_84 vz_fu (vz_up (vz_up σ 108 13 (σ 108 12)) 108 15 (0 : Int32)))) := rfl
set_option maxRecDepth 20000 in
set_option maxHeartbeats 1000000 in
theorem wn_X9_step_8 (z : vz_Z) (μ : vz_M) (hc : vz_C z μ cX9_step RX9 1 2) {σ' : vz_I} (hret : ∀ (pc : Nat) (L : vz_L), vz_ret cX9_step none pc none → vz_V z μ 0 0 pc L (none : Option Value).toList vz_G0 σ' vz_N0) : ∀ (n : Nat)  (σ : vz_I)  (h : f_X9_step_8  n  σ = some σ'), vz_V z μ 0 0 8 [(0, some (.ref 108))] [] vz_G0 σ vz_N0 := by
  intro n
  induction n with
  | zero =>
    intro σ h
    cases h
  | succ n ih =>
    intro σ h
    rw [f_X9_step_8_s] at h
    refine vr_aload_n (pc := 8) hc dX9_step_8 rfl ?_
    refine vr_aload_n (pc := 9) hc dX9_step_9 rfl ?_
    refine vr_getI (pc := 10) hc dX9_step_10 fl_X9_75 gc_108 (gi_9_12 gc_108) ?_
    obtain ⟨v3, he2, h⟩ := vz_b1e h
    refine vr_cVi (pc := 13) hc dX9_step_13 mt_X9_byteAt ml_X9_78 gc_108 (w_X9_byteAt z μ.2.1 (σ 108 12) σ he2) rfl (by decide) rfl (Nat.le_of_ble_eq_true rfl) ?_
    refine vr_bipush (pc := 16) hc dX9_step_16 (32 : Int32) (by decide) ?_
    refine vr_icmp_ne (pc := 18) hc 34 dX9_step_18 (by decide) (fun hb5 => ?_) (fun hb5 => ?_)
    · rw [if_neg hb5] at h
      refine vr_aload_n (pc := 34) hc dX9_step_34 rfl ?_
      refine vr_aload_n (pc := 35) hc dX9_step_35 rfl ?_
      refine vr_getI (pc := 36) hc dX9_step_36 fl_X9_75 gc_108 (gi_9_12 gc_108) ?_
      refine vr_putI (pc := 39) hc dX9_step_39 fl_X9_66 gc_108 (gi_9_13 gc_108) rfl rfl ?_
      refine vr_aload_n (pc := 42) hc dX9_step_42 rfl ?_
      refine vr_aload_n (pc := 43) hc dX9_step_43 rfl ?_
      refine vr_getI (pc := 44) hc dX9_step_44 fl_X9_75 gc_108 (gi_9_12 gc_108) ?_
      obtain ⟨v7, he6, h⟩ := vz_b1e h
      refine vr_cVi (pc := 47) hc dX9_step_47 mt_X9_byteAt ml_X9_78 gc_108 (w_X9_byteAt z μ.2.1 ((vz_up σ 108 13 (σ 108 12)) 108 12) (vz_up σ 108 13 (σ 108 12)) he6) rfl (by decide) rfl (Nat.le_of_ble_eq_true rfl) ?_
      refine vr_istore_n (pc := 50) hc dX9_step_50 (by decide) rfl ?_
      refine vr_aload_n (pc := 51) hc dX9_step_51 rfl ?_
      refine vr_iconst (pc := 52) hc dX9_step_52 (0 : Int32) (by decide) ?_
      refine vr_putI (pc := 53) hc dX9_step_53 fl_X9_82 gc_108 (gi_9_15 gc_108) rfl rfl ?_
      refine vr_iload_n (pc := 56) hc dX9_step_56 rfl ?_
      refine vr_bipush (pc := 57) hc dX9_step_57 (-4 : Int32) (by decide) ?_
      refine vr_icmp_ne (pc := 59) hc 70 dX9_step_59 (by decide) (fun hb9 => ?_) (fun hb9 => ?_)
      · rw [if_neg hb9] at h
        refine vr_iload_n (pc := 70) hc dX9_step_70 rfl ?_
        refine vr_i2l (pc := 71) hc dX9_step_71 ?_
        refine vr_ldc2 (pc := 72) hc dX9_step_72 (97 : Int64) cl_X9_85 ?_
        refine vr_ldc2 (pc := 75) hc dX9_step_75 (122 : Int64) cl_X9_87 ?_
        refine vr_cSi (pc := 78) hc dX9_step_78 mt_X9_in sx_X9_in ml_X9_55  (w_X9_in z μ.2.1 v7.toInt64 (97 : Int64) (122 : Int64) (vz_up (vz_up σ 108 13 (σ 108 12)) 108 15 (0 : Int32)) rfl) rfl (by decide) rfl (Nat.le_of_ble_eq_true rfl) ?_
        refine vr_if_eq (pc := 81) hc 126 dX9_step_81 (by decide) (fun hb10 => ?_) (fun hb10 => ?_)
        · rw [if_pos hb10] at h
          refine vr_iload_n (pc := 126) hc dX9_step_126 rfl ?_
          refine vr_i2l (pc := 127) hc dX9_step_127 ?_
          refine vr_ldc2 (pc := 128) hc dX9_step_128 (48 : Int64) cl_X9_89 ?_
          refine vr_ldc2 (pc := 131) hc dX9_step_131 (57 : Int64) cl_X9_91 ?_
          refine vr_cSi (pc := 134) hc dX9_step_134 mt_X9_in sx_X9_in ml_X9_55  (w_X9_in z μ.2.1 v7.toInt64 (48 : Int64) (57 : Int64) (vz_up (vz_up σ 108 13 (σ 108 12)) 108 15 (0 : Int32)) rfl) rfl (by decide) rfl (Nat.le_of_ble_eq_true rfl) ?_
          refine vr_if_eq (pc := 137) hc 243 dX9_step_137 (by decide) (fun hb11 => ?_) (fun hb11 => ?_)
          · rw [if_pos hb11] at h
            refine vr_aload_n (pc := 243) hc dX9_step_243 rfl ?_
            refine vr_iconst (pc := 244) hc dX9_step_244 (3 : Int32) (by decide) ?_
            refine vr_putI (pc := 245) hc dX9_step_245 fl_X9_72 gc_108 (gi_9_14 gc_108) rfl rfl ?_
            obtain ⟨σ12, hσ13⟩ : ∃ x, x = vz_up (vz_up (vz_up σ 108 13 (σ 108 12)) 108 15 (0 : Int32)) 108 14 (3 : Int32) := ⟨_, rfl⟩
            rw [← hσ13] at h ⊢
            rw [vz_let_e] at h
            refine vr_aload_n (pc := 248) hc dX9_step_248 rfl ?_
            refine vr_dup (pc := 249) hc dX9_step_249 rfl ?_
            refine vr_getI (pc := 250) hc dX9_step_250 fl_X9_75 gc_108 (gi_9_12 gc_108) ?_
            refine vr_iconst (pc := 253) hc dX9_step_253 (1 : Int32) (by decide) ?_
            refine vr_iadd (pc := 254) hc dX9_step_254 ?_
            refine vr_putI (pc := 255) hc dX9_step_255 fl_X9_75 gc_108 (gi_9_12 gc_108) rfl rfl ?_
            refine vr_iload_n (pc := 258) hc dX9_step_258 rfl ?_
            refine vr_bipush (pc := 259) hc dX9_step_259 (59 : Int32) (by decide) ?_
            refine vr_icmp_eq (pc := 261) hc 269 dX9_step_261 (by decide) (fun hb14 => ?_) (fun hb14 => ?_)
            · rw [if_pos hb14] at h
              obtain rfl := Option.some.inj h
              exact hret _ _ (vz_ret_v dX9_step_269)
            · rw [if_neg hb14] at h
              refine vr_aload_n (pc := 264) hc dX9_step_264 rfl ?_
              refine vr_iconst (pc := 265) hc dX9_step_265 (1 : Int32) (by decide) ?_
              refine vr_cVv (pc := 266) hc dX9_step_266 mt_X9_fails ml_X9_93 gc_108 (w_X9_fails z μ.2.1 (1 : Int32) (vz_up σ12 108 12 ((σ12 108 12) + (1 : Int32))) rfl) rfl (by decide) rfl (Nat.le_of_ble_eq_true rfl) ?_
              obtain rfl := Option.some.inj h
              exact hret _ _ (vz_ret_v dX9_step_269)
          · rw [if_neg hb11] at h
            exact vz_sub (wn_X9_step_140 z μ hc hret vz_fu (vz_up (vz_up σ 108 13 (σ 108 12)) 108 15 (0 : Int32)) h) (vz_sb1 rfl vz_sb0)
        · rw [if_neg hb10] at h
          exact vz_sub (wn_X9_step_84 z μ hc hret vz_fu (vz_up (vz_up σ 108 13 (σ 108 12)) 108 15 (0 : Int32)) h) (vz_sb1 rfl vz_sb0)
      · rw [if_pos hb9] at h
        refine vr_aload_n (pc := 62) hc dX9_step_62 rfl ?_
        refine vr_iconst (pc := 63) hc dX9_step_63 (0 : Int32) (by decide) ?_
        refine vr_putI (pc := 64) hc dX9_step_64 fl_X9_72 gc_108 (gi_9_14 gc_108) rfl rfl ?_
        obtain ⟨σ32, hσ33⟩ : ∃ x, x = vz_up (vz_up (vz_up σ 108 13 (σ 108 12)) 108 15 (0 : Int32)) 108 14 (0 : Int32) := ⟨_, rfl⟩
        rw [← hσ33] at h ⊢
        rw [vz_let_e] at h
        refine vr_goto (pc := 67) hc 269 dX9_step_67 (by decide) ?_
        obtain rfl := Option.some.inj h
        exact hret _ _ (vz_ret_v dX9_step_269)
    · rw [if_pos hb5] at h
      refine vr_aload_n (pc := 21) hc dX9_step_21 rfl ?_
      refine vr_dup (pc := 22) hc dX9_step_22 rfl ?_
      refine vr_getI (pc := 23) hc dX9_step_23 fl_X9_75 gc_108 (gi_9_12 gc_108) ?_
      refine vr_iconst (pc := 26) hc dX9_step_26 (1 : Int32) (by decide) ?_
      refine vr_iadd (pc := 27) hc dX9_step_27 ?_
      refine vr_putI (pc := 28) hc dX9_step_28 fl_X9_75 gc_108 (gi_9_12 gc_108) rfl rfl ?_
      refine vr_goto (pc := 31) hc 8 dX9_step_31 (by decide) ?_
      exact vz_sub (ih  (vz_up σ 108 12 ((σ 108 12) + (1 : Int32)))  h) (vz_sb1 rfl vz_sb0)
def f_X9_step  (σ : vz_I) : Option vz_I := if (σ 108 10) ≤ 0 then f_X9_step_8 vz_fu σ else some σ
set_option maxRecDepth 20000 in
set_option maxHeartbeats 1000000 in
theorem w_X9_step (z : vz_Z) (l : Launch)  (σ : vz_I)  {σ' : vz_I} (h : f_X9_step  σ = some σ') : vz_Con z l 1 yX9_step cX9_step 2 none [.ref 108] vz_G0 σ vz_N0 none vz_G0 σ' vz_N0 0 0 := by
  refine vz_con (by decide) (Nat.le_of_ble_eq_true rfl) (fun μ hc hl hcap hret => ?_)
  subst hl
  unfold f_X9_step at h
  refine vr_aload_n (pc := 0) hc dX9_step_0 rfl ?_
  refine vr_getI (pc := 1) hc dX9_step_1 fl_X9_63 gc_108 (gi_9_10 gc_108) ?_
  refine vr_if_le (pc := 4) hc 8 dX9_step_4 (by decide) (fun hb1 => ?_) (fun hb1 => ?_)
  · rw [if_pos hb1] at h
    exact vz_sub (wn_X9_step_8 z μ hc hret vz_fu σ h) (vz_sb1 rfl vz_sb0)
  · rw [if_neg hb1] at h
    obtain rfl := Option.some.inj h
    exact hret _ _ (vz_ret_v dX9_step_7)
-- X9_isMan: depth 1, effects S=True W=False P=False
def f_X9_isMan (x1 : Int32) (σ : vz_I) : Int32 := f_X9_in x1.toInt64 (0 : Int64) (((σ 108 1) - (1 : Int32)).toInt64)
set_option maxRecDepth 20000 in
set_option maxHeartbeats 1000000 in
theorem w_X9_isMan (z : vz_Z) (l : Launch) (x1 : Int32) (σ : vz_I)  {r : Int32} (h : f_X9_isMan x1 σ = r) : vz_Con z l 1 yX9_isMan cX9_isMan 2 (some .boolean) [.ref 108, .int x1] vz_G0 σ vz_N0 (some (.int r)) vz_G0 σ vz_N0 0 0 := by
  refine vz_con (by decide) (Nat.le_of_ble_eq_true rfl) (fun μ hc hl hcap hret => ?_)
  subst hl
  unfold f_X9_isMan at h
  refine vr_iload_n (pc := 0) hc dX9_isMan_0 rfl ?_
  refine vr_i2l (pc := 1) hc dX9_isMan_1 ?_
  refine vr_lconst (pc := 2) hc dX9_isMan_2 (0 : Int64) (by decide) ?_
  refine vr_aload_n (pc := 3) hc dX9_isMan_3 rfl ?_
  refine vr_getI (pc := 4) hc dX9_isMan_4 fl_X9_150 gc_108 (gi_9_1 gc_108) ?_
  refine vr_iconst (pc := 7) hc dX9_isMan_7 (1 : Int32) (by decide) ?_
  refine vr_isub (pc := 8) hc dX9_isMan_8 ?_
  refine vr_i2l (pc := 9) hc dX9_isMan_9 ?_
  refine vr_cSi (pc := 10) hc dX9_isMan_10 mt_X9_in sx_X9_in ml_X9_55  (w_X9_in z μ.2.1 x1.toInt64 (0 : Int64) (((σ 108 1) - (1 : Int32)).toInt64) σ rfl) rfl (by decide) rfl (Nat.le_of_ble_eq_true rfl) ?_
  subst h
  exact hret _ _ (vz_ret_i dX9_isMan_13 (bn_X9_in x1.toInt64 (0 : Int64) (((σ 108 1) - (1 : Int32)).toInt64)))
theorem bn_X9_isMan (x1 : Int32) (σ : vz_I) : narrow .boolean (.int (f_X9_isMan x1 σ)) = .int (f_X9_isMan x1 σ) := by
  unfold f_X9_isMan
  exact bn_X9_in _ _ _
-- X9_isReader: depth 1, effects S=True W=False P=False
def f_X9_isReader (x1 : Int32) (σ : vz_I) : Int32 := f_X9_in x1.toInt64 (0 : Int64) (((σ 108 2) - (1 : Int32)).toInt64)
set_option maxRecDepth 20000 in
set_option maxHeartbeats 1000000 in
theorem w_X9_isReader (z : vz_Z) (l : Launch) (x1 : Int32) (σ : vz_I)  {r : Int32} (h : f_X9_isReader x1 σ = r) : vz_Con z l 1 yX9_isReader cX9_isReader 2 (some .boolean) [.ref 108, .int x1] vz_G0 σ vz_N0 (some (.int r)) vz_G0 σ vz_N0 0 0 := by
  refine vz_con (by decide) (Nat.le_of_ble_eq_true rfl) (fun μ hc hl hcap hret => ?_)
  subst hl
  unfold f_X9_isReader at h
  refine vr_iload_n (pc := 0) hc dX9_isReader_0 rfl ?_
  refine vr_i2l (pc := 1) hc dX9_isReader_1 ?_
  refine vr_lconst (pc := 2) hc dX9_isReader_2 (0 : Int64) (by decide) ?_
  refine vr_aload_n (pc := 3) hc dX9_isReader_3 rfl ?_
  refine vr_getI (pc := 4) hc dX9_isReader_4 fl_X9_153 gc_108 (gi_9_2 gc_108) ?_
  refine vr_iconst (pc := 7) hc dX9_isReader_7 (1 : Int32) (by decide) ?_
  refine vr_isub (pc := 8) hc dX9_isReader_8 ?_
  refine vr_i2l (pc := 9) hc dX9_isReader_9 ?_
  refine vr_cSi (pc := 10) hc dX9_isReader_10 mt_X9_in sx_X9_in ml_X9_55  (w_X9_in z μ.2.1 x1.toInt64 (0 : Int64) (((σ 108 2) - (1 : Int32)).toInt64) σ rfl) rfl (by decide) rfl (Nat.le_of_ble_eq_true rfl) ?_
  subst h
  exact hret _ _ (vz_ret_i dX9_isReader_13 (bn_X9_in x1.toInt64 (0 : Int64) (((σ 108 2) - (1 : Int32)).toInt64)))
theorem bn_X9_isReader (x1 : Int32) (σ : vz_I) : narrow .boolean (.int (f_X9_isReader x1 σ)) = .int (f_X9_isReader x1 σ) := by
  unfold f_X9_isReader
  exact bn_X9_in _ _ _
-- X9_isCorner: depth 1, effects S=False W=False P=False
def f_X9_isCorner (x0 : Int32)  : Int32 := f_X9_in x0.toInt64 (0 : Int64) (7 : Int64)
set_option maxRecDepth 20000 in
set_option maxHeartbeats 1000000 in
theorem w_X9_isCorner (z : vz_Z) (l : Launch) (x0 : Int32) (σ : vz_I)  {r : Int32} (h : f_X9_isCorner x0  = r) : vz_Con z l 1 yX9_isCorner cX9_isCorner 1 (some .boolean) [.int x0] vz_G0 σ vz_N0 (some (.int r)) vz_G0 σ vz_N0 0 0 := by
  refine vz_con (by decide) (Nat.le_of_ble_eq_true rfl) (fun μ hc hl hcap hret => ?_)
  subst hl
  unfold f_X9_isCorner at h
  refine vr_iload_n (pc := 0) hc dX9_isCorner_0 rfl ?_
  refine vr_i2l (pc := 1) hc dX9_isCorner_1 ?_
  refine vr_lconst (pc := 2) hc dX9_isCorner_2 (0 : Int64) (by decide) ?_
  refine vr_ldc2 (pc := 3) hc dX9_isCorner_3 (7 : Int64) cl_X9_159 ?_
  refine vr_cSi (pc := 6) hc dX9_isCorner_6 mt_X9_in sx_X9_in ml_X9_55  (w_X9_in z μ.2.1 x0.toInt64 (0 : Int64) (7 : Int64) σ rfl) rfl (by decide) rfl (Nat.le_of_ble_eq_true rfl) ?_
  subst h
  exact hret _ _ (vz_ret_i dX9_isCorner_9 (bn_X9_in x0.toInt64 (0 : Int64) (7 : Int64)))
theorem bn_X9_isCorner (x0 : Int32)  : narrow .boolean (.int (f_X9_isCorner x0 )) = .int (f_X9_isCorner x0 ) := by
  unfold f_X9_isCorner
  exact bn_X9_in _ _ _
-- X9_isMinute: depth 1, effects S=False W=False P=False
def f_X9_isMinute (x0 : Int32)  : Int32 := f_X9_in x0.toInt64 (0 : Int64) (59 : Int64)
set_option maxRecDepth 20000 in
set_option maxHeartbeats 1000000 in
theorem w_X9_isMinute (z : vz_Z) (l : Launch) (x0 : Int32) (σ : vz_I)  {r : Int32} (h : f_X9_isMinute x0  = r) : vz_Con z l 1 yX9_isMinute cX9_isMinute 1 (some .boolean) [.int x0] vz_G0 σ vz_N0 (some (.int r)) vz_G0 σ vz_N0 0 0 := by
  refine vz_con (by decide) (Nat.le_of_ble_eq_true rfl) (fun μ hc hl hcap hret => ?_)
  subst hl
  unfold f_X9_isMinute at h
  refine vr_iload_n (pc := 0) hc dX9_isMinute_0 rfl ?_
  refine vr_i2l (pc := 1) hc dX9_isMinute_1 ?_
  refine vr_lconst (pc := 2) hc dX9_isMinute_2 (0 : Int64) (by decide) ?_
  refine vr_ldc2 (pc := 3) hc dX9_isMinute_3 (59 : Int64) cl_X9_161 ?_
  refine vr_cSi (pc := 6) hc dX9_isMinute_6 mt_X9_in sx_X9_in ml_X9_55  (w_X9_in z μ.2.1 x0.toInt64 (0 : Int64) (59 : Int64) σ rfl) rfl (by decide) rfl (Nat.le_of_ble_eq_true rfl) ?_
  subst h
  exact hret _ _ (vz_ret_i dX9_isMinute_9 (bn_X9_in x0.toInt64 (0 : Int64) (59 : Int64)))
theorem bn_X9_isMinute (x0 : Int32)  : narrow .boolean (.int (f_X9_isMinute x0 )) = .int (f_X9_isMinute x0 ) := by
  unfold f_X9_isMinute
  exact bn_X9_in _ _ _
-- X9_isNews: depth 1, effects S=False W=False P=False
def f_X9_isNews (x0 : Int32)  : Int32 := f_X9_in x0.toInt64 (0 : Int64) (9 : Int64)
set_option maxRecDepth 20000 in
set_option maxHeartbeats 1000000 in
theorem w_X9_isNews (z : vz_Z) (l : Launch) (x0 : Int32) (σ : vz_I)  {r : Int32} (h : f_X9_isNews x0  = r) : vz_Con z l 1 yX9_isNews cX9_isNews 1 (some .boolean) [.int x0] vz_G0 σ vz_N0 (some (.int r)) vz_G0 σ vz_N0 0 0 := by
  refine vz_con (by decide) (Nat.le_of_ble_eq_true rfl) (fun μ hc hl hcap hret => ?_)
  subst hl
  unfold f_X9_isNews at h
  refine vr_iload_n (pc := 0) hc dX9_isNews_0 rfl ?_
  refine vr_i2l (pc := 1) hc dX9_isNews_1 ?_
  refine vr_lconst (pc := 2) hc dX9_isNews_2 (0 : Int64) (by decide) ?_
  refine vr_ldc2 (pc := 3) hc dX9_isNews_3 (9 : Int64) cl_X9_163 ?_
  refine vr_cSi (pc := 6) hc dX9_isNews_6 mt_X9_in sx_X9_in ml_X9_55  (w_X9_in z μ.2.1 x0.toInt64 (0 : Int64) (9 : Int64) σ rfl) rfl (by decide) rfl (Nat.le_of_ble_eq_true rfl) ?_
  subst h
  exact hret _ _ (vz_ret_i dX9_isNews_9 (bn_X9_in x0.toInt64 (0 : Int64) (9 : Int64)))
theorem bn_X9_isNews (x0 : Int32)  : narrow .boolean (.int (f_X9_isNews x0 )) = .int (f_X9_isNews x0 ) := by
  unfold f_X9_isNews
  exact bn_X9_in _ _ _
-- X9_isWalkOn: depth 1, effects S=True W=False P=True
def f_X9_isWalkOn_18 : Nat → Int32 → Int32 → Int32 → Int32 → Int32 → vz_I → Option Int32
  | 0, _, _, _, _, _, _ => none
  | n + 1, x1, x2, x3, x4, x5, σ => if x3 ≤ x5 then if x4 = 0 ∨ x4 = 1 then some x4 else none else if x3 ≤ (1 : Int32) then if x4 = 0 ∨ x4 = 1 then some x4 else none else if x4 = 0 then f_X9_isWalkOn_18 n x1 x2 x3 (0 : Int32) (x5 + (1 : Int32)) σ else if vz_in (((x1 + (12 : Int32)) + ((4 : Int32) * x2)) + x5) 305 then if x3 = 0 then none else if vz_in (((x1 + (12 : Int32)) + ((4 : Int32) * x2)) + ((x5 + (1 : Int32)) - (x5 + (1 : Int32)) / x3 * x3)) 305 then vz_b1 (f_X9_isStreetOn x1 (σ 109 (((x1 + (12 : Int32)) + ((4 : Int32) * x2)) + x5).toNatClampNeg) (σ 109 (((x1 + (12 : Int32)) + ((4 : Int32) * x2)) + ((x5 + (1 : Int32)) - (x5 + (1 : Int32)) / x3 * x3)).toNatClampNeg) σ) (fun v11 => if v11 = 0 then f_X9_isWalkOn_18 n x1 x2 x3 (0 : Int32) (x5 + (1 : Int32)) σ else f_X9_isWalkOn_18 n x1 x2 x3 (1 : Int32) (x5 + (1 : Int32)) σ) else none else none
theorem f_X9_isWalkOn_18_s (n : Nat) (x1 : Int32) (x2 : Int32) (x3 : Int32) (x4 : Int32) (x5 : Int32) (σ : vz_I) : f_X9_isWalkOn_18  (n + 1) x1 x2 x3 x4 x5 σ = if x3 ≤ x5 then if x4 = 0 ∨ x4 = 1 then some x4 else none else if x3 ≤ (1 : Int32) then if x4 = 0 ∨ x4 = 1 then some x4 else none else if x4 = 0 then f_X9_isWalkOn_18 n x1 x2 x3 (0 : Int32) (x5 + (1 : Int32)) σ else if vz_in (((x1 + (12 : Int32)) + ((4 : Int32) * x2)) + x5) 305 then if x3 = 0 then none else if vz_in (((x1 + (12 : Int32)) + ((4 : Int32) * x2)) + ((x5 + (1 : Int32)) - (x5 + (1 : Int32)) / x3 * x3)) 305 then vz_b1 (f_X9_isStreetOn x1 (σ 109 (((x1 + (12 : Int32)) + ((4 : Int32) * x2)) + x5).toNatClampNeg) (σ 109 (((x1 + (12 : Int32)) + ((4 : Int32) * x2)) + ((x5 + (1 : Int32)) - (x5 + (1 : Int32)) / x3 * x3)).toNatClampNeg) σ) (fun v11 => if v11 = 0 then f_X9_isWalkOn_18 n x1 x2 x3 (0 : Int32) (x5 + (1 : Int32)) σ else f_X9_isWalkOn_18 n x1 x2 x3 (1 : Int32) (x5 + (1 : Int32)) σ) else none else none := rfl
set_option maxRecDepth 20000 in
set_option maxHeartbeats 1000000 in
theorem wn_X9_isWalkOn_18 (z : vz_Z) (μ : vz_M) (hc : vz_C z μ cX9_isWalkOn RX9 1 6) {r : Int32} (σ : vz_I) (hret : ∀ (pc : Nat) (L : vz_L), vz_ret cX9_isWalkOn (some .boolean) pc (some (.int r)) → vz_V z μ 0 0 pc L ((some (.int r)) : Option Value).toList vz_G0 σ vz_N0) : ∀ (n : Nat) (x1 : Int32) (x2 : Int32) (x3 : Int32) (x4 : Int32) (x5 : Int32)  (h : f_X9_isWalkOn_18  n x1 x2 x3 x4 x5 σ = some r), vz_V z μ 0 0 18 [(0, some (.ref 108)), (1, some (.int x1)), (2, some (.int x2)), (3, some (.int x3)), (4, some (.int x4)), (5, some (.int x5))] [] vz_G0 σ vz_N0 := by
  intro n
  induction n with
  | zero =>
    intro x1 x2 x3 x4 x5 h
    cases h
  | succ n ih =>
    intro x1 x2 x3 x4 x5 h
    rw [f_X9_isWalkOn_18_s] at h
    refine vr_iload (pc := 18) hc dX9_isWalkOn_18 rfl ?_
    refine vr_iload_n (pc := 20) hc dX9_isWalkOn_20 rfl ?_
    refine vr_icmp_ge (pc := 21) hc 91 dX9_isWalkOn_21 (by decide) (fun hb2 => ?_) (fun hb2 => ?_)
    · rw [if_pos hb2] at h
      refine vr_iload (pc := 91) hc dX9_isWalkOn_91 rfl ?_
      have hb3 := vz_ifp h
      rw [if_pos hb3] at h
      obtain rfl := Option.some.inj h
      exact hret _ _ (vz_ret_i dX9_isWalkOn_93 (vz_bn hb3))
    · rw [if_neg hb2] at h
      refine vr_iload_n (pc := 24) hc dX9_isWalkOn_24 rfl ?_
      refine vr_iconst (pc := 25) hc dX9_isWalkOn_25 (1 : Int32) (by decide) ?_
      refine vr_icmp_le (pc := 26) hc 91 dX9_isWalkOn_26 (by decide) (fun hb4 => ?_) (fun hb4 => ?_)
      · rw [if_pos hb4] at h
        refine vr_iload (pc := 91) hc dX9_isWalkOn_91 rfl ?_
        have hb5 := vz_ifp h
        rw [if_pos hb5] at h
        obtain rfl := Option.some.inj h
        exact hret _ _ (vz_ret_i dX9_isWalkOn_93 (vz_bn hb5))
      · rw [if_neg hb4] at h
        refine vr_iload (pc := 29) hc dX9_isWalkOn_29 rfl ?_
        refine vr_if_eq (pc := 31) hc 82 dX9_isWalkOn_31 (by decide) (fun hb6 => ?_) (fun hb6 => ?_)
        · rw [if_pos hb6] at h
          refine vr_iconst (pc := 82) hc dX9_isWalkOn_82 (0 : Int32) (by decide) ?_
          refine vr_istore (pc := 83) hc dX9_isWalkOn_83 (by decide) rfl ?_
          refine vr_iinc (pc := 85) hc dX9_isWalkOn_85 (1 : Int32) (by decide) rfl (by decide) rfl ?_
          refine vr_goto (pc := 88) hc 18 dX9_isWalkOn_88 (by decide) ?_
          exact vz_sub (ih x1 x2 x3 (0 : Int32) (x5 + (1 : Int32))   h) (vz_sb1 rfl (vz_sb1 rfl (vz_sb1 rfl (vz_sb1 rfl (vz_sb1 rfl (vz_sb1 rfl vz_sb0))))))
        · rw [if_neg hb6] at h
          refine vr_aload_n (pc := 34) hc dX9_isWalkOn_34 rfl ?_
          refine vr_iload_n (pc := 35) hc dX9_isWalkOn_35 rfl ?_
          refine vr_aload_n (pc := 36) hc dX9_isWalkOn_36 rfl ?_
          refine vr_getR (pc := 37) hc dX9_isWalkOn_37 fl_X9_7 gc_108 (gr_9_0 gc_108).1 ?_
          refine vr_iload_n (pc := 40) hc dX9_isWalkOn_40 rfl ?_
          refine vr_bipush (pc := 41) hc dX9_isWalkOn_41 (12 : Int32) (by decide) ?_
          refine vr_iadd (pc := 43) hc dX9_isWalkOn_43 ?_
          refine vr_iconst (pc := 44) hc dX9_isWalkOn_44 (4 : Int32) (by decide) ?_
          refine vr_iload_n (pc := 45) hc dX9_isWalkOn_45 rfl ?_
          refine vr_imul (pc := 46) hc dX9_isWalkOn_46 ?_
          refine vr_iadd (pc := 47) hc dX9_isWalkOn_47 ?_
          refine vr_iload (pc := 48) hc dX9_isWalkOn_48 rfl ?_
          refine vr_iadd (pc := 50) hc dX9_isWalkOn_50 ?_
          have hb7 := vz_ifp h
          rw [if_pos hb7] at h
          refine vr_iald (pc := 51) hc 305 dX9_isWalkOn_51 ((gr_9_0 gc_108).2.1) ((gr_9_0 gc_108).2.2) (vz_in_vp hb7) ?_
          refine vr_aload_n (pc := 52) hc dX9_isWalkOn_52 rfl ?_
          refine vr_getR (pc := 53) hc dX9_isWalkOn_53 fl_X9_7 gc_108 (gr_9_0 gc_108).1 ?_
          refine vr_iload_n (pc := 56) hc dX9_isWalkOn_56 rfl ?_
          refine vr_bipush (pc := 57) hc dX9_isWalkOn_57 (12 : Int32) (by decide) ?_
          refine vr_iadd (pc := 59) hc dX9_isWalkOn_59 ?_
          refine vr_iconst (pc := 60) hc dX9_isWalkOn_60 (4 : Int32) (by decide) ?_
          refine vr_iload_n (pc := 61) hc dX9_isWalkOn_61 rfl ?_
          refine vr_imul (pc := 62) hc dX9_isWalkOn_62 ?_
          refine vr_iadd (pc := 63) hc dX9_isWalkOn_63 ?_
          refine vr_iload (pc := 64) hc dX9_isWalkOn_64 rfl ?_
          refine vr_iconst (pc := 66) hc dX9_isWalkOn_66 (1 : Int32) (by decide) ?_
          refine vr_iadd (pc := 67) hc dX9_isWalkOn_67 ?_
          refine vr_iload_n (pc := 68) hc dX9_isWalkOn_68 rfl ?_
          have hb8 : ¬ x3 = 0 := vz_if0 h
          rw [if_neg hb8] at h
          refine vr_irem (pc := 69) hc dX9_isWalkOn_69 hb8 ?_
          refine vr_iadd (pc := 70) hc dX9_isWalkOn_70 ?_
          have hb9 := vz_ifp h
          rw [if_pos hb9] at h
          refine vr_iald (pc := 71) hc 305 dX9_isWalkOn_71 ((gr_9_0 gc_108).2.1) ((gr_9_0 gc_108).2.2) (vz_in_vp hb9) ?_
          obtain ⟨v11, he10, h⟩ := vz_b1e h
          refine vr_cVi (pc := 72) hc dX9_isWalkOn_72 mt_X9_isStreetOn ml_X9_165 gc_108 (w_X9_isStreetOn z μ.2.1 x1 (σ 109 (((x1 + (12 : Int32)) + ((4 : Int32) * x2)) + x5).toNatClampNeg) (σ 109 (((x1 + (12 : Int32)) + ((4 : Int32) * x2)) + ((x5 + (1 : Int32)) - (x5 + (1 : Int32)) / x3 * x3)).toNatClampNeg) σ he10) rfl (by decide) rfl (Nat.le_of_ble_eq_true rfl) ?_
          refine vr_if_eq (pc := 75) hc 82 dX9_isWalkOn_75 (by decide) (fun hb13 => ?_) (fun hb13 => ?_)
          · rw [if_pos hb13] at h
            refine vr_iconst (pc := 82) hc dX9_isWalkOn_82 (0 : Int32) (by decide) ?_
            refine vr_istore (pc := 83) hc dX9_isWalkOn_83 (by decide) rfl ?_
            refine vr_iinc (pc := 85) hc dX9_isWalkOn_85 (1 : Int32) (by decide) rfl (by decide) rfl ?_
            refine vr_goto (pc := 88) hc 18 dX9_isWalkOn_88 (by decide) ?_
            exact vz_sub (ih x1 x2 x3 (0 : Int32) (x5 + (1 : Int32))   h) (vz_sb1 rfl (vz_sb1 rfl (vz_sb1 rfl (vz_sb1 rfl (vz_sb1 rfl (vz_sb1 rfl vz_sb0))))))
          · rw [if_neg hb13] at h
            refine vr_iconst (pc := 78) hc dX9_isWalkOn_78 (1 : Int32) (by decide) ?_
            refine vr_goto (pc := 79) hc 83 dX9_isWalkOn_79 (by decide) ?_
            refine vr_istore (pc := 83) hc dX9_isWalkOn_83 (by decide) rfl ?_
            refine vr_iinc (pc := 85) hc dX9_isWalkOn_85 (1 : Int32) (by decide) rfl (by decide) rfl ?_
            refine vr_goto (pc := 88) hc 18 dX9_isWalkOn_88 (by decide) ?_
            exact vz_sub (ih x1 x2 x3 (1 : Int32) (x5 + (1 : Int32))   h) (vz_sb1 rfl (vz_sb1 rfl (vz_sb1 rfl (vz_sb1 rfl (vz_sb1 rfl (vz_sb1 rfl vz_sb0))))))
def f_X9_isWalkOn (x1 : Int32) (x2 : Int32) (σ : vz_I) : Option Int32 := if vz_in ((x1 + (8 : Int32)) + x2) 305 then f_X9_isWalkOn_18 vz_fu x1 x2 (σ 109 ((x1 + (8 : Int32)) + x2).toNatClampNeg) (1 : Int32) (0 : Int32) σ else none
set_option maxRecDepth 20000 in
set_option maxHeartbeats 1000000 in
theorem w_X9_isWalkOn (z : vz_Z) (l : Launch) (x1 : Int32) (x2 : Int32) (σ : vz_I)  {r : Int32} (h : f_X9_isWalkOn x1 x2 σ = some r) : vz_Con z l 1 yX9_isWalkOn cX9_isWalkOn 6 (some .boolean) [.ref 108, .int x1, .int x2] vz_G0 σ vz_N0 (some (.int r)) vz_G0 σ vz_N0 0 0 := by
  refine vz_con (by decide) (Nat.le_of_ble_eq_true rfl) (fun μ hc hl hcap hret => ?_)
  subst hl
  unfold f_X9_isWalkOn at h
  refine vr_aload_n (pc := 0) hc dX9_isWalkOn_0 rfl ?_
  refine vr_getR (pc := 1) hc dX9_isWalkOn_1 fl_X9_7 gc_108 (gr_9_0 gc_108).1 ?_
  refine vr_iload_n (pc := 4) hc dX9_isWalkOn_4 rfl ?_
  refine vr_bipush (pc := 5) hc dX9_isWalkOn_5 (8 : Int32) (by decide) ?_
  refine vr_iadd (pc := 7) hc dX9_isWalkOn_7 ?_
  refine vr_iload_n (pc := 8) hc dX9_isWalkOn_8 rfl ?_
  refine vr_iadd (pc := 9) hc dX9_isWalkOn_9 ?_
  have hb1 := vz_ifp h
  rw [if_pos hb1] at h
  refine vr_iald (pc := 10) hc 305 dX9_isWalkOn_10 ((gr_9_0 gc_108).2.1) ((gr_9_0 gc_108).2.2) (vz_in_vp hb1) ?_
  refine vr_istore_n (pc := 11) hc dX9_isWalkOn_11 (by decide) rfl ?_
  refine vr_iconst (pc := 12) hc dX9_isWalkOn_12 (1 : Int32) (by decide) ?_
  refine vr_istore (pc := 13) hc dX9_isWalkOn_13 (by decide) rfl ?_
  refine vr_iconst (pc := 15) hc dX9_isWalkOn_15 (0 : Int32) (by decide) ?_
  refine vr_istore (pc := 16) hc dX9_isWalkOn_16 (by decide) rfl ?_
  exact vz_sub (wn_X9_isWalkOn_18 z μ hc σ hret vz_fu x1 x2 (σ 109 ((x1 + (8 : Int32)) + x2).toNatClampNeg) (1 : Int32) (0 : Int32) h) (vz_sb1 rfl (vz_sb1 rfl (vz_sb1 rfl (vz_sb1 rfl (vz_sb1 rfl (vz_sb1 rfl vz_sb0))))))
-- X9_atOn: depth 1, effects S=True W=False P=True
def f_X9_atOn_58 (x1 : Int32) (x2 : Int32) (x3 : Int32) (x4 : Int32) (x5 : Int32) (x6 : Int32) (σ : vz_I) : Option Int32 := if x5 = 0 then none else if x4 = 0 then if x6 = 0 then none else if vz_in (((x1 + (12 : Int32)) + ((4 : Int32) * x2)) + (((x3 / x5) - (0 : Int32)) - ((x3 / x5) - (0 : Int32)) / x6 * x6)) 305 then some (σ 109 (((x1 + (12 : Int32)) + ((4 : Int32) * x2)) + (((x3 / x5) - (0 : Int32)) - ((x3 / x5) - (0 : Int32)) / x6 * x6)).toNatClampNeg) else none else if x6 = 0 then none else if vz_in (((x1 + (12 : Int32)) + ((4 : Int32) * x2)) + (((x3 / x5) - (1 : Int32)) - ((x3 / x5) - (1 : Int32)) / x6 * x6)) 305 then some (σ 109 (((x1 + (12 : Int32)) + ((4 : Int32) * x2)) + (((x3 / x5) - (1 : Int32)) - ((x3 / x5) - (1 : Int32)) / x6 * x6)).toNatClampNeg) else none
set_option maxRecDepth 20000 in
set_option maxHeartbeats 1000000 in
theorem wn_X9_atOn_58 (z : vz_Z) (μ : vz_M) (hc : vz_C z μ cX9_atOn RX9 1 7) {r : Int32} (σ : vz_I) (hret : ∀ (pc : Nat) (L : vz_L), vz_ret cX9_atOn (some .int) pc (some (.int r)) → vz_V z μ 0 0 pc L ((some (.int r)) : Option Value).toList vz_G0 σ vz_N0) (x1 : Int32) (x2 : Int32) (x3 : Int32) (x4 : Int32) (x5 : Int32) (x6 : Int32)  (h : f_X9_atOn_58  x1 x2 x3 x4 x5 x6 σ = some r) : vz_V z μ 0 0 58 [(0, some (.ref 108)), (1, some (.int x1)), (2, some (.int x2)), (3, some (.int x3)), (4, some (.int x4)), (5, some (.int x5)), (6, some (.int x6))] [] vz_G0 σ vz_N0 := by
  unfold f_X9_atOn_58 at h
  refine vr_aload_n (pc := 58) hc dX9_atOn_58 rfl ?_
  refine vr_getR (pc := 59) hc dX9_atOn_59 fl_X9_7 gc_108 (gr_9_0 gc_108).1 ?_
  refine vr_iload_n (pc := 62) hc dX9_atOn_62 rfl ?_
  refine vr_bipush (pc := 63) hc dX9_atOn_63 (12 : Int32) (by decide) ?_
  refine vr_iadd (pc := 65) hc dX9_atOn_65 ?_
  refine vr_iconst (pc := 66) hc dX9_atOn_66 (4 : Int32) (by decide) ?_
  refine vr_iload_n (pc := 67) hc dX9_atOn_67 rfl ?_
  refine vr_imul (pc := 68) hc dX9_atOn_68 ?_
  refine vr_iadd (pc := 69) hc dX9_atOn_69 ?_
  refine vr_iload_n (pc := 70) hc dX9_atOn_70 rfl ?_
  refine vr_iload (pc := 71) hc dX9_atOn_71 rfl ?_
  have hb9 : ¬ x5 = 0 := vz_if0 h
  rw [if_neg hb9] at h
  refine vr_idiv (pc := 73) hc dX9_atOn_73 hb9 ?_
  refine vr_iload (pc := 74) hc dX9_atOn_74 rfl ?_
  refine vr_if_eq (pc := 76) hc 83 dX9_atOn_76 (by decide) (fun hb10 => ?_) (fun hb10 => ?_)
  · rw [if_pos hb10] at h
    refine vr_iconst (pc := 83) hc dX9_atOn_83 (0 : Int32) (by decide) ?_
    refine vr_isub (pc := 84) hc dX9_atOn_84 ?_
    refine vr_iload (pc := 85) hc dX9_atOn_85 rfl ?_
    have hb11 : ¬ x6 = 0 := vz_if0 h
    rw [if_neg hb11] at h
    refine vr_irem (pc := 87) hc dX9_atOn_87 hb11 ?_
    refine vr_iadd (pc := 88) hc dX9_atOn_88 ?_
    have hb12 := vz_ifp h
    rw [if_pos hb12] at h
    refine vr_iald (pc := 89) hc 305 dX9_atOn_89 ((gr_9_0 gc_108).2.1) ((gr_9_0 gc_108).2.2) (vz_in_vp hb12) ?_
    obtain rfl := Option.some.inj h
    exact hret _ _ (vz_ret_i dX9_atOn_90 rfl)
  · rw [if_neg hb10] at h
    refine vr_iconst (pc := 79) hc dX9_atOn_79 (1 : Int32) (by decide) ?_
    refine vr_goto (pc := 80) hc 84 dX9_atOn_80 (by decide) ?_
    refine vr_isub (pc := 84) hc dX9_atOn_84 ?_
    refine vr_iload (pc := 85) hc dX9_atOn_85 rfl ?_
    have hb13 : ¬ x6 = 0 := vz_if0 h
    rw [if_neg hb13] at h
    refine vr_irem (pc := 87) hc dX9_atOn_87 hb13 ?_
    refine vr_iadd (pc := 88) hc dX9_atOn_88 ?_
    have hb14 := vz_ifp h
    rw [if_pos hb14] at h
    refine vr_iald (pc := 89) hc 305 dX9_atOn_89 ((gr_9_0 gc_108).2.1) ((gr_9_0 gc_108).2.2) (vz_in_vp hb14) ?_
    obtain rfl := Option.some.inj h
    exact hret _ _ (vz_ret_i dX9_atOn_90 rfl)
def f_X9_atOn (x1 : Int32) (x2 : Int32) (x3 : Int32) (x4 : Int32) (σ : vz_I) : Option Int32 := vz_b1 (f_X9_paceOn x1 x2 σ) (fun v2 => if vz_in ((x1 + (8 : Int32)) + x2) 305 then if (((σ 108 18) >>> (x2 &&& 31)) &&& (1 : Int32)) = (1 : Int32) then some (-4 : Int32) else if v2 = 0 then none else if (x3 - x3 / v2 * v2) = 0 then if x4 = 0 then f_X9_atOn_58 x1 x2 x3 x4 v2 (σ 109 ((x1 + (8 : Int32)) + x2).toNatClampNeg) σ else if x3 = 0 then some (-4 : Int32) else if (σ 109 ((x1 + (8 : Int32)) + x2).toNatClampNeg) = (1 : Int32) then some (-4 : Int32) else f_X9_atOn_58 x1 x2 x3 x4 v2 (σ 109 ((x1 + (8 : Int32)) + x2).toNatClampNeg) σ else some (-4 : Int32) else none)
set_option maxRecDepth 20000 in
set_option maxHeartbeats 1000000 in
theorem w_X9_atOn (z : vz_Z) (l : Launch) (x1 : Int32) (x2 : Int32) (x3 : Int32) (x4 : Int32) (σ : vz_I)  {r : Int32} (h : f_X9_atOn x1 x2 x3 x4 σ = some r) : vz_Con z l 1 yX9_atOn cX9_atOn 7 (some .int) [.ref 108, .int x1, .int x2, .int x3, .int x4] vz_G0 σ vz_N0 (some (.int r)) vz_G0 σ vz_N0 0 0 := by
  refine vz_con (by decide) (Nat.le_of_ble_eq_true rfl) (fun μ hc hl hcap hret => ?_)
  subst hl
  unfold f_X9_atOn at h
  refine vr_aload_n (pc := 0) hc dX9_atOn_0 rfl ?_
  refine vr_iload_n (pc := 1) hc dX9_atOn_1 rfl ?_
  refine vr_iload_n (pc := 2) hc dX9_atOn_2 rfl ?_
  obtain ⟨v2, he1, h⟩ := vz_b1e h
  refine vr_cVi (pc := 3) hc dX9_atOn_3 mt_X9_paceOn ml_X9_169 gc_108 (w_X9_paceOn z μ.2.1 x1 x2 σ he1) rfl (by decide) rfl (Nat.le_of_ble_eq_true rfl) ?_
  refine vr_istore (pc := 6) hc dX9_atOn_6 (by decide) rfl ?_
  refine vr_aload_n (pc := 8) hc dX9_atOn_8 rfl ?_
  refine vr_getR (pc := 9) hc dX9_atOn_9 fl_X9_7 gc_108 (gr_9_0 gc_108).1 ?_
  refine vr_iload_n (pc := 12) hc dX9_atOn_12 rfl ?_
  refine vr_bipush (pc := 13) hc dX9_atOn_13 (8 : Int32) (by decide) ?_
  refine vr_iadd (pc := 15) hc dX9_atOn_15 ?_
  refine vr_iload_n (pc := 16) hc dX9_atOn_16 rfl ?_
  refine vr_iadd (pc := 17) hc dX9_atOn_17 ?_
  have hb4 := vz_ifp h
  rw [if_pos hb4] at h
  refine vr_iald (pc := 18) hc 305 dX9_atOn_18 ((gr_9_0 gc_108).2.1) ((gr_9_0 gc_108).2.2) (vz_in_vp hb4) ?_
  refine vr_istore (pc := 19) hc dX9_atOn_19 (by decide) rfl ?_
  refine vr_aload_n (pc := 21) hc dX9_atOn_21 rfl ?_
  refine vr_getI (pc := 22) hc dX9_atOn_22 fl_X9_172 gc_108 (gi_9_18 gc_108) ?_
  refine vr_iload_n (pc := 25) hc dX9_atOn_25 rfl ?_
  refine vr_ishr (pc := 26) hc dX9_atOn_26 ?_
  refine vr_iconst (pc := 27) hc dX9_atOn_27 (1 : Int32) (by decide) ?_
  refine vr_iand (pc := 28) hc dX9_atOn_28 ?_
  refine vr_iconst (pc := 29) hc dX9_atOn_29 (1 : Int32) (by decide) ?_
  refine vr_icmp_eq (pc := 30) hc 55 dX9_atOn_30 (by decide) (fun hb5 => ?_) (fun hb5 => ?_)
  · rw [if_pos hb5] at h
    refine vr_bipush (pc := 55) hc dX9_atOn_55 (-4 : Int32) (by decide) ?_
    obtain rfl := Option.some.inj h
    exact hret _ _ (vz_ret_i dX9_atOn_57 rfl)
  · rw [if_neg hb5] at h
    refine vr_iload_n (pc := 33) hc dX9_atOn_33 rfl ?_
    refine vr_iload (pc := 34) hc dX9_atOn_34 rfl ?_
    have hb6 : ¬ v2 = 0 := vz_if0 h
    rw [if_neg hb6] at h
    refine vr_irem (pc := 36) hc dX9_atOn_36 hb6 ?_
    refine vr_if_ne (pc := 37) hc 55 dX9_atOn_37 (by decide) (fun hb7 => ?_) (fun hb7 => ?_)
    · rw [if_neg hb7] at h
      refine vr_bipush (pc := 55) hc dX9_atOn_55 (-4 : Int32) (by decide) ?_
      obtain rfl := Option.some.inj h
      exact hret _ _ (vz_ret_i dX9_atOn_57 rfl)
    · rw [if_pos hb7] at h
      refine vr_iload (pc := 40) hc dX9_atOn_40 rfl ?_
      refine vr_if_eq (pc := 42) hc 58 dX9_atOn_42 (by decide) (fun hb8 => ?_) (fun hb8 => ?_)
      · rw [if_pos hb8] at h
        exact vz_sub (wn_X9_atOn_58 z μ hc σ hret x1 x2 x3 x4 v2 (σ 109 ((x1 + (8 : Int32)) + x2).toNatClampNeg) h) (vz_sb1 rfl (vz_sb1 rfl (vz_sb1 rfl (vz_sb1 rfl (vz_sb1 rfl (vz_sb1 rfl (vz_sb1 rfl vz_sb0)))))))
      · rw [if_neg hb8] at h
        refine vr_iload_n (pc := 45) hc dX9_atOn_45 rfl ?_
        refine vr_if_eq (pc := 46) hc 55 dX9_atOn_46 (by decide) (fun hb15 => ?_) (fun hb15 => ?_)
        · rw [if_pos hb15] at h
          refine vr_bipush (pc := 55) hc dX9_atOn_55 (-4 : Int32) (by decide) ?_
          obtain rfl := Option.some.inj h
          exact hret _ _ (vz_ret_i dX9_atOn_57 rfl)
        · rw [if_neg hb15] at h
          refine vr_iload (pc := 49) hc dX9_atOn_49 rfl ?_
          refine vr_iconst (pc := 51) hc dX9_atOn_51 (1 : Int32) (by decide) ?_
          refine vr_icmp_ne (pc := 52) hc 58 dX9_atOn_52 (by decide) (fun hb16 => ?_) (fun hb16 => ?_)
          · rw [if_neg hb16] at h
            exact vz_sub (wn_X9_atOn_58 z μ hc σ hret x1 x2 x3 x4 v2 (σ 109 ((x1 + (8 : Int32)) + x2).toNatClampNeg) h) (vz_sb1 rfl (vz_sb1 rfl (vz_sb1 rfl (vz_sb1 rfl (vz_sb1 rfl (vz_sb1 rfl (vz_sb1 rfl vz_sb0)))))))
          · rw [if_pos hb16] at h
            refine vr_bipush (pc := 55) hc dX9_atOn_55 (-4 : Int32) (by decide) ?_
            obtain rfl := Option.some.inj h
            exact hret _ _ (vz_ret_i dX9_atOn_57 rfl)
-- X9_knownOf: depth 1, effects S=True W=False P=True
def f_X9_knownOf_4 : Nat → Int32 → Int32 → Int32 → vz_I → Option Int32
  | 0, _, _, _, _ => none
  | n + 1, x1, x2, x3, σ => if (10 : Int32) ≤ x3 then some x2 else vz_b1 (f_X9_wholeOf x1 x3 σ) (fun v3 => if (1000 : Int32) ≤ v3 then f_X9_knownOf_4 n x1 (x2 + (0 : Int32)) (x3 + (1 : Int32)) σ else f_X9_knownOf_4 n x1 (x2 + (1 : Int32)) (x3 + (1 : Int32)) σ)
theorem f_X9_knownOf_4_s (n : Nat) (x1 : Int32) (x2 : Int32) (x3 : Int32) (σ : vz_I) : f_X9_knownOf_4  (n + 1) x1 x2 x3 σ = if (10 : Int32) ≤ x3 then some x2 else vz_b1 (f_X9_wholeOf x1 x3 σ) (fun v3 => if (1000 : Int32) ≤ v3 then f_X9_knownOf_4 n x1 (x2 + (0 : Int32)) (x3 + (1 : Int32)) σ else f_X9_knownOf_4 n x1 (x2 + (1 : Int32)) (x3 + (1 : Int32)) σ) := rfl
set_option maxRecDepth 20000 in
set_option maxHeartbeats 1000000 in
theorem wn_X9_knownOf_4 (z : vz_Z) (μ : vz_M) (hc : vz_C z μ cX9_knownOf RX9 1 4) {r : Int32} (σ : vz_I) (hret : ∀ (pc : Nat) (L : vz_L), vz_ret cX9_knownOf (some .int) pc (some (.int r)) → vz_V z μ 0 0 pc L ((some (.int r)) : Option Value).toList vz_G0 σ vz_N0) : ∀ (n : Nat) (x1 : Int32) (x2 : Int32) (x3 : Int32)  (h : f_X9_knownOf_4  n x1 x2 x3 σ = some r), vz_V z μ 0 0 4 [(0, some (.ref 108)), (1, some (.int x1)), (2, some (.int x2)), (3, some (.int x3))] [] vz_G0 σ vz_N0 := by
  intro n
  induction n with
  | zero =>
    intro x1 x2 x3 h
    cases h
  | succ n ih =>
    intro x1 x2 x3 h
    rw [f_X9_knownOf_4_s] at h
    refine vr_iload_n (pc := 4) hc dX9_knownOf_4 rfl ?_
    refine vr_bipush (pc := 5) hc dX9_knownOf_5 (10 : Int32) (by decide) ?_
    refine vr_icmp_ge (pc := 7) hc 36 dX9_knownOf_7 (by decide) (fun hb1 => ?_) (fun hb1 => ?_)
    · rw [if_pos hb1] at h
      refine vr_iload_n (pc := 36) hc dX9_knownOf_36 rfl ?_
      obtain rfl := Option.some.inj h
      exact hret _ _ (vz_ret_i dX9_knownOf_37 rfl)
    · rw [if_neg hb1] at h
      refine vr_iload_n (pc := 10) hc dX9_knownOf_10 rfl ?_
      refine vr_aload_n (pc := 11) hc dX9_knownOf_11 rfl ?_
      refine vr_iload_n (pc := 12) hc dX9_knownOf_12 rfl ?_
      refine vr_iload_n (pc := 13) hc dX9_knownOf_13 rfl ?_
      obtain ⟨v3, he2, h⟩ := vz_b1e h
      refine vr_cVi (pc := 14) hc dX9_knownOf_14 mt_X9_wholeOf ml_X9_186 gc_108 (w_X9_wholeOf z μ.2.1 x1 x3 σ he2) rfl (by decide) rfl (Nat.le_of_ble_eq_true rfl) ?_
      refine vr_sipush (pc := 17) hc dX9_knownOf_17 (1000 : Int32) (by decide) ?_
      refine vr_icmp_ge (pc := 20) hc 27 dX9_knownOf_20 (by decide) (fun hb5 => ?_) (fun hb5 => ?_)
      · rw [if_pos hb5] at h
        refine vr_iconst (pc := 27) hc dX9_knownOf_27 (0 : Int32) (by decide) ?_
        refine vr_iadd (pc := 28) hc dX9_knownOf_28 ?_
        refine vr_istore_n (pc := 29) hc dX9_knownOf_29 (by decide) rfl ?_
        refine vr_iinc (pc := 30) hc dX9_knownOf_30 (1 : Int32) (by decide) rfl (by decide) rfl ?_
        refine vr_goto (pc := 33) hc 4 dX9_knownOf_33 (by decide) ?_
        exact vz_sub (ih x1 (x2 + (0 : Int32)) (x3 + (1 : Int32))   h) (vz_sb1 rfl (vz_sb1 rfl (vz_sb1 rfl (vz_sb1 rfl vz_sb0))))
      · rw [if_neg hb5] at h
        refine vr_iconst (pc := 23) hc dX9_knownOf_23 (1 : Int32) (by decide) ?_
        refine vr_goto (pc := 24) hc 28 dX9_knownOf_24 (by decide) ?_
        refine vr_iadd (pc := 28) hc dX9_knownOf_28 ?_
        refine vr_istore_n (pc := 29) hc dX9_knownOf_29 (by decide) rfl ?_
        refine vr_iinc (pc := 30) hc dX9_knownOf_30 (1 : Int32) (by decide) rfl (by decide) rfl ?_
        refine vr_goto (pc := 33) hc 4 dX9_knownOf_33 (by decide) ?_
        exact vz_sub (ih x1 (x2 + (1 : Int32)) (x3 + (1 : Int32))   h) (vz_sb1 rfl (vz_sb1 rfl (vz_sb1 rfl (vz_sb1 rfl vz_sb0))))
def f_X9_knownOf (x1 : Int32) (σ : vz_I) : Option Int32 := f_X9_knownOf_4 vz_fu x1 (0 : Int32) (0 : Int32) σ
set_option maxRecDepth 20000 in
set_option maxHeartbeats 1000000 in
theorem w_X9_knownOf (z : vz_Z) (l : Launch) (x1 : Int32) (σ : vz_I)  {r : Int32} (h : f_X9_knownOf x1 σ = some r) : vz_Con z l 1 yX9_knownOf cX9_knownOf 4 (some .int) [.ref 108, .int x1] vz_G0 σ vz_N0 (some (.int r)) vz_G0 σ vz_N0 0 0 := by
  refine vz_con (by decide) (Nat.le_of_ble_eq_true rfl) (fun μ hc hl hcap hret => ?_)
  subst hl
  unfold f_X9_knownOf at h
  refine vr_iconst (pc := 0) hc dX9_knownOf_0 (0 : Int32) (by decide) ?_
  refine vr_istore_n (pc := 1) hc dX9_knownOf_1 (by decide) rfl ?_
  refine vr_iconst (pc := 2) hc dX9_knownOf_2 (0 : Int32) (by decide) ?_
  refine vr_istore_n (pc := 3) hc dX9_knownOf_3 (by decide) rfl ?_
  exact vz_sub (wn_X9_knownOf_4 z μ hc σ hret vz_fu x1 (0 : Int32) (0 : Int32) h) (vz_sb1 rfl (vz_sb1 rfl (vz_sb1 rfl (vz_sb1 rfl vz_sb0))))
-- X9_street: depth 1, effects S=True W=False P=True
def f_X9_street (x1 : Int32) (x2 : Int32) (σ : vz_I) : Option Int32 := if vz_in (42 : Int32) 305 then if (f_X9_in x1.toInt64 (0 : Int64) (((σ 109 (42 : Int32).toNatClampNeg) - (1 : Int32)).toInt64)) = 0 then some (-1 : Int32) else if (f_X9_in x2.toInt64 (0 : Int64) (1 : Int64)) = 0 then some (-1 : Int32) else if vz_in (((43 : Int32) + ((9 : Int32) * x2)) + x1) 305 then some (σ 109 (((43 : Int32) + ((9 : Int32) * x2)) + x1).toNatClampNeg) else none else none
set_option maxRecDepth 20000 in
set_option maxHeartbeats 1000000 in
theorem w_X9_street (z : vz_Z) (l : Launch) (x1 : Int32) (x2 : Int32) (σ : vz_I)  {r : Int32} (h : f_X9_street x1 x2 σ = some r) : vz_Con z l 1 yX9_street cX9_street 3 (some .int) [.ref 108, .int x1, .int x2] vz_G0 σ vz_N0 (some (.int r)) vz_G0 σ vz_N0 0 0 := by
  refine vz_con (by decide) (Nat.le_of_ble_eq_true rfl) (fun μ hc hl hcap hret => ?_)
  subst hl
  unfold f_X9_street at h
  refine vr_iload_n (pc := 0) hc dX9_street_0 rfl ?_
  refine vr_i2l (pc := 1) hc dX9_street_1 ?_
  refine vr_lconst (pc := 2) hc dX9_street_2 (0 : Int64) (by decide) ?_
  refine vr_aload_n (pc := 3) hc dX9_street_3 rfl ?_
  refine vr_getR (pc := 4) hc dX9_street_4 fl_X9_7 gc_108 (gr_9_0 gc_108).1 ?_
  refine vr_bipush (pc := 7) hc dX9_street_7 (42 : Int32) (by decide) ?_
  have hb1 := vz_ifp h
  rw [if_pos hb1] at h
  refine vr_iald (pc := 9) hc 305 dX9_street_9 ((gr_9_0 gc_108).2.1) ((gr_9_0 gc_108).2.2) (vz_in_vp hb1) ?_
  refine vr_iconst (pc := 10) hc dX9_street_10 (1 : Int32) (by decide) ?_
  refine vr_isub (pc := 11) hc dX9_street_11 ?_
  refine vr_i2l (pc := 12) hc dX9_street_12 ?_
  refine vr_cSi (pc := 13) hc dX9_street_13 mt_X9_in sx_X9_in ml_X9_55  (w_X9_in z μ.2.1 x1.toInt64 (0 : Int64) (((σ 109 (42 : Int32).toNatClampNeg) - (1 : Int32)).toInt64) σ rfl) rfl (by decide) rfl (Nat.le_of_ble_eq_true rfl) ?_
  refine vr_if_eq (pc := 16) hc 46 dX9_street_16 (by decide) (fun hb2 => ?_) (fun hb2 => ?_)
  · rw [if_pos hb2] at h
    refine vr_iconst (pc := 46) hc dX9_street_46 (-1 : Int32) (by decide) ?_
    obtain rfl := Option.some.inj h
    exact hret _ _ (vz_ret_i dX9_street_47 rfl)
  · rw [if_neg hb2] at h
    refine vr_iload_n (pc := 19) hc dX9_street_19 rfl ?_
    refine vr_i2l (pc := 20) hc dX9_street_20 ?_
    refine vr_lconst (pc := 21) hc dX9_street_21 (0 : Int64) (by decide) ?_
    refine vr_lconst (pc := 22) hc dX9_street_22 (1 : Int64) (by decide) ?_
    refine vr_cSi (pc := 23) hc dX9_street_23 mt_X9_in sx_X9_in ml_X9_55  (w_X9_in z μ.2.1 x2.toInt64 (0 : Int64) (1 : Int64) σ rfl) rfl (by decide) rfl (Nat.le_of_ble_eq_true rfl) ?_
    refine vr_if_eq (pc := 26) hc 46 dX9_street_26 (by decide) (fun hb3 => ?_) (fun hb3 => ?_)
    · rw [if_pos hb3] at h
      refine vr_iconst (pc := 46) hc dX9_street_46 (-1 : Int32) (by decide) ?_
      obtain rfl := Option.some.inj h
      exact hret _ _ (vz_ret_i dX9_street_47 rfl)
    · rw [if_neg hb3] at h
      refine vr_aload_n (pc := 29) hc dX9_street_29 rfl ?_
      refine vr_getR (pc := 30) hc dX9_street_30 fl_X9_7 gc_108 (gr_9_0 gc_108).1 ?_
      refine vr_bipush (pc := 33) hc dX9_street_33 (43 : Int32) (by decide) ?_
      refine vr_bipush (pc := 35) hc dX9_street_35 (9 : Int32) (by decide) ?_
      refine vr_iload_n (pc := 37) hc dX9_street_37 rfl ?_
      refine vr_imul (pc := 38) hc dX9_street_38 ?_
      refine vr_iadd (pc := 39) hc dX9_street_39 ?_
      refine vr_iload_n (pc := 40) hc dX9_street_40 rfl ?_
      refine vr_iadd (pc := 41) hc dX9_street_41 ?_
      have hb4 := vz_ifp h
      rw [if_pos hb4] at h
      refine vr_iald (pc := 42) hc 305 dX9_street_42 ((gr_9_0 gc_108).2.1) ((gr_9_0 gc_108).2.2) (vz_in_vp hb4) ?_
      refine vr_goto (pc := 43) hc 47 dX9_street_43 (by decide) ?_
      obtain rfl := Option.some.inj h
      exact hret _ _ (vz_ret_i dX9_street_47 rfl)
-- X9_forget: depth 1, effects S=True W=True P=False
def f_X9_forget (x1 : Int32) (σ : vz_I) : Int32 × vz_I := if (f_X9_in x1.toInt64 (0 : Int64) ((σ 108 24).toInt64)) = 0 then ((-1 : Int32), σ) else (σ 108 24, vz_up σ 108 24 x1)
set_option maxRecDepth 20000 in
set_option maxHeartbeats 1000000 in
theorem w_X9_forget (z : vz_Z) (l : Launch) (x1 : Int32) (σ : vz_I)  {r : Int32} {σ' : vz_I} (h : f_X9_forget x1 σ = (r, σ')) : vz_Con z l 1 yX9_forget cX9_forget 3 (some .int) [.ref 108, .int x1] vz_G0 σ vz_N0 (some (.int r)) vz_G0 σ' vz_N0 0 0 := by
  refine vz_con (by decide) (Nat.le_of_ble_eq_true rfl) (fun μ hc hl hcap hret => ?_)
  subst hl
  unfold f_X9_forget at h
  refine vr_iload_n (pc := 0) hc dX9_forget_0 rfl ?_
  refine vr_i2l (pc := 1) hc dX9_forget_1 ?_
  refine vr_lconst (pc := 2) hc dX9_forget_2 (0 : Int64) (by decide) ?_
  refine vr_aload_n (pc := 3) hc dX9_forget_3 rfl ?_
  refine vr_getI (pc := 4) hc dX9_forget_4 fl_X9_156 gc_108 (gi_9_24 gc_108) ?_
  refine vr_i2l (pc := 7) hc dX9_forget_7 ?_
  refine vr_cSi (pc := 8) hc dX9_forget_8 mt_X9_in sx_X9_in ml_X9_55  (w_X9_in z μ.2.1 x1.toInt64 (0 : Int64) ((σ 108 24).toInt64) σ rfl) rfl (by decide) rfl (Nat.le_of_ble_eq_true rfl) ?_
  refine vr_if_ne (pc := 11) hc 16 dX9_forget_11 (by decide) (fun hb1 => ?_) (fun hb1 => ?_)
  · rw [if_neg hb1] at h
    refine vr_aload_n (pc := 16) hc dX9_forget_16 rfl ?_
    refine vr_getI (pc := 17) hc dX9_forget_17 fl_X9_156 gc_108 (gi_9_24 gc_108) ?_
    refine vr_istore_n (pc := 20) hc dX9_forget_20 (by decide) rfl ?_
    refine vr_aload_n (pc := 21) hc dX9_forget_21 rfl ?_
    refine vr_iload_n (pc := 22) hc dX9_forget_22 rfl ?_
    refine vr_putI (pc := 23) hc dX9_forget_23 fl_X9_156 gc_108 (gi_9_24 gc_108) rfl rfl ?_
    refine vr_iload_n (pc := 26) hc dX9_forget_26 rfl ?_
    obtain ⟨rfl, rfl⟩ := vz_in3 h
    exact hret _ _ (vz_ret_i dX9_forget_27 rfl)
  · rw [if_pos hb1] at h
    refine vr_iconst (pc := 14) hc dX9_forget_14 (-1 : Int32) (by decide) ?_
    obtain ⟨rfl, rfl⟩ := vz_in3 h
    exact hret _ _ (vz_ret_i dX9_forget_15 rfl)
-- X9_keep: depth 1, effects S=True W=True P=True
def f_X9_keep_37 (x1 : Int32) (xs0 : Int32) (σ : vz_I) : Option (Int32 × vz_I) := if vz_in x1 2 then some (xs0, vz_up σ 119 x1.toNatClampNeg ((1 : Int32) &&& 1)) else none
set_option maxRecDepth 20000 in
set_option maxHeartbeats 1000000 in
theorem wn_X9_keep_37 (z : vz_Z) (μ : vz_M) (hc : vz_C z μ cX9_keep RX9 1 3) {r : Int32} {σ' : vz_I} (hret : ∀ (pc : Nat) (L : vz_L), vz_ret cX9_keep (some .int) pc (some (.int r)) → vz_V z μ 0 0 pc L ((some (.int r)) : Option Value).toList vz_G0 σ' vz_N0) (x1 : Int32) (xs0 : Int32) (σ : vz_I)  (h : f_X9_keep_37  x1 xs0 σ = some (r, σ')) : vz_V z μ 0 0 37 [(0, some (.ref 108)), (1, some (.int x1))] [.int xs0] vz_G0 σ vz_N0 := by
  unfold f_X9_keep_37 at h
  refine vr_istore_n (pc := 37) hc dX9_keep_37 (by decide) rfl ?_
  refine vr_aload_n (pc := 38) hc dX9_keep_38 rfl ?_
  refine vr_getR (pc := 39) hc dX9_keep_39 fl_X9_40 gc_108 (gr_9_26 gc_108).1 ?_
  refine vr_iload_n (pc := 42) hc dX9_keep_42 rfl ?_
  refine vr_iconst (pc := 43) hc dX9_keep_43 (1 : Int32) (by decide) ?_
  have hb7 := vz_ifp h
  rw [if_pos hb7] at h
  refine vr_zast (pc := 44) hc 2 dX9_keep_44 ((gr_9_26 gc_108).2.1) ((gr_9_26 gc_108).2.2) (vz_in_vp hb7) ?_
  refine vr_iload_n (pc := 45) hc dX9_keep_45 rfl ?_
  obtain ⟨rfl, rfl⟩ := vz_in2 h
  exact hret _ _ (vz_ret_i dX9_keep_46 rfl)
def f_X9_keep (x1 : Int32) (σ : vz_I) : Option (Int32 × vz_I) := if (f_X9_in x1.toInt64 (0 : Int64) (1 : Int64)) = 0 then some ((-1 : Int32), σ) else vz_b1 (f_X9_copies (0 : Int32) ((61 : Int32) * (x1 + (1 : Int32))) σ) (fun σ4 => if vz_in x1 2 then if (σ4 119 x1.toNatClampNeg) = 0 then f_X9_keep_37 x1 (0 : Int32) σ4 else f_X9_keep_37 x1 (1 : Int32) σ4 else none)
set_option maxRecDepth 20000 in
set_option maxHeartbeats 1000000 in
theorem w_X9_keep (z : vz_Z) (l : Launch) (x1 : Int32) (σ : vz_I)  {r : Int32} {σ' : vz_I} (h : f_X9_keep x1 σ = some (r, σ')) : vz_Con z l 1 yX9_keep cX9_keep 3 (some .int) [.ref 108, .int x1] vz_G0 σ vz_N0 (some (.int r)) vz_G0 σ' vz_N0 0 0 := by
  refine vz_con (by decide) (Nat.le_of_ble_eq_true rfl) (fun μ hc hl hcap hret => ?_)
  subst hl
  unfold f_X9_keep at h
  refine vr_iload_n (pc := 0) hc dX9_keep_0 rfl ?_
  refine vr_i2l (pc := 1) hc dX9_keep_1 ?_
  refine vr_lconst (pc := 2) hc dX9_keep_2 (0 : Int64) (by decide) ?_
  refine vr_lconst (pc := 3) hc dX9_keep_3 (1 : Int64) (by decide) ?_
  refine vr_cSi (pc := 4) hc dX9_keep_4 mt_X9_in sx_X9_in ml_X9_55  (w_X9_in z μ.2.1 x1.toInt64 (0 : Int64) (1 : Int64) σ rfl) rfl (by decide) rfl (Nat.le_of_ble_eq_true rfl) ?_
  refine vr_if_ne (pc := 7) hc 12 dX9_keep_7 (by decide) (fun hb1 => ?_) (fun hb1 => ?_)
  · rw [if_neg hb1] at h
    refine vr_aload_n (pc := 12) hc dX9_keep_12 rfl ?_
    refine vr_iconst (pc := 13) hc dX9_keep_13 (0 : Int32) (by decide) ?_
    refine vr_bipush (pc := 14) hc dX9_keep_14 (61 : Int32) (by decide) ?_
    refine vr_iload_n (pc := 16) hc dX9_keep_16 rfl ?_
    refine vr_iconst (pc := 17) hc dX9_keep_17 (1 : Int32) (by decide) ?_
    refine vr_iadd (pc := 18) hc dX9_keep_18 ?_
    refine vr_imul (pc := 19) hc dX9_keep_19 ?_
    obtain ⟨σ4, he2, h⟩ := vz_b1e h
    refine vr_cVv (pc := 20) hc dX9_keep_20 mt_X9_copies ml_X9_235 gc_108 (w_X9_copies z μ.2.1 (0 : Int32) ((61 : Int32) * (x1 + (1 : Int32))) σ he2) rfl (by decide) rfl (Nat.le_of_ble_eq_true rfl) ?_
    refine vr_aload_n (pc := 23) hc dX9_keep_23 rfl ?_
    refine vr_getR (pc := 24) hc dX9_keep_24 fl_X9_40 gc_108 (gr_9_26 gc_108).1 ?_
    refine vr_iload_n (pc := 27) hc dX9_keep_27 rfl ?_
    have hb5 := vz_ifp h
    rw [if_pos hb5] at h
    refine vr_zald (pc := 28) hc 2 dX9_keep_28 ((gr_9_26 gc_108).2.1) ((gr_9_26 gc_108).2.2) (vz_in_vp hb5) ?_
    refine vr_if_eq (pc := 29) hc 36 dX9_keep_29 (by decide) (fun hb6 => ?_) (fun hb6 => ?_)
    · rw [if_pos hb6] at h
      refine vr_iconst (pc := 36) hc dX9_keep_36 (0 : Int32) (by decide) ?_
      exact vz_sub (wn_X9_keep_37 z μ hc hret x1 (0 : Int32) σ4 h) (vz_sb1 rfl (vz_sb1 rfl vz_sb0))
    · rw [if_neg hb6] at h
      refine vr_iconst (pc := 32) hc dX9_keep_32 (1 : Int32) (by decide) ?_
      refine vr_goto (pc := 33) hc 37 dX9_keep_33 (by decide) ?_
      exact vz_sub (wn_X9_keep_37 z μ hc hret x1 (1 : Int32) σ4 h) (vz_sb1 rfl (vz_sb1 rfl vz_sb0))
  · rw [if_pos hb1] at h
    refine vr_iconst (pc := 10) hc dX9_keep_10 (-1 : Int32) (by decide) ?_
    obtain ⟨rfl, rfl⟩ := vz_in2 h
    exact hret _ _ (vz_ret_i dX9_keep_11 rfl)
-- X9_sheet: depth 1, effects S=True W=True P=True
def f_X9_sheet_56 : Nat → Int32 → Int32 → vz_I → Option (Int32 × vz_I)
  | 0, _, _, _ => none
  | n + 1, x1, x4, σ => if (40 : Int32) ≤ x4 then some ((1 : Int32), σ) else if vz_in (((40 : Int32) * x1) + x4) 160 then vz_let (vz_up σ 122 (((40 : Int32) * x1) + x4).toNatClampNeg (0 : Int32)) (fun σ11 => f_X9_sheet_56 n x1 (x4 + (1 : Int32)) σ11) else none
theorem f_X9_sheet_56_s (n : Nat) (x1 : Int32) (x4 : Int32) (σ : vz_I) : f_X9_sheet_56  (n + 1) x1 x4 σ = if (40 : Int32) ≤ x4 then some ((1 : Int32), σ) else if vz_in (((40 : Int32) * x1) + x4) 160 then vz_let (vz_up σ 122 (((40 : Int32) * x1) + x4).toNatClampNeg (0 : Int32)) (fun σ11 => f_X9_sheet_56 n x1 (x4 + (1 : Int32)) σ11) else none := rfl
set_option maxRecDepth 20000 in
set_option maxHeartbeats 1000000 in
theorem wn_X9_sheet_56 (z : vz_Z) (μ : vz_M) (hc : vz_C z μ cX9_sheet RX9 1 5) {r : Int32} {σ' : vz_I} (hret : ∀ (pc : Nat) (L : vz_L), vz_ret cX9_sheet (some .int) pc (some (.int r)) → vz_V z μ 0 0 pc L ((some (.int r)) : Option Value).toList vz_G0 σ' vz_N0) : ∀ (n : Nat) (x1 : Int32) (x4 : Int32) (σ : vz_I)  (h : f_X9_sheet_56  n x1 x4 σ = some (r, σ')), vz_V z μ 0 0 56 [(0, some (.ref 108)), (1, some (.int x1)), (4, some (.int x4))] [] vz_G0 σ vz_N0 := by
  intro n
  induction n with
  | zero =>
    intro x1 x4 σ h
    cases h
  | succ n ih =>
    intro x1 x4 σ h
    rw [f_X9_sheet_56_s] at h
    refine vr_iload (pc := 56) hc dX9_sheet_56 rfl ?_
    refine vr_bipush (pc := 58) hc dX9_sheet_58 (40 : Int32) (by decide) ?_
    refine vr_icmp_ge (pc := 60) hc 82 dX9_sheet_60 (by decide) (fun hb9 => ?_) (fun hb9 => ?_)
    · rw [if_pos hb9] at h
      refine vr_iconst (pc := 82) hc dX9_sheet_82 (1 : Int32) (by decide) ?_
      obtain ⟨rfl, rfl⟩ := vz_in2 h
      exact hret _ _ (vz_ret_i dX9_sheet_83 rfl)
    · rw [if_neg hb9] at h
      refine vr_aload_n (pc := 63) hc dX9_sheet_63 rfl ?_
      refine vr_getR (pc := 64) hc dX9_sheet_64 fl_X9_50 gc_108 (gr_9_29 gc_108).1 ?_
      refine vr_bipush (pc := 67) hc dX9_sheet_67 (40 : Int32) (by decide) ?_
      refine vr_iload_n (pc := 69) hc dX9_sheet_69 rfl ?_
      refine vr_imul (pc := 70) hc dX9_sheet_70 ?_
      refine vr_iload (pc := 71) hc dX9_sheet_71 rfl ?_
      refine vr_iadd (pc := 73) hc dX9_sheet_73 ?_
      refine vr_iconst (pc := 74) hc dX9_sheet_74 (0 : Int32) (by decide) ?_
      have hb10 := vz_ifp h
      rw [if_pos hb10] at h
      refine vr_iast (pc := 75) hc 160 dX9_sheet_75 ((gr_9_29 gc_108).2.1) ((gr_9_29 gc_108).2.2) (vz_in_vp hb10) ?_
      obtain ⟨σ11, hσ12⟩ : ∃ x, x = vz_up σ 122 (((40 : Int32) * x1) + x4).toNatClampNeg (0 : Int32) := ⟨_, rfl⟩
      rw [← hσ12] at h ⊢
      rw [vz_let_e] at h
      refine vr_iinc (pc := 76) hc dX9_sheet_76 (1 : Int32) (by decide) rfl (by decide) rfl ?_
      refine vr_goto (pc := 79) hc 56 dX9_sheet_79 (by decide) ?_
      exact vz_sub (ih x1 (x4 + (1 : Int32)) σ11  h) (vz_sb1 rfl (vz_sb1 rfl (vz_sb1 rfl vz_sb0)))
def f_X9_sheet (x1 : Int32) (x2 : Int32) (x3 : Int32) (σ : vz_I) : Option (Int32 × vz_I) := if (f_X9_in x1.toInt64 (0 : Int64) (3 : Int64)) = 0 then some ((-1 : Int32), σ) else if (f_X9_in x2.toInt64 (0 : Int64) (2 : Int64)) = 0 then some ((-1 : Int32), σ) else if x3 ≤ (40 : Int32) then if 0 ≤ x3 then if vz_in x1 4 then if vz_in x1 4 then vz_let (vz_up (vz_up σ 120 x1.toNatClampNeg x2) 121 x1.toNatClampNeg x3) (fun σ7 => f_X9_sheet_56 vz_fu x1 (0 : Int32) σ7) else none else none else some ((-14 : Int32), σ) else some ((-1 : Int32), σ)
set_option maxRecDepth 20000 in
set_option maxHeartbeats 1000000 in
theorem w_X9_sheet (z : vz_Z) (l : Launch) (x1 : Int32) (x2 : Int32) (x3 : Int32) (σ : vz_I)  {r : Int32} {σ' : vz_I} (h : f_X9_sheet x1 x2 x3 σ = some (r, σ')) : vz_Con z l 1 yX9_sheet cX9_sheet 5 (some .int) [.ref 108, .int x1, .int x2, .int x3] vz_G0 σ vz_N0 (some (.int r)) vz_G0 σ' vz_N0 0 0 := by
  refine vz_con (by decide) (Nat.le_of_ble_eq_true rfl) (fun μ hc hl hcap hret => ?_)
  subst hl
  unfold f_X9_sheet at h
  refine vr_iload_n (pc := 0) hc dX9_sheet_0 rfl ?_
  refine vr_i2l (pc := 1) hc dX9_sheet_1 ?_
  refine vr_lconst (pc := 2) hc dX9_sheet_2 (0 : Int64) (by decide) ?_
  refine vr_ldc2 (pc := 3) hc dX9_sheet_3 (3 : Int64) cl_X9_209 ?_
  refine vr_cSi (pc := 6) hc dX9_sheet_6 mt_X9_in sx_X9_in ml_X9_55  (w_X9_in z μ.2.1 x1.toInt64 (0 : Int64) (3 : Int64) σ rfl) rfl (by decide) rfl (Nat.le_of_ble_eq_true rfl) ?_
  refine vr_if_eq (pc := 9) hc 30 dX9_sheet_9 (by decide) (fun hb1 => ?_) (fun hb1 => ?_)
  · rw [if_pos hb1] at h
    refine vr_iconst (pc := 30) hc dX9_sheet_30 (-1 : Int32) (by decide) ?_
    obtain ⟨rfl, rfl⟩ := vz_in2 h
    exact hret _ _ (vz_ret_i dX9_sheet_31 rfl)
  · rw [if_neg hb1] at h
    refine vr_iload_n (pc := 12) hc dX9_sheet_12 rfl ?_
    refine vr_i2l (pc := 13) hc dX9_sheet_13 ?_
    refine vr_lconst (pc := 14) hc dX9_sheet_14 (0 : Int64) (by decide) ?_
    refine vr_ldc2 (pc := 15) hc dX9_sheet_15 (2 : Int64) cl_X9_207 ?_
    refine vr_cSi (pc := 18) hc dX9_sheet_18 mt_X9_in sx_X9_in ml_X9_55  (w_X9_in z μ.2.1 x2.toInt64 (0 : Int64) (2 : Int64) σ rfl) rfl (by decide) rfl (Nat.le_of_ble_eq_true rfl) ?_
    refine vr_if_eq (pc := 21) hc 30 dX9_sheet_21 (by decide) (fun hb2 => ?_) (fun hb2 => ?_)
    · rw [if_pos hb2] at h
      refine vr_iconst (pc := 30) hc dX9_sheet_30 (-1 : Int32) (by decide) ?_
      obtain ⟨rfl, rfl⟩ := vz_in2 h
      exact hret _ _ (vz_ret_i dX9_sheet_31 rfl)
    · rw [if_neg hb2] at h
      refine vr_iload_n (pc := 24) hc dX9_sheet_24 rfl ?_
      refine vr_bipush (pc := 25) hc dX9_sheet_25 (40 : Int32) (by decide) ?_
      refine vr_icmp_le (pc := 27) hc 32 dX9_sheet_27 (by decide) (fun hb3 => ?_) (fun hb3 => ?_)
      · rw [if_pos hb3] at h
        refine vr_iload_n (pc := 32) hc dX9_sheet_32 rfl ?_
        refine vr_if_ge (pc := 33) hc 39 dX9_sheet_33 (by decide) (fun hb4 => ?_) (fun hb4 => ?_)
        · rw [if_pos hb4] at h
          refine vr_aload_n (pc := 39) hc dX9_sheet_39 rfl ?_
          refine vr_getR (pc := 40) hc dX9_sheet_40 fl_X9_44 gc_108 (gr_9_27 gc_108).1 ?_
          refine vr_iload_n (pc := 43) hc dX9_sheet_43 rfl ?_
          refine vr_iload_n (pc := 44) hc dX9_sheet_44 rfl ?_
          have hb5 := vz_ifp h
          rw [if_pos hb5] at h
          refine vr_iast (pc := 45) hc 4 dX9_sheet_45 ((gr_9_27 gc_108).2.1) ((gr_9_27 gc_108).2.2) (vz_in_vp hb5) ?_
          refine vr_aload_n (pc := 46) hc dX9_sheet_46 rfl ?_
          refine vr_getR (pc := 47) hc dX9_sheet_47 fl_X9_47 gc_108 (gr_9_28 gc_108).1 ?_
          refine vr_iload_n (pc := 50) hc dX9_sheet_50 rfl ?_
          refine vr_iload_n (pc := 51) hc dX9_sheet_51 rfl ?_
          have hb6 := vz_ifp h
          rw [if_pos hb6] at h
          refine vr_iast (pc := 52) hc 4 dX9_sheet_52 ((gr_9_28 gc_108).2.1) ((gr_9_28 gc_108).2.2) (vz_in_vp hb6) ?_
          obtain ⟨σ7, hσ8⟩ : ∃ x, x = vz_up (vz_up σ 120 x1.toNatClampNeg x2) 121 x1.toNatClampNeg x3 := ⟨_, rfl⟩
          rw [← hσ8] at h ⊢
          rw [vz_let_e] at h
          refine vr_iconst (pc := 53) hc dX9_sheet_53 (0 : Int32) (by decide) ?_
          refine vr_istore (pc := 54) hc dX9_sheet_54 (by decide) rfl ?_
          exact vz_sub (wn_X9_sheet_56 z μ hc hret vz_fu x1 (0 : Int32) σ7 h) (vz_sb1 rfl (vz_sb1 rfl (vz_sb1 rfl vz_sb0)))
        · rw [if_neg hb4] at h
          refine vr_bipush (pc := 36) hc dX9_sheet_36 (-14 : Int32) (by decide) ?_
          obtain ⟨rfl, rfl⟩ := vz_in2 h
          exact hret _ _ (vz_ret_i dX9_sheet_38 rfl)
      · rw [if_neg hb3] at h
        refine vr_iconst (pc := 30) hc dX9_sheet_30 (-1 : Int32) (by decide) ?_
        obtain ⟨rfl, rfl⟩ := vz_in2 h
        exact hret _ _ (vz_ret_i dX9_sheet_31 rfl)
-- X9_lay: depth 1, effects S=True W=True P=True
def f_X9_lay (x1 : Int32) (x2 : Int32) (x3 : Int32) (σ : vz_I) : Option (Int32 × vz_I) := if (f_X9_in x1.toInt64 (0 : Int64) (3 : Int64)) = 0 then some ((-1 : Int32), σ) else if vz_in x1 4 then if (σ 120 x1.toNatClampNeg) = (-4 : Int32) then some ((-11 : Int32), σ) else if vz_in x1 4 then if (f_X9_in x2.toInt64 (0 : Int64) (((σ 121 x1.toNatClampNeg) - (1 : Int32)).toInt64)) = 0 then some ((-12 : Int32), σ) else if vz_in x1 4 then if (σ 120 x1.toNatClampNeg) = 0 then if vz_in (((40 : Int32) * x1) + x2) 160 then vz_let (vz_up σ 122 (((40 : Int32) * x1) + x2).toNatClampNeg ((x3 <<< ((24 : Int32) &&& 31)) >>> ((24 : Int32) &&& 31))) (fun σ15 => some ((1 : Int32), σ15)) else none else if vz_in x1 4 then if (σ 120 x1.toNatClampNeg) = (1 : Int32) then if vz_in (((40 : Int32) * x1) + x2) 160 then vz_let (vz_up σ 122 (((40 : Int32) * x1) + x2).toNatClampNeg ((x3 <<< ((16 : Int32) &&& 31)) >>> ((16 : Int32) &&& 31))) (fun σ12 => some ((1 : Int32), σ12)) else none else if vz_in (((40 : Int32) * x1) + x2) 160 then some ((1 : Int32), vz_up σ 122 (((40 : Int32) * x1) + x2).toNatClampNeg x3) else none else none else none else none else none
set_option maxRecDepth 20000 in
set_option maxHeartbeats 1000000 in
theorem w_X9_lay (z : vz_Z) (l : Launch) (x1 : Int32) (x2 : Int32) (x3 : Int32) (σ : vz_I)  {r : Int32} {σ' : vz_I} (h : f_X9_lay x1 x2 x3 σ = some (r, σ')) : vz_Con z l 1 yX9_lay cX9_lay 4 (some .int) [.ref 108, .int x1, .int x2, .int x3] vz_G0 σ vz_N0 (some (.int r)) vz_G0 σ' vz_N0 0 0 := by
  refine vz_con (by decide) (Nat.le_of_ble_eq_true rfl) (fun μ hc hl hcap hret => ?_)
  subst hl
  unfold f_X9_lay at h
  refine vr_iload_n (pc := 0) hc dX9_lay_0 rfl ?_
  refine vr_i2l (pc := 1) hc dX9_lay_1 ?_
  refine vr_lconst (pc := 2) hc dX9_lay_2 (0 : Int64) (by decide) ?_
  refine vr_ldc2 (pc := 3) hc dX9_lay_3 (3 : Int64) cl_X9_209 ?_
  refine vr_cSi (pc := 6) hc dX9_lay_6 mt_X9_in sx_X9_in ml_X9_55  (w_X9_in z μ.2.1 x1.toInt64 (0 : Int64) (3 : Int64) σ rfl) rfl (by decide) rfl (Nat.le_of_ble_eq_true rfl) ?_
  refine vr_if_ne (pc := 9) hc 14 dX9_lay_9 (by decide) (fun hb1 => ?_) (fun hb1 => ?_)
  · rw [if_neg hb1] at h
    refine vr_aload_n (pc := 14) hc dX9_lay_14 rfl ?_
    refine vr_getR (pc := 15) hc dX9_lay_15 fl_X9_44 gc_108 (gr_9_27 gc_108).1 ?_
    refine vr_iload_n (pc := 18) hc dX9_lay_18 rfl ?_
    have hb2 := vz_ifp h
    rw [if_pos hb2] at h
    refine vr_iald (pc := 19) hc 4 dX9_lay_19 ((gr_9_27 gc_108).2.1) ((gr_9_27 gc_108).2.2) (vz_in_vp hb2) ?_
    refine vr_bipush (pc := 20) hc dX9_lay_20 (-4 : Int32) (by decide) ?_
    refine vr_icmp_ne (pc := 22) hc 28 dX9_lay_22 (by decide) (fun hb3 => ?_) (fun hb3 => ?_)
    · rw [if_neg hb3] at h
      refine vr_iload_n (pc := 28) hc dX9_lay_28 rfl ?_
      refine vr_i2l (pc := 29) hc dX9_lay_29 ?_
      refine vr_lconst (pc := 30) hc dX9_lay_30 (0 : Int64) (by decide) ?_
      refine vr_aload_n (pc := 31) hc dX9_lay_31 rfl ?_
      refine vr_getR (pc := 32) hc dX9_lay_32 fl_X9_47 gc_108 (gr_9_28 gc_108).1 ?_
      refine vr_iload_n (pc := 35) hc dX9_lay_35 rfl ?_
      have hb4 := vz_ifp h
      rw [if_pos hb4] at h
      refine vr_iald (pc := 36) hc 4 dX9_lay_36 ((gr_9_28 gc_108).2.1) ((gr_9_28 gc_108).2.2) (vz_in_vp hb4) ?_
      refine vr_iconst (pc := 37) hc dX9_lay_37 (1 : Int32) (by decide) ?_
      refine vr_isub (pc := 38) hc dX9_lay_38 ?_
      refine vr_i2l (pc := 39) hc dX9_lay_39 ?_
      refine vr_cSi (pc := 40) hc dX9_lay_40 mt_X9_in sx_X9_in ml_X9_55  (w_X9_in z μ.2.1 x2.toInt64 (0 : Int64) (((σ 121 x1.toNatClampNeg) - (1 : Int32)).toInt64) σ rfl) rfl (by decide) rfl (Nat.le_of_ble_eq_true rfl) ?_
      refine vr_if_ne (pc := 43) hc 49 dX9_lay_43 (by decide) (fun hb5 => ?_) (fun hb5 => ?_)
      · rw [if_neg hb5] at h
        refine vr_aload_n (pc := 49) hc dX9_lay_49 rfl ?_
        refine vr_getR (pc := 50) hc dX9_lay_50 fl_X9_50 gc_108 (gr_9_29 gc_108).1 ?_
        refine vr_bipush (pc := 53) hc dX9_lay_53 (40 : Int32) (by decide) ?_
        refine vr_iload_n (pc := 55) hc dX9_lay_55 rfl ?_
        refine vr_imul (pc := 56) hc dX9_lay_56 ?_
        refine vr_iload_n (pc := 57) hc dX9_lay_57 rfl ?_
        refine vr_iadd (pc := 58) hc dX9_lay_58 ?_
        refine vr_aload_n (pc := 59) hc dX9_lay_59 rfl ?_
        refine vr_getR (pc := 60) hc dX9_lay_60 fl_X9_44 gc_108 (gr_9_27 gc_108).1 ?_
        refine vr_iload_n (pc := 63) hc dX9_lay_63 rfl ?_
        have hb6 := vz_ifp h
        rw [if_pos hb6] at h
        refine vr_iald (pc := 64) hc 4 dX9_lay_64 ((gr_9_27 gc_108).2.1) ((gr_9_27 gc_108).2.2) (vz_in_vp hb6) ?_
        refine vr_if_ne (pc := 65) hc 78 dX9_lay_65 (by decide) (fun hb7 => ?_) (fun hb7 => ?_)
        · rw [if_neg hb7] at h
          refine vr_aload_n (pc := 78) hc dX9_lay_78 rfl ?_
          refine vr_getR (pc := 79) hc dX9_lay_79 fl_X9_44 gc_108 (gr_9_27 gc_108).1 ?_
          refine vr_iload_n (pc := 82) hc dX9_lay_82 rfl ?_
          have hb8 := vz_ifp h
          rw [if_pos hb8] at h
          refine vr_iald (pc := 83) hc 4 dX9_lay_83 ((gr_9_27 gc_108).2.1) ((gr_9_27 gc_108).2.2) (vz_in_vp hb8) ?_
          refine vr_iconst (pc := 84) hc dX9_lay_84 (1 : Int32) (by decide) ?_
          refine vr_icmp_ne (pc := 85) hc 98 dX9_lay_85 (by decide) (fun hb9 => ?_) (fun hb9 => ?_)
          · rw [if_neg hb9] at h
            refine vr_iload_n (pc := 98) hc dX9_lay_98 rfl ?_
            have hb10 := vz_ifp h
            rw [if_pos hb10] at h
            refine vr_iast (pc := 99) hc 160 dX9_lay_99 ((gr_9_29 gc_108).2.1) ((gr_9_29 gc_108).2.2) (vz_in_vp hb10) ?_
            refine vr_iconst (pc := 100) hc dX9_lay_100 (1 : Int32) (by decide) ?_
            obtain ⟨rfl, rfl⟩ := vz_in2 h
            exact hret _ _ (vz_ret_i dX9_lay_101 rfl)
          · rw [if_pos hb9] at h
            refine vr_iload_n (pc := 88) hc dX9_lay_88 rfl ?_
            refine vr_bipush (pc := 89) hc dX9_lay_89 (16 : Int32) (by decide) ?_
            refine vr_ishl (pc := 91) hc dX9_lay_91 ?_
            refine vr_bipush (pc := 92) hc dX9_lay_92 (16 : Int32) (by decide) ?_
            refine vr_ishr (pc := 94) hc dX9_lay_94 ?_
            refine vr_goto (pc := 95) hc 99 dX9_lay_95 (by decide) ?_
            have hb11 := vz_ifp h
            rw [if_pos hb11] at h
            refine vr_iast (pc := 99) hc 160 dX9_lay_99 ((gr_9_29 gc_108).2.1) ((gr_9_29 gc_108).2.2) (vz_in_vp hb11) ?_
            obtain ⟨σ12, hσ13⟩ : ∃ x, x = vz_up σ 122 (((40 : Int32) * x1) + x2).toNatClampNeg ((x3 <<< ((16 : Int32) &&& 31)) >>> ((16 : Int32) &&& 31)) := ⟨_, rfl⟩
            rw [← hσ13] at h ⊢
            rw [vz_let_e] at h
            refine vr_iconst (pc := 100) hc dX9_lay_100 (1 : Int32) (by decide) ?_
            obtain ⟨rfl, rfl⟩ := vz_in2 h
            exact hret _ _ (vz_ret_i dX9_lay_101 rfl)
        · rw [if_pos hb7] at h
          refine vr_iload_n (pc := 68) hc dX9_lay_68 rfl ?_
          refine vr_bipush (pc := 69) hc dX9_lay_69 (24 : Int32) (by decide) ?_
          refine vr_ishl (pc := 71) hc dX9_lay_71 ?_
          refine vr_bipush (pc := 72) hc dX9_lay_72 (24 : Int32) (by decide) ?_
          refine vr_ishr (pc := 74) hc dX9_lay_74 ?_
          refine vr_goto (pc := 75) hc 99 dX9_lay_75 (by decide) ?_
          have hb14 := vz_ifp h
          rw [if_pos hb14] at h
          refine vr_iast (pc := 99) hc 160 dX9_lay_99 ((gr_9_29 gc_108).2.1) ((gr_9_29 gc_108).2.2) (vz_in_vp hb14) ?_
          obtain ⟨σ15, hσ16⟩ : ∃ x, x = vz_up σ 122 (((40 : Int32) * x1) + x2).toNatClampNeg ((x3 <<< ((24 : Int32) &&& 31)) >>> ((24 : Int32) &&& 31)) := ⟨_, rfl⟩
          rw [← hσ16] at h ⊢
          rw [vz_let_e] at h
          refine vr_iconst (pc := 100) hc dX9_lay_100 (1 : Int32) (by decide) ?_
          obtain ⟨rfl, rfl⟩ := vz_in2 h
          exact hret _ _ (vz_ret_i dX9_lay_101 rfl)
      · rw [if_pos hb5] at h
        refine vr_bipush (pc := 46) hc dX9_lay_46 (-12 : Int32) (by decide) ?_
        obtain ⟨rfl, rfl⟩ := vz_in2 h
        exact hret _ _ (vz_ret_i dX9_lay_48 rfl)
    · rw [if_pos hb3] at h
      refine vr_bipush (pc := 25) hc dX9_lay_25 (-11 : Int32) (by decide) ?_
      obtain ⟨rfl, rfl⟩ := vz_in2 h
      exact hret _ _ (vz_ret_i dX9_lay_27 rfl)
  · rw [if_pos hb1] at h
    refine vr_iconst (pc := 12) hc dX9_lay_12 (-1 : Int32) (by decide) ?_
    obtain ⟨rfl, rfl⟩ := vz_in2 h
    exact hret _ _ (vz_ret_i dX9_lay_13 rfl)
-- X4_faultOfPair: depth 2, effects S=True W=False P=False
def f_X4_faultOfPair (a0 : Nat) (x1 : Int32) (x2 : Int32) (σ : vz_I) : Int32 := if (f_X4_faultAt a0 x1 x2 σ) = 0 then f_X4_faultAt a0 x1 (x2 + (1 : Int32)) σ else f_X4_faultAt a0 x1 x2 σ
set_option maxRecDepth 20000 in
set_option maxHeartbeats 1000000 in
theorem w_X4_faultOfPair (z : vz_Z) (l : Launch) (a0 : Nat) (x1 : Int32) (x2 : Int32) (σ : vz_I) (ha0 : (vz_G0 a0).1 = 4) {r : Int32} (h : f_X4_faultOfPair a0 x1 x2 σ = r) : vz_Con z l 2 yX4_faultOfPair cX4_faultOfPair 4 (some .int) [.ref a0, .int x1, .int x2] vz_G0 σ vz_N0 (some (.int r)) vz_G0 σ vz_N0 0 0 := by
  refine vz_con (by decide) (Nat.le_of_ble_eq_true rfl) (fun μ hc hl hcap hret => ?_)
  subst hl
  unfold f_X4_faultOfPair at h
  refine vr_aload_n (pc := 0) hc dX4_faultOfPair_0 rfl ?_
  refine vr_iload_n (pc := 1) hc dX4_faultOfPair_1 rfl ?_
  refine vr_iload_n (pc := 2) hc dX4_faultOfPair_2 rfl ?_
  refine vr_cVi (pc := 3) hc dX4_faultOfPair_3 mt_X4_faultAt ml_X4_26 ha0 (w_X4_faultAt z μ.2.1 a0 x1 x2 σ ha0 rfl) rfl (by decide) rfl (Nat.le_of_ble_eq_true rfl) ?_
  refine vr_istore_n (pc := 6) hc dX4_faultOfPair_6 (by decide) rfl ?_
  refine vr_iload_n (pc := 7) hc dX4_faultOfPair_7 rfl ?_
  refine vr_if_ne (pc := 8) hc 22 dX4_faultOfPair_8 (by decide) (fun hb1 => ?_) (fun hb1 => ?_)
  · rw [if_neg hb1] at h
    refine vr_iload_n (pc := 22) hc dX4_faultOfPair_22 rfl ?_
    subst h
    exact hret _ _ (vz_ret_i dX4_faultOfPair_23 rfl)
  · rw [if_pos hb1] at h
    refine vr_aload_n (pc := 11) hc dX4_faultOfPair_11 rfl ?_
    refine vr_iload_n (pc := 12) hc dX4_faultOfPair_12 rfl ?_
    refine vr_iload_n (pc := 13) hc dX4_faultOfPair_13 rfl ?_
    refine vr_iconst (pc := 14) hc dX4_faultOfPair_14 (1 : Int32) (by decide) ?_
    refine vr_iadd (pc := 15) hc dX4_faultOfPair_15 ?_
    refine vr_cVi (pc := 16) hc dX4_faultOfPair_16 mt_X4_faultAt ml_X4_26 ha0 (w_X4_faultAt z μ.2.1 a0 x1 (x2 + (1 : Int32)) σ ha0 rfl) rfl (by decide) rfl (Nat.le_of_ble_eq_true rfl) ?_
    refine vr_goto (pc := 19) hc 23 dX4_faultOfPair_19 (by decide) ?_
    subst h
    exact hret _ _ (vz_ret_i dX4_faultOfPair_23 rfl)
-- X6_readRestOfWalk: depth 2, effects S=True W=True P=True
def f_X6_readRestOfWalk_2 : Nat → Nat → Int32 → vz_I → Option (Int32 × vz_I)
  | 0, _, _, _ => none
  | n + 1, a1, x2, σ => if (4 : Int32) < x2 then some ((0 : Int32), σ) else vz_b2 (f_X6_readToken  σ) (fun v3 σ4 => if v3 = 0 then some ((0 : Int32), σ4) else if (σ4 1 3) = (3 : Int32) then some ((1 : Int32), σ4) else if (σ4 1 3) = (2 : Int32) then vz_b2 (f_X0_addCorner a1 (σ4 1 5) σ4) (fun v9 σ10 => if v9 = 0 then vz_c2 (f_X6_refuse (5 : Int32) (σ10 1 4) σ10) (fun v18 σ19 => if v18 = 0 ∨ v18 = 1 then some (v18, σ19) else none) else if (f_X8_isCorner (σ10 1 5)) = 0 then vz_c2 (f_X6_refuse (3 : Int32) (σ10 1 4) σ10) (fun v14 σ15 => if v14 = 0 ∨ v14 = 1 then some (v14, σ15) else none) else f_X6_readRestOfWalk_2 n a1 (x2 + (1 : Int32)) σ10) else vz_c2 (f_X6_refuse (2 : Int32) (σ4 1 4) σ4) (fun v22 σ23 => if v22 = 0 ∨ v22 = 1 then some (v22, σ23) else none))
theorem f_X6_readRestOfWalk_2_s (n : Nat) (a1 : Nat) (x2 : Int32) (σ : vz_I) : f_X6_readRestOfWalk_2  (n + 1) a1 x2 σ = if (4 : Int32) < x2 then some ((0 : Int32), σ) else vz_b2 (f_X6_readToken  σ) (fun v3 σ4 => if v3 = 0 then some ((0 : Int32), σ4) else if (σ4 1 3) = (3 : Int32) then some ((1 : Int32), σ4) else if (σ4 1 3) = (2 : Int32) then vz_b2 (f_X0_addCorner a1 (σ4 1 5) σ4) (fun v9 σ10 => if v9 = 0 then vz_c2 (f_X6_refuse (5 : Int32) (σ10 1 4) σ10) (fun v18 σ19 => if v18 = 0 ∨ v18 = 1 then some (v18, σ19) else none) else if (f_X8_isCorner (σ10 1 5)) = 0 then vz_c2 (f_X6_refuse (3 : Int32) (σ10 1 4) σ10) (fun v14 σ15 => if v14 = 0 ∨ v14 = 1 then some (v14, σ15) else none) else f_X6_readRestOfWalk_2 n a1 (x2 + (1 : Int32)) σ10) else vz_c2 (f_X6_refuse (2 : Int32) (σ4 1 4) σ4) (fun v22 σ23 => if v22 = 0 ∨ v22 = 1 then some (v22, σ23) else none)) := rfl
set_option maxRecDepth 20000 in
set_option maxHeartbeats 1000000 in
theorem wn_X6_readRestOfWalk_2 (z : vz_Z) (μ : vz_M) (hc : vz_C z μ cX6_readRestOfWalk RX6 2 3) {r : Int32} {σ' : vz_I} (hret : ∀ (pc : Nat) (L : vz_L), vz_ret cX6_readRestOfWalk (some .boolean) pc (some (.int r)) → vz_V z μ 0 0 pc L ((some (.int r)) : Option Value).toList vz_G0 σ' vz_N0) : ∀ (n : Nat) (a1 : Nat) (x2 : Int32) (σ : vz_I) (ha1 : (vz_G0 a1).1 = 0) (h : f_X6_readRestOfWalk_2  n a1 x2 σ = some (r, σ')), vz_V z μ 0 0 2 [(0, some (.ref 1)), (1, some (.ref a1)), (2, some (.int x2))] [] vz_G0 σ vz_N0 := by
  intro n
  induction n with
  | zero =>
    intro a1 x2 σ ha1 h
    cases h
  | succ n ih =>
    intro a1 x2 σ ha1 h
    rw [f_X6_readRestOfWalk_2_s] at h
    refine vr_iload_n (pc := 2) hc dX6_readRestOfWalk_2 rfl ?_
    refine vr_iconst (pc := 3) hc dX6_readRestOfWalk_3 (4 : Int32) (by decide) ?_
    refine vr_icmp_gt (pc := 4) hc 91 dX6_readRestOfWalk_4 (by decide) (fun hb1 => ?_) (fun hb1 => ?_)
    · rw [if_pos hb1] at h
      refine vr_iconst (pc := 91) hc dX6_readRestOfWalk_91 (0 : Int32) (by decide) ?_
      obtain ⟨rfl, rfl⟩ := vz_in2 h
      exact hret _ _ (vz_ret_i dX6_readRestOfWalk_92 (by decide))
    · rw [if_neg hb1] at h
      refine vr_aload_n (pc := 7) hc dX6_readRestOfWalk_7 rfl ?_
      obtain ⟨v3, σ4, he2, h⟩ := vz_b2e h
      refine vr_cVi (pc := 8) hc dX6_readRestOfWalk_8 mt_X6_readToken ml_X6_39 gc_1 (w_X6_readToken z μ.2.1  σ he2) rfl (by decide) rfl (Nat.le_of_ble_eq_true rfl) ?_
      refine vr_if_ne (pc := 11) hc 16 dX6_readRestOfWalk_11 (by decide) (fun hb5 => ?_) (fun hb5 => ?_)
      · rw [if_neg hb5] at h
        refine vr_aload_n (pc := 16) hc dX6_readRestOfWalk_16 rfl ?_
        refine vr_getI (pc := 17) hc dX6_readRestOfWalk_17 fl_X6_43 gc_1 (gi_6_3 gc_1) ?_
        refine vr_iconst (pc := 20) hc dX6_readRestOfWalk_20 (3 : Int32) (by decide) ?_
        refine vr_icmp_ne (pc := 21) hc 26 dX6_readRestOfWalk_21 (by decide) (fun hb6 => ?_) (fun hb6 => ?_)
        · rw [if_neg hb6] at h
          refine vr_aload_n (pc := 26) hc dX6_readRestOfWalk_26 rfl ?_
          refine vr_getI (pc := 27) hc dX6_readRestOfWalk_27 fl_X6_43 gc_1 (gi_6_3 gc_1) ?_
          refine vr_iconst (pc := 30) hc dX6_readRestOfWalk_30 (2 : Int32) (by decide) ?_
          refine vr_icmp_eq (pc := 31) hc 44 dX6_readRestOfWalk_31 (by decide) (fun hb7 => ?_) (fun hb7 => ?_)
          · rw [if_pos hb7] at h
            refine vr_aload_n (pc := 44) hc dX6_readRestOfWalk_44 rfl ?_
            refine vr_aload_n (pc := 45) hc dX6_readRestOfWalk_45 rfl ?_
            refine vr_getI (pc := 46) hc dX6_readRestOfWalk_46 fl_X6_89 gc_1 (gi_6_5 gc_1) ?_
            obtain ⟨v9, σ10, he8, h⟩ := vz_b2e h
            refine vr_cVi (pc := 49) hc dX6_readRestOfWalk_49 mt_X0_addCorner ml_X6_97 ha1 (w_X0_addCorner z μ.2.1 a1 (σ4 1 5) σ4 ha1 he8) rfl (by decide) rfl (Nat.le_of_ble_eq_true rfl) ?_
            refine vr_if_ne (pc := 52) hc 65 dX6_readRestOfWalk_52 (by decide) (fun hb11 => ?_) (fun hb11 => ?_)
            · rw [if_neg hb11] at h
              refine vr_aload_n (pc := 65) hc dX6_readRestOfWalk_65 rfl ?_
              refine vr_getI (pc := 66) hc dX6_readRestOfWalk_66 fl_X6_89 gc_1 (gi_6_5 gc_1) ?_
              refine vr_cNi (pc := 69) hc dX6_readRestOfWalk_69 mt_X8_isCorner sx_X8_isCorner ml_X6_104  (w_X8_isCorner z μ.2.1 (σ10 1 5) σ10 rfl) rfl (by decide) rfl (Nat.le_of_ble_eq_true rfl) ?_
              refine vr_if_ne (pc := 72) hc 85 dX6_readRestOfWalk_72 (by decide) (fun hb12 => ?_) (fun hb12 => ?_)
              · rw [if_neg hb12] at h
                refine vr_iinc (pc := 85) hc dX6_readRestOfWalk_85 (1 : Int32) (by decide) rfl (by decide) rfl ?_
                refine vr_goto (pc := 88) hc 2 dX6_readRestOfWalk_88 (by decide) ?_
                exact vz_sub (ih a1 (x2 + (1 : Int32)) σ10 ha1 h) (vz_sb1 rfl (vz_sb1 rfl (vz_sb1 rfl vz_sb0)))
              · rw [if_pos hb12] at h
                refine vr_aload_n (pc := 75) hc dX6_readRestOfWalk_75 rfl ?_
                refine vr_iconst (pc := 76) hc dX6_readRestOfWalk_76 (3 : Int32) (by decide) ?_
                refine vr_aload_n (pc := 77) hc dX6_readRestOfWalk_77 rfl ?_
                refine vr_getI (pc := 78) hc dX6_readRestOfWalk_78 fl_X6_62 gc_1 (gi_6_4 gc_1) ?_
                obtain ⟨v14, σ15, he13⟩ : ∃ x s, f_X6_refuse (3 : Int32) (σ10 1 4) σ10 = (x, s) := ⟨_, _, rfl⟩
                rw [he13] at h
                rw [vz_c2_e] at h
                refine vr_cVi (pc := 81) hc dX6_readRestOfWalk_81 mt_X6_refuse ml_X6_55 gc_1 (w_X6_refuse z μ.2.1 (3 : Int32) (σ10 1 4) σ10 he13) rfl (by decide) rfl (Nat.le_of_ble_eq_true rfl) ?_
                have hb16 := vz_ifp h
                rw [if_pos hb16] at h
                obtain ⟨rfl, rfl⟩ := vz_in2 h
                exact hret _ _ (vz_ret_i dX6_readRestOfWalk_84 (vz_bn hb16))
            · rw [if_pos hb11] at h
              refine vr_aload_n (pc := 55) hc dX6_readRestOfWalk_55 rfl ?_
              refine vr_iconst (pc := 56) hc dX6_readRestOfWalk_56 (5 : Int32) (by decide) ?_
              refine vr_aload_n (pc := 57) hc dX6_readRestOfWalk_57 rfl ?_
              refine vr_getI (pc := 58) hc dX6_readRestOfWalk_58 fl_X6_62 gc_1 (gi_6_4 gc_1) ?_
              obtain ⟨v18, σ19, he17⟩ : ∃ x s, f_X6_refuse (5 : Int32) (σ10 1 4) σ10 = (x, s) := ⟨_, _, rfl⟩
              rw [he17] at h
              rw [vz_c2_e] at h
              refine vr_cVi (pc := 61) hc dX6_readRestOfWalk_61 mt_X6_refuse ml_X6_55 gc_1 (w_X6_refuse z μ.2.1 (5 : Int32) (σ10 1 4) σ10 he17) rfl (by decide) rfl (Nat.le_of_ble_eq_true rfl) ?_
              have hb20 := vz_ifp h
              rw [if_pos hb20] at h
              obtain ⟨rfl, rfl⟩ := vz_in2 h
              exact hret _ _ (vz_ret_i dX6_readRestOfWalk_64 (vz_bn hb20))
          · rw [if_neg hb7] at h
            refine vr_aload_n (pc := 34) hc dX6_readRestOfWalk_34 rfl ?_
            refine vr_iconst (pc := 35) hc dX6_readRestOfWalk_35 (2 : Int32) (by decide) ?_
            refine vr_aload_n (pc := 36) hc dX6_readRestOfWalk_36 rfl ?_
            refine vr_getI (pc := 37) hc dX6_readRestOfWalk_37 fl_X6_62 gc_1 (gi_6_4 gc_1) ?_
            obtain ⟨v22, σ23, he21⟩ : ∃ x s, f_X6_refuse (2 : Int32) (σ4 1 4) σ4 = (x, s) := ⟨_, _, rfl⟩
            rw [he21] at h
            rw [vz_c2_e] at h
            refine vr_cVi (pc := 40) hc dX6_readRestOfWalk_40 mt_X6_refuse ml_X6_55 gc_1 (w_X6_refuse z μ.2.1 (2 : Int32) (σ4 1 4) σ4 he21) rfl (by decide) rfl (Nat.le_of_ble_eq_true rfl) ?_
            have hb24 := vz_ifp h
            rw [if_pos hb24] at h
            obtain ⟨rfl, rfl⟩ := vz_in2 h
            exact hret _ _ (vz_ret_i dX6_readRestOfWalk_43 (vz_bn hb24))
        · rw [if_pos hb6] at h
          refine vr_iconst (pc := 24) hc dX6_readRestOfWalk_24 (1 : Int32) (by decide) ?_
          obtain ⟨rfl, rfl⟩ := vz_in2 h
          exact hret _ _ (vz_ret_i dX6_readRestOfWalk_25 (by decide))
      · rw [if_pos hb5] at h
        refine vr_iconst (pc := 14) hc dX6_readRestOfWalk_14 (0 : Int32) (by decide) ?_
        obtain ⟨rfl, rfl⟩ := vz_in2 h
        exact hret _ _ (vz_ret_i dX6_readRestOfWalk_15 (by decide))
def f_X6_readRestOfWalk (a1 : Nat) (σ : vz_I) : Option (Int32 × vz_I) := f_X6_readRestOfWalk_2 vz_fu a1 (1 : Int32) σ
set_option maxRecDepth 20000 in
set_option maxHeartbeats 1000000 in
theorem w_X6_readRestOfWalk (z : vz_Z) (l : Launch) (a1 : Nat) (σ : vz_I) (ha1 : (vz_G0 a1).1 = 0) {r : Int32} {σ' : vz_I} (h : f_X6_readRestOfWalk a1 σ = some (r, σ')) : vz_Con z l 2 yX6_readRestOfWalk cX6_readRestOfWalk 3 (some .boolean) [.ref 1, .ref a1] vz_G0 σ vz_N0 (some (.int r)) vz_G0 σ' vz_N0 0 0 := by
  refine vz_con (by decide) (Nat.le_of_ble_eq_true rfl) (fun μ hc hl hcap hret => ?_)
  subst hl
  unfold f_X6_readRestOfWalk at h
  refine vr_iconst (pc := 0) hc dX6_readRestOfWalk_0 (1 : Int32) (by decide) ?_
  refine vr_istore_n (pc := 1) hc dX6_readRestOfWalk_1 (by decide) rfl ?_
  exact vz_sub (wn_X6_readRestOfWalk_2 z μ hc hret vz_fu a1 (1 : Int32) σ ha1 h) (vz_sb1 rfl (vz_sb1 rfl (vz_sb1 rfl vz_sb0)))
-- X6_takeNumber: depth 2, effects S=True W=True P=True
def f_X6_takeNumber (x1 : Int32) (x2 : Int32) (σ : vz_I) : Option (Int32 × vz_I) := vz_b2 (f_X6_readToken  σ) (fun v2 σ3 => if v2 = 0 then some ((0 : Int32), σ3) else if (σ3 1 3) = (2 : Int32) then if (f_X8_isWithin (σ3 1 5) x1 x2) = 0 then vz_c2 (f_X6_refuse (3 : Int32) (σ3 1 4) σ3) (fun v8 σ9 => if v8 = 0 then some ((0 : Int32), σ9) else some ((1 : Int32), σ9)) else some ((1 : Int32), σ3) else vz_c2 (f_X6_refuse (2 : Int32) (σ3 1 4) σ3) (fun v12 σ13 => if v12 = 0 ∨ v12 = 1 then some (v12, σ13) else none))
set_option maxRecDepth 20000 in
set_option maxHeartbeats 1000000 in
theorem w_X6_takeNumber (z : vz_Z) (l : Launch) (x1 : Int32) (x2 : Int32) (σ : vz_I)  {r : Int32} {σ' : vz_I} (h : f_X6_takeNumber x1 x2 σ = some (r, σ')) : vz_Con z l 2 yX6_takeNumber cX6_takeNumber 3 (some .boolean) [.ref 1, .int x1, .int x2] vz_G0 σ vz_N0 (some (.int r)) vz_G0 σ' vz_N0 0 0 := by
  refine vz_con (by decide) (Nat.le_of_ble_eq_true rfl) (fun μ hc hl hcap hret => ?_)
  subst hl
  unfold f_X6_takeNumber at h
  refine vr_aload_n (pc := 0) hc dX6_takeNumber_0 rfl ?_
  obtain ⟨v2, σ3, he1, h⟩ := vz_b2e h
  refine vr_cVi (pc := 1) hc dX6_takeNumber_1 mt_X6_readToken ml_X6_39 gc_1 (w_X6_readToken z μ.2.1  σ he1) rfl (by decide) rfl (Nat.le_of_ble_eq_true rfl) ?_
  refine vr_if_ne (pc := 4) hc 9 dX6_takeNumber_4 (by decide) (fun hb4 => ?_) (fun hb4 => ?_)
  · rw [if_neg hb4] at h
    refine vr_aload_n (pc := 9) hc dX6_takeNumber_9 rfl ?_
    refine vr_getI (pc := 10) hc dX6_takeNumber_10 fl_X6_43 gc_1 (gi_6_3 gc_1) ?_
    refine vr_iconst (pc := 13) hc dX6_takeNumber_13 (2 : Int32) (by decide) ?_
    refine vr_icmp_eq (pc := 14) hc 27 dX6_takeNumber_14 (by decide) (fun hb5 => ?_) (fun hb5 => ?_)
    · rw [if_pos hb5] at h
      refine vr_aload_n (pc := 27) hc dX6_takeNumber_27 rfl ?_
      refine vr_getI (pc := 28) hc dX6_takeNumber_28 fl_X6_89 gc_1 (gi_6_5 gc_1) ?_
      refine vr_iload_n (pc := 31) hc dX6_takeNumber_31 rfl ?_
      refine vr_iload_n (pc := 32) hc dX6_takeNumber_32 rfl ?_
      refine vr_cNi (pc := 33) hc dX6_takeNumber_33 mt_X8_isWithin sx_X8_isWithin ml_X6_135  (w_X8_isWithin z μ.2.1 (σ3 1 5) x1 x2 σ3 rfl) rfl (by decide) rfl (Nat.le_of_ble_eq_true rfl) ?_
      refine vr_if_ne (pc := 36) hc 51 dX6_takeNumber_36 (by decide) (fun hb6 => ?_) (fun hb6 => ?_)
      · rw [if_neg hb6] at h
        refine vr_iconst (pc := 51) hc dX6_takeNumber_51 (1 : Int32) (by decide) ?_
        refine vr_goto (pc := 52) hc 56 dX6_takeNumber_52 (by decide) ?_
        obtain ⟨rfl, rfl⟩ := vz_in2 h
        exact hret _ _ (vz_ret_i dX6_takeNumber_56 (by decide))
      · rw [if_pos hb6] at h
        refine vr_aload_n (pc := 39) hc dX6_takeNumber_39 rfl ?_
        refine vr_iconst (pc := 40) hc dX6_takeNumber_40 (3 : Int32) (by decide) ?_
        refine vr_aload_n (pc := 41) hc dX6_takeNumber_41 rfl ?_
        refine vr_getI (pc := 42) hc dX6_takeNumber_42 fl_X6_62 gc_1 (gi_6_4 gc_1) ?_
        obtain ⟨v8, σ9, he7⟩ : ∃ x s, f_X6_refuse (3 : Int32) (σ3 1 4) σ3 = (x, s) := ⟨_, _, rfl⟩
        rw [he7] at h
        rw [vz_c2_e] at h
        refine vr_cVi (pc := 45) hc dX6_takeNumber_45 mt_X6_refuse ml_X6_55 gc_1 (w_X6_refuse z μ.2.1 (3 : Int32) (σ3 1 4) σ3 he7) rfl (by decide) rfl (Nat.le_of_ble_eq_true rfl) ?_
        refine vr_if_eq (pc := 48) hc 55 dX6_takeNumber_48 (by decide) (fun hb10 => ?_) (fun hb10 => ?_)
        · rw [if_pos hb10] at h
          refine vr_iconst (pc := 55) hc dX6_takeNumber_55 (0 : Int32) (by decide) ?_
          obtain ⟨rfl, rfl⟩ := vz_in2 h
          exact hret _ _ (vz_ret_i dX6_takeNumber_56 (by decide))
        · rw [if_neg hb10] at h
          refine vr_iconst (pc := 51) hc dX6_takeNumber_51 (1 : Int32) (by decide) ?_
          refine vr_goto (pc := 52) hc 56 dX6_takeNumber_52 (by decide) ?_
          obtain ⟨rfl, rfl⟩ := vz_in2 h
          exact hret _ _ (vz_ret_i dX6_takeNumber_56 (by decide))
    · rw [if_neg hb5] at h
      refine vr_aload_n (pc := 17) hc dX6_takeNumber_17 rfl ?_
      refine vr_iconst (pc := 18) hc dX6_takeNumber_18 (2 : Int32) (by decide) ?_
      refine vr_aload_n (pc := 19) hc dX6_takeNumber_19 rfl ?_
      refine vr_getI (pc := 20) hc dX6_takeNumber_20 fl_X6_62 gc_1 (gi_6_4 gc_1) ?_
      obtain ⟨v12, σ13, he11⟩ : ∃ x s, f_X6_refuse (2 : Int32) (σ3 1 4) σ3 = (x, s) := ⟨_, _, rfl⟩
      rw [he11] at h
      rw [vz_c2_e] at h
      refine vr_cVi (pc := 23) hc dX6_takeNumber_23 mt_X6_refuse ml_X6_55 gc_1 (w_X6_refuse z μ.2.1 (2 : Int32) (σ3 1 4) σ3 he11) rfl (by decide) rfl (Nat.le_of_ble_eq_true rfl) ?_
      have hb14 := vz_ifp h
      rw [if_pos hb14] at h
      obtain ⟨rfl, rfl⟩ := vz_in2 h
      exact hret _ _ (vz_ret_i dX6_takeNumber_26 (vz_bn hb14))
  · rw [if_pos hb4] at h
    refine vr_iconst (pc := 7) hc dX6_takeNumber_7 (0 : Int32) (by decide) ?_
    obtain ⟨rfl, rfl⟩ := vz_in2 h
    exact hret _ _ (vz_ret_i dX6_takeNumber_8 (by decide))
-- X6_takeSemicolon: depth 2, effects S=True W=True P=True
def f_X6_takeSemicolon  (σ : vz_I) : Option (Int32 × vz_I) := vz_b2 (f_X6_readToken  σ) (fun v2 σ3 => if v2 = 0 then some ((0 : Int32), σ3) else if (σ3 1 3) = (3 : Int32) then some ((1 : Int32), σ3) else vz_c2 (f_X6_refuse (2 : Int32) (σ3 1 4) σ3) (fun v7 σ8 => if v7 = 0 then some ((0 : Int32), σ8) else some ((1 : Int32), σ8)))
set_option maxRecDepth 20000 in
set_option maxHeartbeats 1000000 in
theorem w_X6_takeSemicolon (z : vz_Z) (l : Launch)  (σ : vz_I)  {r : Int32} {σ' : vz_I} (h : f_X6_takeSemicolon  σ = some (r, σ')) : vz_Con z l 2 yX6_takeSemicolon cX6_takeSemicolon 1 (some .boolean) [.ref 1] vz_G0 σ vz_N0 (some (.int r)) vz_G0 σ' vz_N0 0 0 := by
  refine vz_con (by decide) (Nat.le_of_ble_eq_true rfl) (fun μ hc hl hcap hret => ?_)
  subst hl
  unfold f_X6_takeSemicolon at h
  refine vr_aload_n (pc := 0) hc dX6_takeSemicolon_0 rfl ?_
  obtain ⟨v2, σ3, he1, h⟩ := vz_b2e h
  refine vr_cVi (pc := 1) hc dX6_takeSemicolon_1 mt_X6_readToken ml_X6_39 gc_1 (w_X6_readToken z μ.2.1  σ he1) rfl (by decide) rfl (Nat.le_of_ble_eq_true rfl) ?_
  refine vr_if_eq (pc := 4) hc 31 dX6_takeSemicolon_4 (by decide) (fun hb4 => ?_) (fun hb4 => ?_)
  · rw [if_pos hb4] at h
    refine vr_iconst (pc := 31) hc dX6_takeSemicolon_31 (0 : Int32) (by decide) ?_
    obtain ⟨rfl, rfl⟩ := vz_in2 h
    exact hret _ _ (vz_ret_i dX6_takeSemicolon_32 (by decide))
  · rw [if_neg hb4] at h
    refine vr_aload_n (pc := 7) hc dX6_takeSemicolon_7 rfl ?_
    refine vr_getI (pc := 8) hc dX6_takeSemicolon_8 fl_X6_43 gc_1 (gi_6_3 gc_1) ?_
    refine vr_iconst (pc := 11) hc dX6_takeSemicolon_11 (3 : Int32) (by decide) ?_
    refine vr_icmp_eq (pc := 12) hc 27 dX6_takeSemicolon_12 (by decide) (fun hb5 => ?_) (fun hb5 => ?_)
    · rw [if_pos hb5] at h
      refine vr_iconst (pc := 27) hc dX6_takeSemicolon_27 (1 : Int32) (by decide) ?_
      refine vr_goto (pc := 28) hc 32 dX6_takeSemicolon_28 (by decide) ?_
      obtain ⟨rfl, rfl⟩ := vz_in2 h
      exact hret _ _ (vz_ret_i dX6_takeSemicolon_32 (by decide))
    · rw [if_neg hb5] at h
      refine vr_aload_n (pc := 15) hc dX6_takeSemicolon_15 rfl ?_
      refine vr_iconst (pc := 16) hc dX6_takeSemicolon_16 (2 : Int32) (by decide) ?_
      refine vr_aload_n (pc := 17) hc dX6_takeSemicolon_17 rfl ?_
      refine vr_getI (pc := 18) hc dX6_takeSemicolon_18 fl_X6_62 gc_1 (gi_6_4 gc_1) ?_
      obtain ⟨v7, σ8, he6⟩ : ∃ x s, f_X6_refuse (2 : Int32) (σ3 1 4) σ3 = (x, s) := ⟨_, _, rfl⟩
      rw [he6] at h
      rw [vz_c2_e] at h
      refine vr_cVi (pc := 21) hc dX6_takeSemicolon_21 mt_X6_refuse ml_X6_55 gc_1 (w_X6_refuse z μ.2.1 (2 : Int32) (σ3 1 4) σ3 he6) rfl (by decide) rfl (Nat.le_of_ble_eq_true rfl) ?_
      refine vr_if_eq (pc := 24) hc 31 dX6_takeSemicolon_24 (by decide) (fun hb9 => ?_) (fun hb9 => ?_)
      · rw [if_pos hb9] at h
        refine vr_iconst (pc := 31) hc dX6_takeSemicolon_31 (0 : Int32) (by decide) ?_
        obtain ⟨rfl, rfl⟩ := vz_in2 h
        exact hret _ _ (vz_ret_i dX6_takeSemicolon_32 (by decide))
      · rw [if_neg hb9] at h
        refine vr_iconst (pc := 27) hc dX6_takeSemicolon_27 (1 : Int32) (by decide) ?_
        refine vr_goto (pc := 28) hc 32 dX6_takeSemicolon_28 (by decide) ?_
        obtain ⟨rfl, rfl⟩ := vz_in2 h
        exact hret _ _ (vz_ret_i dX6_takeSemicolon_32 (by decide))
-- X7_canAllWalk: depth 2, effects S=True W=False P=True
def f_X7_canAllWalk_2 : Nat → Nat → Int32 → vz_I → Option Int32
  | 0, _, _, _ => none
  | n + 1, a0, x1, σ => if (σ a0 0) ≤ x1 then some (1 : Int32) else if vz_in x1 4 then vz_b1 (f_X7_canWalk a0 (a0 + 5 + 2 * x1.toNatClampNeg) σ) (fun v4 => if v4 = 0 then some (0 : Int32) else f_X7_canAllWalk_2 n a0 (x1 + (1 : Int32)) σ) else none
theorem f_X7_canAllWalk_2_s (n : Nat) (a0 : Nat) (x1 : Int32) (σ : vz_I) : f_X7_canAllWalk_2  (n + 1) a0 x1 σ = if (σ a0 0) ≤ x1 then some (1 : Int32) else if vz_in x1 4 then vz_b1 (f_X7_canWalk a0 (a0 + 5 + 2 * x1.toNatClampNeg) σ) (fun v4 => if v4 = 0 then some (0 : Int32) else f_X7_canAllWalk_2 n a0 (x1 + (1 : Int32)) σ) else none := rfl
set_option maxRecDepth 20000 in
set_option maxHeartbeats 1000000 in
theorem wn_X7_canAllWalk_2 (z : vz_Z) (μ : vz_M) (hc : vz_C z μ cX7_canAllWalk RX7 2 2) {r : Int32} (σ : vz_I) (hret : ∀ (pc : Nat) (L : vz_L), vz_ret cX7_canAllWalk (some .boolean) pc (some (.int r)) → vz_V z μ 0 0 pc L ((some (.int r)) : Option Value).toList vz_G0 σ vz_N0) : ∀ (n : Nat) (a0 : Nat) (x1 : Int32) (ha0 : (vz_G0 a0).1 = 7) (h : f_X7_canAllWalk_2  n a0 x1 σ = some r), vz_V z μ 0 0 2 [(0, some (.ref a0)), (1, some (.int x1))] [] vz_G0 σ vz_N0 := by
  intro n
  induction n with
  | zero =>
    intro a0 x1 ha0 h
    cases h
  | succ n ih =>
    intro a0 x1 ha0 h
    rw [f_X7_canAllWalk_2_s] at h
    refine vr_iload_n (pc := 2) hc dX7_canAllWalk_2 rfl ?_
    refine vr_aload_n (pc := 3) hc dX7_canAllWalk_3 rfl ?_
    refine vr_getI (pc := 4) hc dX7_canAllWalk_4 fl_X7_32 ha0 (gi_7_0 ha0) ?_
    refine vr_icmp_ge (pc := 7) hc 31 dX7_canAllWalk_7 (by decide) (fun hb1 => ?_) (fun hb1 => ?_)
    · rw [if_pos hb1] at h
      refine vr_iconst (pc := 31) hc dX7_canAllWalk_31 (1 : Int32) (by decide) ?_
      obtain rfl := Option.some.inj h
      exact hret _ _ (vz_ret_i dX7_canAllWalk_32 (by decide))
    · rw [if_neg hb1] at h
      refine vr_aload_n (pc := 10) hc dX7_canAllWalk_10 rfl ?_
      refine vr_aload_n (pc := 11) hc dX7_canAllWalk_11 rfl ?_
      refine vr_getR (pc := 12) hc dX7_canAllWalk_12 fl_X7_11 ha0 (gr_7_5 ha0).1 ?_
      refine vr_iload_n (pc := 15) hc dX7_canAllWalk_15 rfl ?_
      have hb2 := vz_ifp h
      rw [if_pos hb2] at h
      refine vr_aald (pc := 16) hc 13 4 dX7_canAllWalk_16 ((gr_7_5 ha0).2.1) (by decide) (by decide) ((gr_7_5 ha0).2.2) (vz_in_vp hb2) (ge_13 ha0 (vz_in_lt hb2)).1 ?_
      obtain ⟨v4, he3, h⟩ := vz_b1e h
      refine vr_cVi (pc := 17) hc dX7_canAllWalk_17 mt_X7_canWalk ml_X7_72 ha0 (w_X7_canWalk z μ.2.1 a0 (a0 + 5 + 2 * x1.toNatClampNeg) σ ha0 ((ge_13 ha0 (vz_in_lt hb2)).2) he3) rfl (by decide) rfl (Nat.le_of_ble_eq_true rfl) ?_
      refine vr_if_ne (pc := 20) hc 25 dX7_canAllWalk_20 (by decide) (fun hb6 => ?_) (fun hb6 => ?_)
      · rw [if_neg hb6] at h
        refine vr_iinc (pc := 25) hc dX7_canAllWalk_25 (1 : Int32) (by decide) rfl (by decide) rfl ?_
        refine vr_goto (pc := 28) hc 2 dX7_canAllWalk_28 (by decide) ?_
        exact vz_sub (ih a0 (x1 + (1 : Int32))  ha0 h) (vz_sb1 rfl (vz_sb1 rfl vz_sb0))
      · rw [if_pos hb6] at h
        refine vr_iconst (pc := 23) hc dX7_canAllWalk_23 (0 : Int32) (by decide) ?_
        obtain rfl := Option.some.inj h
        exact hret _ _ (vz_ret_i dX7_canAllWalk_24 (by decide))
def f_X7_canAllWalk (a0 : Nat) (σ : vz_I) : Option Int32 := f_X7_canAllWalk_2 vz_fu a0 (0 : Int32) σ
set_option maxRecDepth 20000 in
set_option maxHeartbeats 1000000 in
theorem w_X7_canAllWalk (z : vz_Z) (l : Launch) (a0 : Nat) (σ : vz_I) (ha0 : (vz_G0 a0).1 = 7) {r : Int32} (h : f_X7_canAllWalk a0 σ = some r) : vz_Con z l 2 yX7_canAllWalk cX7_canAllWalk 2 (some .boolean) [.ref a0] vz_G0 σ vz_N0 (some (.int r)) vz_G0 σ vz_N0 0 0 := by
  refine vz_con (by decide) (Nat.le_of_ble_eq_true rfl) (fun μ hc hl hcap hret => ?_)
  subst hl
  unfold f_X7_canAllWalk at h
  refine vr_iconst (pc := 0) hc dX7_canAllWalk_0 (0 : Int32) (by decide) ?_
  refine vr_istore_n (pc := 1) hc dX7_canAllWalk_1 (by decide) rfl ?_
  exact vz_sub (wn_X7_canAllWalk_2 z μ hc σ hret vz_fu a0 (0 : Int32) ha0 h) (vz_sb1 rfl (vz_sb1 rfl vz_sb0))
-- X7_menRead: depth 2, effects S=True W=False P=True
def f_X7_menRead_19 : Nat → Nat → Nat → Int32 → Int64 → Int32 → Int32 → vz_I → Option Int32
  | 0, _, _, _, _, _, _, _ => none
  | n + 1, a0, a1, x3, j4, x6, x7, σ => if (σ a0 0) ≤ x7 then some x6 else if vz_in x7 4 then vz_b1 (f_X0_minutesShown (a0 + 5 + 2 * x7.toNatClampNeg) (σ a1 0) x3 σ) (fun v4 => if (lg_cmp (v4 &&& j4) (0 : Int64)) = 0 then f_X7_menRead_19 n a0 a1 x3 j4 x6 (x7 + (1 : Int32)) σ else f_X7_menRead_19 n a0 a1 x3 j4 (x6 ||| ((1 : Int32) <<< (x7 &&& 31))) (x7 + (1 : Int32)) σ) else none
theorem f_X7_menRead_19_s (n : Nat) (a0 : Nat) (a1 : Nat) (x3 : Int32) (j4 : Int64) (x6 : Int32) (x7 : Int32) (σ : vz_I) : f_X7_menRead_19  (n + 1) a0 a1 x3 j4 x6 x7 σ = if (σ a0 0) ≤ x7 then some x6 else if vz_in x7 4 then vz_b1 (f_X0_minutesShown (a0 + 5 + 2 * x7.toNatClampNeg) (σ a1 0) x3 σ) (fun v4 => if (lg_cmp (v4 &&& j4) (0 : Int64)) = 0 then f_X7_menRead_19 n a0 a1 x3 j4 x6 (x7 + (1 : Int32)) σ else f_X7_menRead_19 n a0 a1 x3 j4 (x6 ||| ((1 : Int32) <<< (x7 &&& 31))) (x7 + (1 : Int32)) σ) else none := rfl
set_option maxRecDepth 20000 in
set_option maxHeartbeats 1000000 in
theorem wn_X7_menRead_19 (z : vz_Z) (μ : vz_M) (hc : vz_C z μ cX7_menRead RX7 2 8) {r : Int32} (σ : vz_I) (hret : ∀ (pc : Nat) (L : vz_L), vz_ret cX7_menRead (some .int) pc (some (.int r)) → vz_V z μ 0 0 pc L ((some (.int r)) : Option Value).toList vz_G0 σ vz_N0) : ∀ (n : Nat) (a0 : Nat) (a1 : Nat) (x3 : Int32) (j4 : Int64) (x6 : Int32) (x7 : Int32) (ha0 : (vz_G0 a0).1 = 7) (ha1 : (vz_G0 a1).1 = 3) (h : f_X7_menRead_19  n a0 a1 x3 j4 x6 x7 σ = some r), vz_V z μ 0 0 19 [(0, some (.ref a0)), (1, some (.ref a1)), (3, some (.int x3)), (4, some (.long j4)), (6, some (.int x6)), (7, some (.int x7))] [] vz_G0 σ vz_N0 := by
  intro n
  induction n with
  | zero =>
    intro a0 a1 x3 j4 x6 x7 ha0 ha1 h
    cases h
  | succ n ih =>
    intro a0 a1 x3 j4 x6 x7 ha0 ha1 h
    rw [f_X7_menRead_19_s] at h
    refine vr_iload (pc := 19) hc dX7_menRead_19 rfl ?_
    refine vr_aload_n (pc := 21) hc dX7_menRead_21 rfl ?_
    refine vr_getI (pc := 22) hc dX7_menRead_22 fl_X7_32 ha0 (gi_7_0 ha0) ?_
    refine vr_icmp_ge (pc := 25) hc 66 dX7_menRead_25 (by decide) (fun hb1 => ?_) (fun hb1 => ?_)
    · rw [if_pos hb1] at h
      refine vr_iload (pc := 66) hc dX7_menRead_66 rfl ?_
      obtain rfl := Option.some.inj h
      exact hret _ _ (vz_ret_i dX7_menRead_68 rfl)
    · rw [if_neg hb1] at h
      refine vr_aload_n (pc := 28) hc dX7_menRead_28 rfl ?_
      refine vr_getR (pc := 29) hc dX7_menRead_29 fl_X7_11 ha0 (gr_7_5 ha0).1 ?_
      refine vr_iload (pc := 32) hc dX7_menRead_32 rfl ?_
      have hb2 := vz_ifp h
      rw [if_pos hb2] at h
      refine vr_aald (pc := 34) hc 13 4 dX7_menRead_34 ((gr_7_5 ha0).2.1) (by decide) (by decide) ((gr_7_5 ha0).2.2) (vz_in_vp hb2) (ge_13 ha0 (vz_in_lt hb2)).1 ?_
      refine vr_aload_n (pc := 35) hc dX7_menRead_35 rfl ?_
      refine vr_getI (pc := 36) hc dX7_menRead_36 fl_X7_92 ha1 (gi_3_0 ha1) ?_
      refine vr_iload_n (pc := 39) hc dX7_menRead_39 rfl ?_
      obtain ⟨v4, he3, h⟩ := vz_b1e h
      refine vr_cVj (pc := 40) hc dX7_menRead_40 mt_X0_minutesShown ml_X7_95 ((ge_13 ha0 (vz_in_lt hb2)).2) (w_X0_minutesShown z μ.2.1 (a0 + 5 + 2 * x7.toNatClampNeg) (σ a1 0) x3 σ ((ge_13 ha0 (vz_in_lt hb2)).2) he3) rfl (by decide) rfl (Nat.le_of_ble_eq_true rfl) ?_
      refine vr_lload (pc := 43) hc dX7_menRead_43 rfl ?_
      refine vr_land (pc := 45) hc dX7_menRead_45 ?_
      refine vr_lconst (pc := 46) hc dX7_menRead_46 (0 : Int64) (by decide) ?_
      refine vr_lcmp (pc := 47) hc dX7_menRead_47 ?_
      refine vr_if_eq (pc := 48) hc 60 dX7_menRead_48 (by decide) (fun hb6 => ?_) (fun hb6 => ?_)
      · rw [if_pos hb6] at h
        refine vr_iinc (pc := 60) hc dX7_menRead_60 (1 : Int32) (by decide) rfl (by decide) rfl ?_
        refine vr_goto (pc := 63) hc 19 dX7_menRead_63 (by decide) ?_
        exact vz_sub (ih a0 a1 x3 j4 x6 (x7 + (1 : Int32))  ha0 ha1 h) (vz_sb1 rfl (vz_sb1 rfl (vz_sb1 rfl (vz_sb1 rfl (vz_sb1 rfl (vz_sb1 rfl vz_sb0))))))
      · rw [if_neg hb6] at h
        refine vr_iload (pc := 51) hc dX7_menRead_51 rfl ?_
        refine vr_iconst (pc := 53) hc dX7_menRead_53 (1 : Int32) (by decide) ?_
        refine vr_iload (pc := 54) hc dX7_menRead_54 rfl ?_
        refine vr_ishl (pc := 56) hc dX7_menRead_56 ?_
        refine vr_ior (pc := 57) hc dX7_menRead_57 ?_
        refine vr_istore (pc := 58) hc dX7_menRead_58 (by decide) rfl ?_
        refine vr_iinc (pc := 60) hc dX7_menRead_60 (1 : Int32) (by decide) rfl (by decide) rfl ?_
        refine vr_goto (pc := 63) hc 19 dX7_menRead_63 (by decide) ?_
        exact vz_sub (ih a0 a1 x3 j4 (x6 ||| ((1 : Int32) <<< (x7 &&& 31))) (x7 + (1 : Int32))  ha0 ha1 h) (vz_sb1 rfl (vz_sb1 rfl (vz_sb1 rfl (vz_sb1 rfl (vz_sb1 rfl (vz_sb1 rfl vz_sb0))))))
def f_X7_menRead (a0 : Nat) (a1 : Nat) (x2 : Int32) (x3 : Int32) (σ : vz_I) : Option Int32 := f_X7_menRead_19 vz_fu a0 a1 x3 ((f_X7_minutesOf a0 a1 σ) &&& (f_X8_span x2 x2)) (0 : Int32) (0 : Int32) σ
set_option maxRecDepth 20000 in
set_option maxHeartbeats 1000000 in
theorem w_X7_menRead (z : vz_Z) (l : Launch) (a0 : Nat) (a1 : Nat) (x2 : Int32) (x3 : Int32) (σ : vz_I) (ha0 : (vz_G0 a0).1 = 7) (ha1 : (vz_G0 a1).1 = 3) {r : Int32} (h : f_X7_menRead a0 a1 x2 x3 σ = some r) : vz_Con z l 2 yX7_menRead cX7_menRead 8 (some .int) [.ref a0, .ref a1, .int x2, .int x3] vz_G0 σ vz_N0 (some (.int r)) vz_G0 σ vz_N0 0 0 := by
  refine vz_con (by decide) (Nat.le_of_ble_eq_true rfl) (fun μ hc hl hcap hret => ?_)
  subst hl
  unfold f_X7_menRead at h
  refine vr_aload_n (pc := 0) hc dX7_menRead_0 rfl ?_
  refine vr_aload_n (pc := 1) hc dX7_menRead_1 rfl ?_
  refine vr_cVj (pc := 2) hc dX7_menRead_2 mt_X7_minutesOf ml_X7_88 ha0 (w_X7_minutesOf z μ.2.1 a0 a1 σ ha0 ha1 rfl) rfl (by decide) rfl (Nat.le_of_ble_eq_true rfl) ?_
  refine vr_iload_n (pc := 5) hc dX7_menRead_5 rfl ?_
  refine vr_iload_n (pc := 6) hc dX7_menRead_6 rfl ?_
  refine vr_cNj (pc := 7) hc dX7_menRead_7 mt_X8_span sx_X8_span ml_X7_82  (w_X8_span z μ.2.1 x2 x2 σ rfl) rfl (by decide) rfl (Nat.le_of_ble_eq_true rfl) ?_
  refine vr_land (pc := 10) hc dX7_menRead_10 ?_
  refine vr_lstore (pc := 11) hc dX7_menRead_11 (by decide) rfl ?_
  refine vr_iconst (pc := 13) hc dX7_menRead_13 (0 : Int32) (by decide) ?_
  refine vr_istore (pc := 14) hc dX7_menRead_14 (by decide) rfl ?_
  refine vr_iconst (pc := 16) hc dX7_menRead_16 (0 : Int32) (by decide) ?_
  refine vr_istore (pc := 17) hc dX7_menRead_17 (by decide) rfl ?_
  exact vz_sub (wn_X7_menRead_19 z μ hc σ hret vz_fu a0 a1 x3 ((f_X7_minutesOf a0 a1 σ) &&& (f_X8_span x2 x2)) (0 : Int32) (0 : Int32) ha0 ha1 h) (vz_sb1 rfl (vz_sb1 rfl (vz_sb1 rfl (vz_sb1 rfl (vz_sb1 rfl (vz_sb1 rfl vz_sb0))))))
-- X7_newsRead: depth 2, effects S=True W=False P=True
def f_X7_newsRead_40 (k15 : Nat → Nat → Int32 → Int32 → Int64 → Int32 → Int32 → Option Int32) (a0 : Nat) (a1 : Nat) (x2 : Int32) (x5 : Int32) (j6 : Int64) (x8 : Int32) (x9 : Int32) (xs0 : Int32) (σ : vz_I) : Option Int32 := if xs0 = 0 then k15 a0 a1 x2 x5 j6 x8 (x9 + (1 : Int32)) else if vz_in x9 4 then vz_b1 (f_X0_minutesShown (a0 + 5 + 2 * x9.toNatClampNeg) (σ a1 0) x2 σ) (fun v6 => if (lg_cmp (v6 &&& j6) (0 : Int64)) = 0 then k15 a0 a1 x2 x5 j6 x8 (x9 + (1 : Int32)) else if vz_in x9 4 then vz_let (x8 ||| ((1 : Int32) <<< ((σ (a0 + 5 + 2 * x9.toNatClampNeg) 1) &&& 31))) (fun x10 => k15 a0 a1 x2 x5 j6 x10 (x9 + (1 : Int32))) else none) else none
set_option maxRecDepth 20000 in
set_option maxHeartbeats 1000000 in
theorem wn_X7_newsRead_40 (z : vz_Z) (μ : vz_M) (hc : vz_C z μ cX7_newsRead RX7 2 11) {r : Int32} (σ : vz_I) (hret : ∀ (pc : Nat) (L : vz_L), vz_ret cX7_newsRead (some .int) pc (some (.int r)) → vz_V z μ 0 0 pc L ((some (.int r)) : Option Value).toList vz_G0 σ vz_N0) (k15 : Nat → Nat → Int32 → Int32 → Int64 → Int32 → Int32 → Option Int32) (hk15 : ∀ (a0 : Nat) (a1 : Nat) (x2 : Int32) (x5 : Int32) (j6 : Int64) (x8 : Int32) (x9 : Int32), (vz_G0 a0).1 = 7 → (vz_G0 a1).1 = 3 → k15 a0 a1 x2 x5 j6 x8 x9 = some r → vz_V z μ 0 0 15 [(0, some (.ref a0)), (1, some (.ref a1)), (2, some (.int x2)), (5, some (.int x5)), (6, some (.long j6)), (8, some (.int x8)), (9, some (.int x9))] [] vz_G0 σ vz_N0) (a0 : Nat) (a1 : Nat) (x2 : Int32) (x5 : Int32) (j6 : Int64) (x8 : Int32) (x9 : Int32) (xs0 : Int32) (ha0 : (vz_G0 a0).1 = 7) (ha1 : (vz_G0 a1).1 = 3) (h : f_X7_newsRead_40 k15 a0 a1 x2 x5 j6 x8 x9 xs0 σ = some r) : vz_V z μ 0 0 40 [(0, some (.ref a0)), (1, some (.ref a1)), (2, some (.int x2)), (5, some (.int x5)), (6, some (.long j6)), (8, some (.int x8)), (9, some (.int x9))] [.int xs0] vz_G0 σ vz_N0 := by
  unfold f_X7_newsRead_40 at h
  refine vr_istore (pc := 40) hc dX7_newsRead_40 (by decide) rfl ?_
  refine vr_iload (pc := 42) hc dX7_newsRead_42 rfl ?_
  refine vr_if_eq (pc := 44) hc 87 dX7_newsRead_44 (by decide) (fun hb3 => ?_) (fun hb3 => ?_)
  · rw [if_pos hb3] at h
    refine vr_iinc (pc := 87) hc dX7_newsRead_87 (1 : Int32) (by decide) rfl (by decide) rfl ?_
    refine vr_goto (pc := 90) hc 15 dX7_newsRead_90 (by decide) ?_
    exact vz_sub (hk15 a0 a1 x2 x5 j6 x8 (x9 + (1 : Int32))  ha0 ha1 h) (vz_sb1 rfl (vz_sb1 rfl (vz_sb1 rfl (vz_sb1 rfl (vz_sb1 rfl (vz_sb1 rfl (vz_sb1 rfl vz_sb0)))))))
  · rw [if_neg hb3] at h
    refine vr_aload_n (pc := 47) hc dX7_newsRead_47 rfl ?_
    refine vr_getR (pc := 48) hc dX7_newsRead_48 fl_X7_11 ha0 (gr_7_5 ha0).1 ?_
    refine vr_iload (pc := 51) hc dX7_newsRead_51 rfl ?_
    have hb4 := vz_ifp h
    rw [if_pos hb4] at h
    refine vr_aald (pc := 53) hc 13 4 dX7_newsRead_53 ((gr_7_5 ha0).2.1) (by decide) (by decide) ((gr_7_5 ha0).2.2) (vz_in_vp hb4) (ge_13 ha0 (vz_in_lt hb4)).1 ?_
    refine vr_aload_n (pc := 54) hc dX7_newsRead_54 rfl ?_
    refine vr_getI (pc := 55) hc dX7_newsRead_55 fl_X7_92 ha1 (gi_3_0 ha1) ?_
    refine vr_iload_n (pc := 58) hc dX7_newsRead_58 rfl ?_
    obtain ⟨v6, he5, h⟩ := vz_b1e h
    refine vr_cVj (pc := 59) hc dX7_newsRead_59 mt_X0_minutesShown ml_X7_95 ((ge_13 ha0 (vz_in_lt hb4)).2) (w_X0_minutesShown z μ.2.1 (a0 + 5 + 2 * x9.toNatClampNeg) (σ a1 0) x2 σ ((ge_13 ha0 (vz_in_lt hb4)).2) he5) rfl (by decide) rfl (Nat.le_of_ble_eq_true rfl) ?_
    refine vr_lload (pc := 62) hc dX7_newsRead_62 rfl ?_
    refine vr_land (pc := 64) hc dX7_newsRead_64 ?_
    refine vr_lconst (pc := 65) hc dX7_newsRead_65 (0 : Int64) (by decide) ?_
    refine vr_lcmp (pc := 66) hc dX7_newsRead_66 ?_
    refine vr_if_eq (pc := 67) hc 87 dX7_newsRead_67 (by decide) (fun hb8 => ?_) (fun hb8 => ?_)
    · rw [if_pos hb8] at h
      refine vr_iinc (pc := 87) hc dX7_newsRead_87 (1 : Int32) (by decide) rfl (by decide) rfl ?_
      refine vr_goto (pc := 90) hc 15 dX7_newsRead_90 (by decide) ?_
      exact vz_sub (hk15 a0 a1 x2 x5 j6 x8 (x9 + (1 : Int32))  ha0 ha1 h) (vz_sb1 rfl (vz_sb1 rfl (vz_sb1 rfl (vz_sb1 rfl (vz_sb1 rfl (vz_sb1 rfl (vz_sb1 rfl vz_sb0)))))))
    · rw [if_neg hb8] at h
      refine vr_iload (pc := 70) hc dX7_newsRead_70 rfl ?_
      refine vr_iconst (pc := 72) hc dX7_newsRead_72 (1 : Int32) (by decide) ?_
      refine vr_aload_n (pc := 73) hc dX7_newsRead_73 rfl ?_
      refine vr_getR (pc := 74) hc dX7_newsRead_74 fl_X7_11 ha0 (gr_7_5 ha0).1 ?_
      refine vr_iload (pc := 77) hc dX7_newsRead_77 rfl ?_
      have hb9 := vz_ifp h
      rw [if_pos hb9] at h
      refine vr_aald (pc := 79) hc 13 4 dX7_newsRead_79 ((gr_7_5 ha0).2.1) (by decide) (by decide) ((gr_7_5 ha0).2.2) (vz_in_vp hb9) (ge_13 ha0 (vz_in_lt hb9)).1 ?_
      refine vr_getI (pc := 80) hc dX7_newsRead_80 fl_X7_98 ((ge_13 ha0 (vz_in_lt hb9)).2) (gi_0_1 ((ge_13 ha0 (vz_in_lt hb9)).2)) ?_
      refine vr_ishl (pc := 83) hc dX7_newsRead_83 ?_
      refine vr_ior (pc := 84) hc dX7_newsRead_84 ?_
      obtain ⟨x10, hx11⟩ : ∃ x, x = x8 ||| ((1 : Int32) <<< ((σ (a0 + 5 + 2 * x9.toNatClampNeg) 1) &&& 31)) := ⟨_, rfl⟩
      rw [← hx11] at h ⊢
      rw [vz_let_e] at h
      refine vr_istore (pc := 85) hc dX7_newsRead_85 (by decide) rfl ?_
      refine vr_iinc (pc := 87) hc dX7_newsRead_87 (1 : Int32) (by decide) rfl (by decide) rfl ?_
      refine vr_goto (pc := 90) hc 15 dX7_newsRead_90 (by decide) ?_
      exact vz_sub (hk15 a0 a1 x2 x5 j6 x10 (x9 + (1 : Int32))  ha0 ha1 h) (vz_sb1 rfl (vz_sb1 rfl (vz_sb1 rfl (vz_sb1 rfl (vz_sb1 rfl (vz_sb1 rfl (vz_sb1 rfl vz_sb0)))))))
def f_X7_newsRead_15 : Nat → Nat → Nat → Int32 → Int32 → Int64 → Int32 → Int32 → vz_I → Option Int32
  | 0, _, _, _, _, _, _, _, _ => none
  | n + 1, a0, a1, x2, x5, j6, x8, x9, σ => if (σ a0 0) ≤ x9 then some x8 else if ((x5 >>> (x9 &&& 31)) &&& (1 : Int32)) = (1 : Int32) then f_X7_newsRead_40 (fun a0 a1 x2 x5 j6 x8 x9 => f_X7_newsRead_15 n a0 a1 x2 x5 j6 x8 x9 σ) a0 a1 x2 x5 j6 x8 x9 (1 : Int32) σ else f_X7_newsRead_40 (fun a0 a1 x2 x5 j6 x8 x9 => f_X7_newsRead_15 n a0 a1 x2 x5 j6 x8 x9 σ) a0 a1 x2 x5 j6 x8 x9 (0 : Int32) σ
theorem f_X7_newsRead_15_s (n : Nat) (a0 : Nat) (a1 : Nat) (x2 : Int32) (x5 : Int32) (j6 : Int64) (x8 : Int32) (x9 : Int32) (σ : vz_I) : f_X7_newsRead_15  (n + 1) a0 a1 x2 x5 j6 x8 x9 σ = if (σ a0 0) ≤ x9 then some x8 else if ((x5 >>> (x9 &&& 31)) &&& (1 : Int32)) = (1 : Int32) then f_X7_newsRead_40 (fun a0 a1 x2 x5 j6 x8 x9 => f_X7_newsRead_15 n a0 a1 x2 x5 j6 x8 x9 σ) a0 a1 x2 x5 j6 x8 x9 (1 : Int32) σ else f_X7_newsRead_40 (fun a0 a1 x2 x5 j6 x8 x9 => f_X7_newsRead_15 n a0 a1 x2 x5 j6 x8 x9 σ) a0 a1 x2 x5 j6 x8 x9 (0 : Int32) σ := rfl
set_option maxRecDepth 20000 in
set_option maxHeartbeats 1000000 in
theorem wn_X7_newsRead_15 (z : vz_Z) (μ : vz_M) (hc : vz_C z μ cX7_newsRead RX7 2 11) {r : Int32} (σ : vz_I) (hret : ∀ (pc : Nat) (L : vz_L), vz_ret cX7_newsRead (some .int) pc (some (.int r)) → vz_V z μ 0 0 pc L ((some (.int r)) : Option Value).toList vz_G0 σ vz_N0) : ∀ (n : Nat) (a0 : Nat) (a1 : Nat) (x2 : Int32) (x5 : Int32) (j6 : Int64) (x8 : Int32) (x9 : Int32) (ha0 : (vz_G0 a0).1 = 7) (ha1 : (vz_G0 a1).1 = 3) (h : f_X7_newsRead_15  n a0 a1 x2 x5 j6 x8 x9 σ = some r), vz_V z μ 0 0 15 [(0, some (.ref a0)), (1, some (.ref a1)), (2, some (.int x2)), (5, some (.int x5)), (6, some (.long j6)), (8, some (.int x8)), (9, some (.int x9))] [] vz_G0 σ vz_N0 := by
  intro n
  induction n with
  | zero =>
    intro a0 a1 x2 x5 j6 x8 x9 ha0 ha1 h
    cases h
  | succ n ih =>
    intro a0 a1 x2 x5 j6 x8 x9 ha0 ha1 h
    rw [f_X7_newsRead_15_s] at h
    refine vr_iload (pc := 15) hc dX7_newsRead_15 rfl ?_
    refine vr_aload_n (pc := 17) hc dX7_newsRead_17 rfl ?_
    refine vr_getI (pc := 18) hc dX7_newsRead_18 fl_X7_32 ha0 (gi_7_0 ha0) ?_
    refine vr_icmp_ge (pc := 21) hc 93 dX7_newsRead_21 (by decide) (fun hb1 => ?_) (fun hb1 => ?_)
    · rw [if_pos hb1] at h
      refine vr_iload (pc := 93) hc dX7_newsRead_93 rfl ?_
      obtain rfl := Option.some.inj h
      exact hret _ _ (vz_ret_i dX7_newsRead_95 rfl)
    · rw [if_neg hb1] at h
      refine vr_iload (pc := 24) hc dX7_newsRead_24 rfl ?_
      refine vr_iload (pc := 26) hc dX7_newsRead_26 rfl ?_
      refine vr_ishr (pc := 28) hc dX7_newsRead_28 ?_
      refine vr_iconst (pc := 29) hc dX7_newsRead_29 (1 : Int32) (by decide) ?_
      refine vr_iand (pc := 30) hc dX7_newsRead_30 ?_
      refine vr_iconst (pc := 31) hc dX7_newsRead_31 (1 : Int32) (by decide) ?_
      refine vr_icmp_ne (pc := 32) hc 39 dX7_newsRead_32 (by decide) (fun hb2 => ?_) (fun hb2 => ?_)
      · rw [if_neg hb2] at h
        refine vr_iconst (pc := 39) hc dX7_newsRead_39 (0 : Int32) (by decide) ?_
        exact vz_sub (wn_X7_newsRead_40 z μ hc σ hret (fun a0 a1 x2 x5 j6 x8 x9 => f_X7_newsRead_15 n a0 a1 x2 x5 j6 x8 x9 σ) ih a0 a1 x2 x5 j6 x8 x9 (0 : Int32) ha0 ha1 h) (vz_sb1 rfl (vz_sb1 rfl (vz_sb1 rfl (vz_sb1 rfl (vz_sb1 rfl (vz_sb1 rfl (vz_sb1 rfl vz_sb0)))))))
      · rw [if_pos hb2] at h
        refine vr_iconst (pc := 35) hc dX7_newsRead_35 (1 : Int32) (by decide) ?_
        refine vr_goto (pc := 36) hc 40 dX7_newsRead_36 (by decide) ?_
        exact vz_sub (wn_X7_newsRead_40 z μ hc σ hret (fun a0 a1 x2 x5 j6 x8 x9 => f_X7_newsRead_15 n a0 a1 x2 x5 j6 x8 x9 σ) ih a0 a1 x2 x5 j6 x8 x9 (1 : Int32) ha0 ha1 h) (vz_sb1 rfl (vz_sb1 rfl (vz_sb1 rfl (vz_sb1 rfl (vz_sb1 rfl (vz_sb1 rfl (vz_sb1 rfl vz_sb0)))))))
def f_X7_newsRead (a0 : Nat) (a1 : Nat) (x2 : Int32) (j3 : Int64) (x5 : Int32) (σ : vz_I) : Option Int32 := f_X7_newsRead_15 vz_fu a0 a1 x2 x5 ((f_X7_minutesOf a0 a1 σ) &&& j3) (0 : Int32) (0 : Int32) σ
set_option maxRecDepth 20000 in
set_option maxHeartbeats 1000000 in
theorem w_X7_newsRead (z : vz_Z) (l : Launch) (a0 : Nat) (a1 : Nat) (x2 : Int32) (j3 : Int64) (x5 : Int32) (σ : vz_I) (ha0 : (vz_G0 a0).1 = 7) (ha1 : (vz_G0 a1).1 = 3) {r : Int32} (h : f_X7_newsRead a0 a1 x2 j3 x5 σ = some r) : vz_Con z l 2 yX7_newsRead cX7_newsRead 11 (some .int) [.ref a0, .ref a1, .int x2, .long j3, .int x5] vz_G0 σ vz_N0 (some (.int r)) vz_G0 σ vz_N0 0 0 := by
  refine vz_con (by decide) (Nat.le_of_ble_eq_true rfl) (fun μ hc hl hcap hret => ?_)
  subst hl
  unfold f_X7_newsRead at h
  refine vr_aload_n (pc := 0) hc dX7_newsRead_0 rfl ?_
  refine vr_aload_n (pc := 1) hc dX7_newsRead_1 rfl ?_
  refine vr_cVj (pc := 2) hc dX7_newsRead_2 mt_X7_minutesOf ml_X7_88 ha0 (w_X7_minutesOf z μ.2.1 a0 a1 σ ha0 ha1 rfl) rfl (by decide) rfl (Nat.le_of_ble_eq_true rfl) ?_
  refine vr_lload_n (pc := 5) hc dX7_newsRead_5 rfl ?_
  refine vr_land (pc := 6) hc dX7_newsRead_6 ?_
  refine vr_lstore (pc := 7) hc dX7_newsRead_7 (by decide) rfl ?_
  refine vr_iconst (pc := 9) hc dX7_newsRead_9 (0 : Int32) (by decide) ?_
  refine vr_istore (pc := 10) hc dX7_newsRead_10 (by decide) rfl ?_
  refine vr_iconst (pc := 12) hc dX7_newsRead_12 (0 : Int32) (by decide) ?_
  refine vr_istore (pc := 13) hc dX7_newsRead_13 (by decide) rfl ?_
  exact vz_sub (wn_X7_newsRead_15 z μ hc σ hret vz_fu a0 a1 x2 x5 ((f_X7_minutesOf a0 a1 σ) &&& j3) (0 : Int32) (0 : Int32) ha0 ha1 h) (vz_sb1 rfl (vz_sb1 rfl (vz_sb1 rfl (vz_sb1 rfl (vz_sb1 rfl (vz_sb1 rfl (vz_sb1 rfl vz_sb0)))))))
