-- X9_copies: depth 0, effects S=True W=True P=True
def f_X9_copies_2 : Nat → Int32 → Int32 → Int32 → vz_I → Option vz_I
  | 0, _, _, _, _ => none
  | n + 1, x1, x2, x3, σ => if (61 : Int32) ≤ x3 then some σ else if vz_in (x1 + x3) 305 then if vz_in (x2 + x3) 305 then vz_let (vz_up σ 109 (x2 + x3).toNatClampNeg (σ 109 (x1 + x3).toNatClampNeg)) (fun σ4 => f_X9_copies_2 n x1 x2 (x3 + (1 : Int32)) σ4) else none else none
theorem f_X9_copies_2_s (n : Nat) (x1 : Int32) (x2 : Int32) (x3 : Int32) (σ : vz_I) : f_X9_copies_2  (n + 1) x1 x2 x3 σ = if (61 : Int32) ≤ x3 then some σ else if vz_in (x1 + x3) 305 then if vz_in (x2 + x3) 305 then vz_let (vz_up σ 109 (x2 + x3).toNatClampNeg (σ 109 (x1 + x3).toNatClampNeg)) (fun σ4 => f_X9_copies_2 n x1 x2 (x3 + (1 : Int32)) σ4) else none else none := rfl
set_option maxRecDepth 20000 in
set_option maxHeartbeats 1000000 in
theorem wn_X9_copies_2 (z : vz_Z) (μ : vz_M) (hc : vz_C z μ cX9_copies RX9 0 4) {σ' : vz_I} (hret : ∀ (pc : Nat) (L : vz_L), vz_ret cX9_copies none pc none → vz_V z μ 0 0 pc L (none : Option Value).toList vz_G0 σ' vz_N0) : ∀ (n : Nat) (x1 : Int32) (x2 : Int32) (x3 : Int32) (σ : vz_I)  (h : f_X9_copies_2  n x1 x2 x3 σ = some σ'), vz_V z μ 0 0 2 [(0, some (.ref 108)), (1, some (.int x1)), (2, some (.int x2)), (3, some (.int x3))] [] vz_G0 σ vz_N0 := by
  intro n
  induction n with
  | zero =>
    intro x1 x2 x3 σ h
    cases h
  | succ n ih =>
    intro x1 x2 x3 σ h
    rw [f_X9_copies_2_s] at h
    refine vr_iload_n (pc := 2) hc dX9_copies_2 rfl ?_
    refine vr_bipush (pc := 3) hc dX9_copies_3 (61 : Int32) (by decide) ?_
    refine vr_icmp_ge (pc := 5) hc 30 dX9_copies_5 (by decide) (fun hb1 => ?_) (fun hb1 => ?_)
    · rw [if_pos hb1] at h
      obtain rfl := Option.some.inj h
      exact hret _ _ (vz_ret_v dX9_copies_30)
    · rw [if_neg hb1] at h
      refine vr_aload_n (pc := 8) hc dX9_copies_8 rfl ?_
      refine vr_getR (pc := 9) hc dX9_copies_9 fl_X9_7 gc_108 (gr_9_0 gc_108).1 ?_
      refine vr_iload_n (pc := 12) hc dX9_copies_12 rfl ?_
      refine vr_iload_n (pc := 13) hc dX9_copies_13 rfl ?_
      refine vr_iadd (pc := 14) hc dX9_copies_14 ?_
      refine vr_aload_n (pc := 15) hc dX9_copies_15 rfl ?_
      refine vr_getR (pc := 16) hc dX9_copies_16 fl_X9_7 gc_108 (gr_9_0 gc_108).1 ?_
      refine vr_iload_n (pc := 19) hc dX9_copies_19 rfl ?_
      refine vr_iload_n (pc := 20) hc dX9_copies_20 rfl ?_
      refine vr_iadd (pc := 21) hc dX9_copies_21 ?_
      have hb2 := vz_ifp h
      rw [if_pos hb2] at h
      refine vr_iald (pc := 22) hc 305 dX9_copies_22 ((gr_9_0 gc_108).2.1) ((gr_9_0 gc_108).2.2) (vz_in_vp hb2) ?_
      have hb3 := vz_ifp h
      rw [if_pos hb3] at h
      refine vr_iast (pc := 23) hc 305 dX9_copies_23 ((gr_9_0 gc_108).2.1) ((gr_9_0 gc_108).2.2) (vz_in_vp hb3) ?_
      obtain ⟨σ4, hσ5⟩ : ∃ x, x = vz_up σ 109 (x2 + x3).toNatClampNeg (σ 109 (x1 + x3).toNatClampNeg) := ⟨_, rfl⟩
      rw [← hσ5] at h ⊢
      rw [vz_let_e] at h
      refine vr_iinc (pc := 24) hc dX9_copies_24 (1 : Int32) (by decide) rfl (by decide) rfl ?_
      refine vr_goto (pc := 27) hc 2 dX9_copies_27 (by decide) ?_
      exact vz_sub (ih x1 x2 (x3 + (1 : Int32)) σ4  h) (vz_sb1 rfl (vz_sb1 rfl (vz_sb1 rfl (vz_sb1 rfl vz_sb0))))
def f_X9_copies (x1 : Int32) (x2 : Int32) (σ : vz_I) : Option vz_I := f_X9_copies_2 vz_fu x1 x2 (0 : Int32) σ
set_option maxRecDepth 20000 in
set_option maxHeartbeats 1000000 in
theorem w_X9_copies (z : vz_Z) (l : Launch) (x1 : Int32) (x2 : Int32) (σ : vz_I)  {σ' : vz_I} (h : f_X9_copies x1 x2 σ = some σ') : vz_Con z l 0 yX9_copies cX9_copies 4 none [.ref 108, .int x1, .int x2] vz_G0 σ vz_N0 none vz_G0 σ' vz_N0 0 0 := by
  refine vz_con (by decide) (Nat.le_of_ble_eq_true rfl) (fun μ hc hl hcap hret => ?_)
  subst hl
  unfold f_X9_copies at h
  refine vr_iconst (pc := 0) hc dX9_copies_0 (0 : Int32) (by decide) ?_
  refine vr_istore_n (pc := 1) hc dX9_copies_1 (by decide) rfl ?_
  exact vz_sub (wn_X9_copies_2 z μ hc hret vz_fu x1 x2 (0 : Int32) σ h) (vz_sb1 rfl (vz_sb1 rfl (vz_sb1 rfl (vz_sb1 rfl vz_sb0))))
-- X9_isMore: depth 0, effects S=True W=True P=True
def f_X9_isMore_13 (x1 : Int32) (xs0 : Int32) (σ : vz_I) : Option (Int32 × vz_I) := if xs0 = 0 then if xs0 = 0 ∨ xs0 = 1 then some (xs0, vz_up σ 108 22 (σ 108 22)) else none else if xs0 = 0 ∨ xs0 = 1 then some (xs0, vz_up σ 108 22 x1) else none
set_option maxRecDepth 20000 in
set_option maxHeartbeats 1000000 in
theorem wn_X9_isMore_13 (z : vz_Z) (μ : vz_M) (hc : vz_C z μ cX9_isMore RX9 0 3) {r : Int32} {σ' : vz_I} (hret : ∀ (pc : Nat) (L : vz_L), vz_ret cX9_isMore (some .boolean) pc (some (.int r)) → vz_V z μ 0 0 pc L ((some (.int r)) : Option Value).toList vz_G0 σ' vz_N0) (x1 : Int32) (xs0 : Int32) (σ : vz_I)  (h : f_X9_isMore_13  x1 xs0 σ = some (r, σ')) : vz_V z μ 0 0 13 [(0, some (.ref 108)), (1, some (.int x1))] [.int xs0] vz_G0 σ vz_N0 := by
  unfold f_X9_isMore_13 at h
  refine vr_istore_n (pc := 13) hc dX9_isMore_13 (by decide) rfl ?_
  refine vr_aload_n (pc := 14) hc dX9_isMore_14 rfl ?_
  refine vr_iload_n (pc := 15) hc dX9_isMore_15 rfl ?_
  refine vr_if_eq (pc := 16) hc 23 dX9_isMore_16 (by decide) (fun hb2 => ?_) (fun hb2 => ?_)
  · rw [if_pos hb2] at h
    refine vr_aload_n (pc := 23) hc dX9_isMore_23 rfl ?_
    refine vr_getI (pc := 24) hc dX9_isMore_24 fl_X9_232 gc_108 (gi_9_22 gc_108) ?_
    refine vr_putI (pc := 27) hc dX9_isMore_27 fl_X9_232 gc_108 (gi_9_22 gc_108) rfl rfl ?_
    refine vr_iload_n (pc := 30) hc dX9_isMore_30 rfl ?_
    have hb3 := vz_ifp h
    rw [if_pos hb3] at h
    obtain ⟨rfl, rfl⟩ := vz_in2 h
    exact hret _ _ (vz_ret_i dX9_isMore_31 (vz_bn hb3))
  · rw [if_neg hb2] at h
    refine vr_iload_n (pc := 19) hc dX9_isMore_19 rfl ?_
    refine vr_goto (pc := 20) hc 27 dX9_isMore_20 (by decide) ?_
    refine vr_putI (pc := 27) hc dX9_isMore_27 fl_X9_232 gc_108 (gi_9_22 gc_108) rfl rfl ?_
    refine vr_iload_n (pc := 30) hc dX9_isMore_30 rfl ?_
    have hb4 := vz_ifp h
    rw [if_pos hb4] at h
    obtain ⟨rfl, rfl⟩ := vz_in2 h
    exact hret _ _ (vz_ret_i dX9_isMore_31 (vz_bn hb4))
def f_X9_isMore (x1 : Int32) (σ : vz_I) : Option (Int32 × vz_I) := if x1 ≤ (σ 108 22) then f_X9_isMore_13 x1 (0 : Int32) σ else f_X9_isMore_13 x1 (1 : Int32) σ
set_option maxRecDepth 20000 in
set_option maxHeartbeats 1000000 in
theorem w_X9_isMore (z : vz_Z) (l : Launch) (x1 : Int32) (σ : vz_I)  {r : Int32} {σ' : vz_I} (h : f_X9_isMore x1 σ = some (r, σ')) : vz_Con z l 0 yX9_isMore cX9_isMore 3 (some .boolean) [.ref 108, .int x1] vz_G0 σ vz_N0 (some (.int r)) vz_G0 σ' vz_N0 0 0 := by
  refine vz_con (by decide) (Nat.le_of_ble_eq_true rfl) (fun μ hc hl hcap hret => ?_)
  subst hl
  unfold f_X9_isMore at h
  refine vr_iload_n (pc := 0) hc dX9_isMore_0 rfl ?_
  refine vr_aload_n (pc := 1) hc dX9_isMore_1 rfl ?_
  refine vr_getI (pc := 2) hc dX9_isMore_2 fl_X9_232 gc_108 (gi_9_22 gc_108) ?_
  refine vr_icmp_le (pc := 5) hc 12 dX9_isMore_5 (by decide) (fun hb1 => ?_) (fun hb1 => ?_)
  · rw [if_pos hb1] at h
    refine vr_iconst (pc := 12) hc dX9_isMore_12 (0 : Int32) (by decide) ?_
    exact vz_sub (wn_X9_isMore_13 z μ hc hret x1 (0 : Int32) σ h) (vz_sb1 rfl (vz_sb1 rfl vz_sb0))
  · rw [if_neg hb1] at h
    refine vr_iconst (pc := 8) hc dX9_isMore_8 (1 : Int32) (by decide) ?_
    refine vr_goto (pc := 9) hc 13 dX9_isMore_9 (by decide) ?_
    exact vz_sub (wn_X9_isMore_13 z μ hc hret x1 (1 : Int32) σ h) (vz_sb1 rfl (vz_sb1 rfl vz_sb0))
-- X9_lowest: depth 0, effects S=False W=False P=True
def f_X9_lowest_6 : Nat → Int64 → Int64 → Int32 → Int64 → Int64 → Option Int64
  | 0, _, _, _, _, _ => none
  | n + 1, j0, j2, x4, j5, j7 => if (lg_cmp j7 (0 : Int64)) = 0 then if x4 = 0 then if j5 = 0 then none else some (j0 / j5) else if j5 = 0 then none else some (j2 / j5) else if j7 = 0 then none else f_X9_lowest_6 n j0 j2 x4 j7 (j5 - j5 / j7 * j7)
theorem f_X9_lowest_6_s (n : Nat) (j0 : Int64) (j2 : Int64) (x4 : Int32) (j5 : Int64) (j7 : Int64)  : f_X9_lowest_6  (n + 1) j0 j2 x4 j5 j7  = if (lg_cmp j7 (0 : Int64)) = 0 then if x4 = 0 then if j5 = 0 then none else some (j0 / j5) else if j5 = 0 then none else some (j2 / j5) else if j7 = 0 then none else f_X9_lowest_6 n j0 j2 x4 j7 (j5 - j5 / j7 * j7) := rfl
set_option maxRecDepth 20000 in
set_option maxHeartbeats 1000000 in
theorem wn_X9_lowest_6 (z : vz_Z) (μ : vz_M) (hc : vz_C z μ cX9_lowest RX9 0 11) {r : Int64} (σ : vz_I) (hret : ∀ (pc : Nat) (L : vz_L), vz_ret cX9_lowest (some .long) pc (some (.long r)) → vz_V z μ 0 0 pc L ((some (.long r)) : Option Value).toList vz_G0 σ vz_N0) : ∀ (n : Nat) (j0 : Int64) (j2 : Int64) (x4 : Int32) (j5 : Int64) (j7 : Int64)  (h : f_X9_lowest_6  n j0 j2 x4 j5 j7  = some r), vz_V z μ 0 0 6 [(0, some (.long j0)), (2, some (.long j2)), (4, some (.int x4)), (5, some (.long j5)), (7, some (.long j7))] [] vz_G0 σ vz_N0 := by
  intro n
  induction n with
  | zero =>
    intro j0 j2 x4 j5 j7 h
    cases h
  | succ n ih =>
    intro j0 j2 x4 j5 j7 h
    rw [f_X9_lowest_6_s] at h
    refine vr_lload (pc := 6) hc dX9_lowest_6 rfl ?_
    refine vr_lconst (pc := 8) hc dX9_lowest_8 (0 : Int64) (by decide) ?_
    refine vr_lcmp (pc := 9) hc dX9_lowest_9 ?_
    refine vr_if_eq (pc := 10) hc 31 dX9_lowest_10 (by decide) (fun hb1 => ?_) (fun hb1 => ?_)
    · rw [if_pos hb1] at h
      refine vr_iload (pc := 31) hc dX9_lowest_31 rfl ?_
      refine vr_if_ne (pc := 33) hc 40 dX9_lowest_33 (by decide) (fun hb2 => ?_) (fun hb2 => ?_)
      · rw [if_neg hb2] at h
        refine vr_lload_n (pc := 40) hc dX9_lowest_40 rfl ?_
        refine vr_lload (pc := 41) hc dX9_lowest_41 rfl ?_
        have hb3 : ¬ j5 = 0 := vz_if0 h
        rw [if_neg hb3] at h
        refine vr_ldiv (pc := 43) hc dX9_lowest_43 hb3 ?_
        obtain rfl := Option.some.inj h
        exact hret _ _ (vz_ret_l dX9_lowest_44)
      · rw [if_pos hb2] at h
        refine vr_lload_n (pc := 36) hc dX9_lowest_36 rfl ?_
        refine vr_goto (pc := 37) hc 41 dX9_lowest_37 (by decide) ?_
        refine vr_lload (pc := 41) hc dX9_lowest_41 rfl ?_
        have hb4 : ¬ j5 = 0 := vz_if0 h
        rw [if_neg hb4] at h
        refine vr_ldiv (pc := 43) hc dX9_lowest_43 hb4 ?_
        obtain rfl := Option.some.inj h
        exact hret _ _ (vz_ret_l dX9_lowest_44)
    · rw [if_neg hb1] at h
      refine vr_lload (pc := 13) hc dX9_lowest_13 rfl ?_
      refine vr_lload (pc := 15) hc dX9_lowest_15 rfl ?_
      have hb5 : ¬ j7 = 0 := vz_if0 h
      rw [if_neg hb5] at h
      refine vr_lrem (pc := 17) hc dX9_lowest_17 hb5 ?_
      refine vr_lstore (pc := 18) hc dX9_lowest_18 (by decide) rfl ?_
      refine vr_lload (pc := 20) hc dX9_lowest_20 rfl ?_
      refine vr_lstore (pc := 22) hc dX9_lowest_22 (by decide) rfl ?_
      refine vr_lload (pc := 24) hc dX9_lowest_24 rfl ?_
      refine vr_lstore (pc := 26) hc dX9_lowest_26 (by decide) rfl ?_
      refine vr_goto (pc := 28) hc 6 dX9_lowest_28 (by decide) ?_
      exact vz_sub (ih j0 j2 x4 j7 (j5 - j5 / j7 * j7)   h) (vz_sb1 rfl (vz_sb1 rfl (vz_sb1 rfl (vz_sb1 rfl (vz_sb1 rfl vz_sb0)))))
def f_X9_lowest (j0 : Int64) (j2 : Int64) (x4 : Int32)  : Option Int64 := f_X9_lowest_6 vz_fu j0 j2 x4 j0 j2
set_option maxRecDepth 20000 in
set_option maxHeartbeats 1000000 in
theorem w_X9_lowest (z : vz_Z) (l : Launch) (j0 : Int64) (j2 : Int64) (x4 : Int32) (σ : vz_I)  {r : Int64} (h : f_X9_lowest j0 j2 x4  = some r) : vz_Con z l 0 yX9_lowest cX9_lowest 11 (some .long) [.long j0, .long j2, .int x4] vz_G0 σ vz_N0 (some (.long r)) vz_G0 σ vz_N0 0 0 := by
  refine vz_con (by decide) (Nat.le_of_ble_eq_true rfl) (fun μ hc hl hcap hret => ?_)
  subst hl
  unfold f_X9_lowest at h
  refine vr_lload_n (pc := 0) hc dX9_lowest_0 rfl ?_
  refine vr_lstore (pc := 1) hc dX9_lowest_1 (by decide) rfl ?_
  refine vr_lload_n (pc := 3) hc dX9_lowest_3 rfl ?_
  refine vr_lstore (pc := 4) hc dX9_lowest_4 (by decide) rfl ?_
  exact vz_sub (wn_X9_lowest_6 z μ hc σ hret vz_fu j0 j2 x4 j0 j2 h) (vz_sb1 rfl (vz_sb1 rfl (vz_sb1 rfl (vz_sb1 rfl (vz_sb1 rfl vz_sb0)))))
-- X9_torn: depth 0, effects S=True W=False P=False
def f_X9_torn  (σ : vz_I) : Int32 := σ 108 30
set_option maxRecDepth 20000 in
set_option maxHeartbeats 1000000 in
theorem w_X9_torn (z : vz_Z) (l : Launch)  (σ : vz_I)  {r : Int32} (h : f_X9_torn  σ = r) : vz_Con z l 0 yX9_torn cX9_torn 1 (some .int) [.ref 108] vz_G0 σ vz_N0 (some (.int r)) vz_G0 σ vz_N0 0 0 := by
  refine vz_con (by decide) (Nat.le_of_ble_eq_true rfl) (fun μ hc hl hcap hret => ?_)
  subst hl
  unfold f_X9_torn at h
  refine vr_aload_n (pc := 0) hc dX9_torn_0 rfl ?_
  refine vr_getI (pc := 1) hc dX9_torn_1 fl_X9_265 gc_108 (gi_9_30 gc_108) ?_
  subst h
  exact hret _ _ (vz_ret_i dX9_torn_4 rfl)
-- X9_count: depth 0, effects S=True W=False P=True
def f_X9_count_139 (xs0 : Int32) (σ : vz_I) : Option Int32 := if vz_in (1 : Int32) 2 then if (σ 119 (1 : Int32).toNatClampNeg) = 0 then some (xs0 + (0 : Int32)) else some (xs0 + (1 : Int32)) else none
set_option maxRecDepth 20000 in
set_option maxHeartbeats 1000000 in
theorem wn_X9_count_139 (z : vz_Z) (μ : vz_M) (hc : vz_C z μ cX9_count RX9 0 5) {r : Int32} (σ : vz_I) (hret : ∀ (pc : Nat) (L : vz_L), vz_ret cX9_count (some .int) pc (some (.int r)) → vz_V z μ 0 0 pc L ((some (.int r)) : Option Value).toList vz_G0 σ vz_N0) (xs0 : Int32)  (h : f_X9_count_139  xs0 σ = some r) : vz_V z μ 0 0 139 [(0, some (.ref 108))] [.int xs0] vz_G0 σ vz_N0 := by
  unfold f_X9_count_139 at h
  refine vr_aload_n (pc := 139) hc dX9_count_139 rfl ?_
  refine vr_getR (pc := 140) hc dX9_count_140 fl_X9_40 gc_108 (gr_9_26 gc_108).1 ?_
  refine vr_iconst (pc := 143) hc dX9_count_143 (1 : Int32) (by decide) ?_
  have hb7 := vz_ifp h
  rw [if_pos hb7] at h
  refine vr_zald (pc := 144) hc 2 dX9_count_144 ((gr_9_26 gc_108).2.1) ((gr_9_26 gc_108).2.2) (vz_in_vp hb7) ?_
  refine vr_if_eq (pc := 145) hc 152 dX9_count_145 (by decide) (fun hb8 => ?_) (fun hb8 => ?_)
  · rw [if_pos hb8] at h
    refine vr_iconst (pc := 152) hc dX9_count_152 (0 : Int32) (by decide) ?_
    refine vr_iadd (pc := 153) hc dX9_count_153 ?_
    obtain rfl := Option.some.inj h
    exact hret _ _ (vz_ret_i dX9_count_154 rfl)
  · rw [if_neg hb8] at h
    refine vr_iconst (pc := 148) hc dX9_count_148 (1 : Int32) (by decide) ?_
    refine vr_goto (pc := 149) hc 153 dX9_count_149 (by decide) ?_
    refine vr_iadd (pc := 153) hc dX9_count_153 ?_
    obtain rfl := Option.some.inj h
    exact hret _ _ (vz_ret_i dX9_count_154 rfl)
def f_X9_count_38 : Nat → Int32 → Int32 → Int32 → Int32 → vz_I → Option Int32
  | 0, _, _, _, _, _ => none
  | n + 1, x1, x2, x3, x4, σ => if (σ 108 2) ≤ x4 then if x1 = 0 then some (σ 108 24) else if x1 = 1 then if vz_in (0 : Int32) 2 then if (σ 119 (0 : Int32).toNatClampNeg) = 0 then f_X9_count_139 (0 : Int32) σ else f_X9_count_139 (1 : Int32) σ else none else if x1 = 2 then some (σ 108 8) else if x1 = 3 then if vz_in (0 : Int32) 4 then if (σ 120 (0 : Int32).toNatClampNeg) = (-4 : Int32) then some (-4 : Int32) else if vz_in (0 : Int32) 4 then some (σ 121 (0 : Int32).toNatClampNeg) else none else none else if x1 = 4 then some x2 else if x1 = 5 then some x3 else some (-1 : Int32) else if vz_in ((36 : Int32) + x4) 305 then if vz_in ((32 : Int32) + x4) 305 then vz_let (x3 + (((σ 109 ((36 : Int32) + x4).toNatClampNeg) - (σ 109 ((32 : Int32) + x4).toNatClampNeg)) + (1 : Int32))) (fun x18 => f_X9_count_38 n x1 x2 x18 (x4 + (1 : Int32)) σ) else none else none
theorem f_X9_count_38_s (n : Nat) (x1 : Int32) (x2 : Int32) (x3 : Int32) (x4 : Int32) (σ : vz_I) : f_X9_count_38  (n + 1) x1 x2 x3 x4 σ = if (σ 108 2) ≤ x4 then if x1 = 0 then some (σ 108 24) else if x1 = 1 then if vz_in (0 : Int32) 2 then if (σ 119 (0 : Int32).toNatClampNeg) = 0 then f_X9_count_139 (0 : Int32) σ else f_X9_count_139 (1 : Int32) σ else none else if x1 = 2 then some (σ 108 8) else if x1 = 3 then if vz_in (0 : Int32) 4 then if (σ 120 (0 : Int32).toNatClampNeg) = (-4 : Int32) then some (-4 : Int32) else if vz_in (0 : Int32) 4 then some (σ 121 (0 : Int32).toNatClampNeg) else none else none else if x1 = 4 then some x2 else if x1 = 5 then some x3 else some (-1 : Int32) else if vz_in ((36 : Int32) + x4) 305 then if vz_in ((32 : Int32) + x4) 305 then vz_let (x3 + (((σ 109 ((36 : Int32) + x4).toNatClampNeg) - (σ 109 ((32 : Int32) + x4).toNatClampNeg)) + (1 : Int32))) (fun x18 => f_X9_count_38 n x1 x2 x18 (x4 + (1 : Int32)) σ) else none else none := rfl
set_option maxRecDepth 20000 in
set_option maxHeartbeats 1000000 in
theorem wn_X9_count_38 (z : vz_Z) (μ : vz_M) (hc : vz_C z μ cX9_count RX9 0 5) {r : Int32} (σ : vz_I) (hret : ∀ (pc : Nat) (L : vz_L), vz_ret cX9_count (some .int) pc (some (.int r)) → vz_V z μ 0 0 pc L ((some (.int r)) : Option Value).toList vz_G0 σ vz_N0) : ∀ (n : Nat) (x1 : Int32) (x2 : Int32) (x3 : Int32) (x4 : Int32)  (h : f_X9_count_38  n x1 x2 x3 x4 σ = some r), vz_V z μ 0 0 38 [(0, some (.ref 108)), (1, some (.int x1)), (2, some (.int x2)), (3, some (.int x3)), (4, some (.int x4))] [] vz_G0 σ vz_N0 := by
  intro n
  induction n with
  | zero =>
    intro x1 x2 x3 x4 h
    cases h
  | succ n ih =>
    intro x1 x2 x3 x4 h
    rw [f_X9_count_38_s] at h
    refine vr_iload (pc := 38) hc dX9_count_38 rfl ?_
    refine vr_aload_n (pc := 40) hc dX9_count_40 rfl ?_
    refine vr_getI (pc := 41) hc dX9_count_41 fl_X9_153 gc_108 (gi_9_2 gc_108) ?_
    refine vr_icmp_ge (pc := 44) hc 79 dX9_count_44 (by decide) (fun hb2 => ?_) (fun hb2 => ?_)
    · rw [if_pos hb2] at h
      refine vr_iload_n (pc := 79) hc dX9_count_79 rfl ?_
      by_cases hb3 : x1 = 0
      · rw [if_pos hb3] at h
        refine vr_tableIn (pc := 80) hc _ 120 dX9_count_80 (by rw [hb3]; decide) (by rw [hb3]; decide) (off := 40) (by rw [hb3]; decide) (by decide) ?_
        refine vr_aload_n (pc := 120) hc dX9_count_120 rfl ?_
        refine vr_getI (pc := 121) hc dX9_count_121 fl_X9_156 gc_108 (gi_9_24 gc_108) ?_
        obtain rfl := Option.some.inj h
        exact hret _ _ (vz_ret_i dX9_count_124 rfl)
      rw [if_neg hb3] at h
      by_cases hb4 : x1 = 1
      · rw [if_pos hb4] at h
        refine vr_tableIn (pc := 80) hc _ 125 dX9_count_80 (by rw [hb4]; decide) (by rw [hb4]; decide) (off := 45) (by rw [hb4]; decide) (by decide) ?_
        refine vr_aload_n (pc := 125) hc dX9_count_125 rfl ?_
        refine vr_getR (pc := 126) hc dX9_count_126 fl_X9_40 gc_108 (gr_9_26 gc_108).1 ?_
        refine vr_iconst (pc := 129) hc dX9_count_129 (0 : Int32) (by decide) ?_
        have hb5 := vz_ifp h
        rw [if_pos hb5] at h
        refine vr_zald (pc := 130) hc 2 dX9_count_130 ((gr_9_26 gc_108).2.1) ((gr_9_26 gc_108).2.2) (vz_in_vp hb5) ?_
        refine vr_if_eq (pc := 131) hc 138 dX9_count_131 (by decide) (fun hb6 => ?_) (fun hb6 => ?_)
        · rw [if_pos hb6] at h
          refine vr_iconst (pc := 138) hc dX9_count_138 (0 : Int32) (by decide) ?_
          exact vz_sub (wn_X9_count_139 z μ hc σ hret (0 : Int32) h) (vz_sb1 rfl vz_sb0)
        · rw [if_neg hb6] at h
          refine vr_iconst (pc := 134) hc dX9_count_134 (1 : Int32) (by decide) ?_
          refine vr_goto (pc := 135) hc 139 dX9_count_135 (by decide) ?_
          exact vz_sub (wn_X9_count_139 z μ hc σ hret (1 : Int32) h) (vz_sb1 rfl vz_sb0)
      rw [if_neg hb4] at h
      by_cases hb9 : x1 = 2
      · rw [if_pos hb9] at h
        refine vr_tableIn (pc := 80) hc _ 155 dX9_count_80 (by rw [hb9]; decide) (by rw [hb9]; decide) (off := 75) (by rw [hb9]; decide) (by decide) ?_
        refine vr_aload_n (pc := 155) hc dX9_count_155 rfl ?_
        refine vr_getI (pc := 156) hc dX9_count_156 fl_X9_59 gc_108 (gi_9_8 gc_108) ?_
        obtain rfl := Option.some.inj h
        exact hret _ _ (vz_ret_i dX9_count_159 rfl)
      rw [if_neg hb9] at h
      by_cases hb10 : x1 = 3
      · rw [if_pos hb10] at h
        refine vr_tableIn (pc := 80) hc _ 160 dX9_count_80 (by rw [hb10]; decide) (by rw [hb10]; decide) (off := 80) (by rw [hb10]; decide) (by decide) ?_
        refine vr_aload_n (pc := 160) hc dX9_count_160 rfl ?_
        refine vr_getR (pc := 161) hc dX9_count_161 fl_X9_44 gc_108 (gr_9_27 gc_108).1 ?_
        refine vr_iconst (pc := 164) hc dX9_count_164 (0 : Int32) (by decide) ?_
        have hb11 := vz_ifp h
        rw [if_pos hb11] at h
        refine vr_iald (pc := 165) hc 4 dX9_count_165 ((gr_9_27 gc_108).2.1) ((gr_9_27 gc_108).2.2) (vz_in_vp hb11) ?_
        refine vr_bipush (pc := 166) hc dX9_count_166 (-4 : Int32) (by decide) ?_
        refine vr_icmp_ne (pc := 168) hc 176 dX9_count_168 (by decide) (fun hb12 => ?_) (fun hb12 => ?_)
        · rw [if_neg hb12] at h
          refine vr_aload_n (pc := 176) hc dX9_count_176 rfl ?_
          refine vr_getR (pc := 177) hc dX9_count_177 fl_X9_47 gc_108 (gr_9_28 gc_108).1 ?_
          refine vr_iconst (pc := 180) hc dX9_count_180 (0 : Int32) (by decide) ?_
          have hb13 := vz_ifp h
          rw [if_pos hb13] at h
          refine vr_iald (pc := 181) hc 4 dX9_count_181 ((gr_9_28 gc_108).2.1) ((gr_9_28 gc_108).2.2) (vz_in_vp hb13) ?_
          obtain rfl := Option.some.inj h
          exact hret _ _ (vz_ret_i dX9_count_182 rfl)
        · rw [if_pos hb12] at h
          refine vr_bipush (pc := 171) hc dX9_count_171 (-4 : Int32) (by decide) ?_
          refine vr_goto (pc := 173) hc 182 dX9_count_173 (by decide) ?_
          obtain rfl := Option.some.inj h
          exact hret _ _ (vz_ret_i dX9_count_182 rfl)
      rw [if_neg hb10] at h
      by_cases hb14 : x1 = 4
      · rw [if_pos hb14] at h
        refine vr_tableIn (pc := 80) hc _ 183 dX9_count_80 (by rw [hb14]; decide) (by rw [hb14]; decide) (off := 103) (by rw [hb14]; decide) (by decide) ?_
        refine vr_iload_n (pc := 183) hc dX9_count_183 rfl ?_
        obtain rfl := Option.some.inj h
        exact hret _ _ (vz_ret_i dX9_count_184 rfl)
      rw [if_neg hb14] at h
      by_cases hb15 : x1 = 5
      · rw [if_pos hb15] at h
        refine vr_tableIn (pc := 80) hc _ 185 dX9_count_80 (by rw [hb15]; decide) (by rw [hb15]; decide) (off := 105) (by rw [hb15]; decide) (by decide) ?_
        refine vr_iload_n (pc := 185) hc dX9_count_185 rfl ?_
        obtain rfl := Option.some.inj h
        exact hret _ _ (vz_ret_i dX9_count_186 rfl)
      rw [if_neg hb15] at h
      refine vr_tableOut (pc := 80) hc 187 dX9_count_80 (by have e0 := lv_neT hb3 (show (0 : Int32).toInt = 0 by decide); have e1 := lv_neT hb4 (show (1 : Int32).toInt = 1 by decide); have e2 := lv_neT hb9 (show (2 : Int32).toInt = 2 by decide); have e3 := lv_neT hb10 (show (3 : Int32).toInt = 3 by decide); have e4 := lv_neT hb14 (show (4 : Int32).toInt = 4 by decide); have e5 := lv_neT hb15 (show (5 : Int32).toInt = 5 by decide); omega) (by decide) ?_
      refine vr_iconst (pc := 187) hc dX9_count_187 (-1 : Int32) (by decide) ?_
      obtain rfl := Option.some.inj h
      exact hret _ _ (vz_ret_i dX9_count_188 rfl)
    · rw [if_neg hb2] at h
      refine vr_iload_n (pc := 47) hc dX9_count_47 rfl ?_
      refine vr_aload_n (pc := 48) hc dX9_count_48 rfl ?_
      refine vr_getR (pc := 49) hc dX9_count_49 fl_X9_7 gc_108 (gr_9_0 gc_108).1 ?_
      refine vr_bipush (pc := 52) hc dX9_count_52 (36 : Int32) (by decide) ?_
      refine vr_iload (pc := 54) hc dX9_count_54 rfl ?_
      refine vr_iadd (pc := 56) hc dX9_count_56 ?_
      have hb16 := vz_ifp h
      rw [if_pos hb16] at h
      refine vr_iald (pc := 57) hc 305 dX9_count_57 ((gr_9_0 gc_108).2.1) ((gr_9_0 gc_108).2.2) (vz_in_vp hb16) ?_
      refine vr_aload_n (pc := 58) hc dX9_count_58 rfl ?_
      refine vr_getR (pc := 59) hc dX9_count_59 fl_X9_7 gc_108 (gr_9_0 gc_108).1 ?_
      refine vr_bipush (pc := 62) hc dX9_count_62 (32 : Int32) (by decide) ?_
      refine vr_iload (pc := 64) hc dX9_count_64 rfl ?_
      refine vr_iadd (pc := 66) hc dX9_count_66 ?_
      have hb17 := vz_ifp h
      rw [if_pos hb17] at h
      refine vr_iald (pc := 67) hc 305 dX9_count_67 ((gr_9_0 gc_108).2.1) ((gr_9_0 gc_108).2.2) (vz_in_vp hb17) ?_
      refine vr_isub (pc := 68) hc dX9_count_68 ?_
      refine vr_iconst (pc := 69) hc dX9_count_69 (1 : Int32) (by decide) ?_
      refine vr_iadd (pc := 70) hc dX9_count_70 ?_
      refine vr_iadd (pc := 71) hc dX9_count_71 ?_
      obtain ⟨x18, hx19⟩ : ∃ x, x = x3 + (((σ 109 ((36 : Int32) + x4).toNatClampNeg) - (σ 109 ((32 : Int32) + x4).toNatClampNeg)) + (1 : Int32)) := ⟨_, rfl⟩
      rw [← hx19] at h ⊢
      rw [vz_let_e] at h
      refine vr_istore_n (pc := 72) hc dX9_count_72 (by decide) rfl ?_
      refine vr_iinc (pc := 73) hc dX9_count_73 (1 : Int32) (by decide) rfl (by decide) rfl ?_
      refine vr_goto (pc := 76) hc 38 dX9_count_76 (by decide) ?_
      exact vz_sub (ih x1 x2 x18 (x4 + (1 : Int32))   h) (vz_sb1 rfl (vz_sb1 rfl (vz_sb1 rfl (vz_sb1 rfl (vz_sb1 rfl vz_sb0)))))
def f_X9_count_7 : Nat → Int32 → Int32 → Int32 → Int32 → vz_I → Option Int32
  | 0, _, _, _, _, _ => none
  | n + 1, x1, x2, x3, x4, σ => if (σ 108 1) ≤ x4 then f_X9_count_38 vz_fu x1 x2 x3 (0 : Int32) σ else if vz_in ((8 : Int32) + x4) 305 then f_X9_count_7 n x1 (x2 + (σ 109 ((8 : Int32) + x4).toNatClampNeg)) x3 (x4 + (1 : Int32)) σ else none
theorem f_X9_count_7_s (n : Nat) (x1 : Int32) (x2 : Int32) (x3 : Int32) (x4 : Int32) (σ : vz_I) : f_X9_count_7  (n + 1) x1 x2 x3 x4 σ = if (σ 108 1) ≤ x4 then f_X9_count_38 vz_fu x1 x2 x3 (0 : Int32) σ else if vz_in ((8 : Int32) + x4) 305 then f_X9_count_7 n x1 (x2 + (σ 109 ((8 : Int32) + x4).toNatClampNeg)) x3 (x4 + (1 : Int32)) σ else none := rfl
set_option maxRecDepth 20000 in
set_option maxHeartbeats 1000000 in
theorem wn_X9_count_7 (z : vz_Z) (μ : vz_M) (hc : vz_C z μ cX9_count RX9 0 5) {r : Int32} (σ : vz_I) (hret : ∀ (pc : Nat) (L : vz_L), vz_ret cX9_count (some .int) pc (some (.int r)) → vz_V z μ 0 0 pc L ((some (.int r)) : Option Value).toList vz_G0 σ vz_N0) : ∀ (n : Nat) (x1 : Int32) (x2 : Int32) (x3 : Int32) (x4 : Int32)  (h : f_X9_count_7  n x1 x2 x3 x4 σ = some r), vz_V z μ 0 0 7 [(0, some (.ref 108)), (1, some (.int x1)), (2, some (.int x2)), (3, some (.int x3)), (4, some (.int x4))] [] vz_G0 σ vz_N0 := by
  intro n
  induction n with
  | zero =>
    intro x1 x2 x3 x4 h
    cases h
  | succ n ih =>
    intro x1 x2 x3 x4 h
    rw [f_X9_count_7_s] at h
    refine vr_iload (pc := 7) hc dX9_count_7 rfl ?_
    refine vr_aload_n (pc := 9) hc dX9_count_9 rfl ?_
    refine vr_getI (pc := 10) hc dX9_count_10 fl_X9_150 gc_108 (gi_9_1 gc_108) ?_
    refine vr_icmp_ge (pc := 13) hc 35 dX9_count_13 (by decide) (fun hb1 => ?_) (fun hb1 => ?_)
    · rw [if_pos hb1] at h
      refine vr_iconst (pc := 35) hc dX9_count_35 (0 : Int32) (by decide) ?_
      refine vr_istore (pc := 36) hc dX9_count_36 (by decide) rfl ?_
      exact vz_sub (wn_X9_count_38 z μ hc σ hret vz_fu x1 x2 x3 (0 : Int32) h) (vz_sb1 rfl (vz_sb1 rfl (vz_sb1 rfl (vz_sb1 rfl (vz_sb1 rfl vz_sb0)))))
    · rw [if_neg hb1] at h
      refine vr_iload_n (pc := 16) hc dX9_count_16 rfl ?_
      refine vr_aload_n (pc := 17) hc dX9_count_17 rfl ?_
      refine vr_getR (pc := 18) hc dX9_count_18 fl_X9_7 gc_108 (gr_9_0 gc_108).1 ?_
      refine vr_bipush (pc := 21) hc dX9_count_21 (8 : Int32) (by decide) ?_
      refine vr_iload (pc := 23) hc dX9_count_23 rfl ?_
      refine vr_iadd (pc := 25) hc dX9_count_25 ?_
      have hb20 := vz_ifp h
      rw [if_pos hb20] at h
      refine vr_iald (pc := 26) hc 305 dX9_count_26 ((gr_9_0 gc_108).2.1) ((gr_9_0 gc_108).2.2) (vz_in_vp hb20) ?_
      refine vr_iadd (pc := 27) hc dX9_count_27 ?_
      refine vr_istore_n (pc := 28) hc dX9_count_28 (by decide) rfl ?_
      refine vr_iinc (pc := 29) hc dX9_count_29 (1 : Int32) (by decide) rfl (by decide) rfl ?_
      refine vr_goto (pc := 32) hc 7 dX9_count_32 (by decide) ?_
      exact vz_sub (ih x1 (x2 + (σ 109 ((8 : Int32) + x4).toNatClampNeg)) x3 (x4 + (1 : Int32))   h) (vz_sb1 rfl (vz_sb1 rfl (vz_sb1 rfl (vz_sb1 rfl (vz_sb1 rfl vz_sb0)))))
def f_X9_count (x1 : Int32) (σ : vz_I) : Option Int32 := f_X9_count_7 vz_fu x1 (0 : Int32) (0 : Int32) (0 : Int32) σ
set_option maxRecDepth 20000 in
set_option maxHeartbeats 1000000 in
theorem w_X9_count (z : vz_Z) (l : Launch) (x1 : Int32) (σ : vz_I)  {r : Int32} (h : f_X9_count x1 σ = some r) : vz_Con z l 0 yX9_count cX9_count 5 (some .int) [.ref 108, .int x1] vz_G0 σ vz_N0 (some (.int r)) vz_G0 σ vz_N0 0 0 := by
  refine vz_con (by decide) (Nat.le_of_ble_eq_true rfl) (fun μ hc hl hcap hret => ?_)
  subst hl
  unfold f_X9_count at h
  refine vr_iconst (pc := 0) hc dX9_count_0 (0 : Int32) (by decide) ?_
  refine vr_istore_n (pc := 1) hc dX9_count_1 (by decide) rfl ?_
  refine vr_iconst (pc := 2) hc dX9_count_2 (0 : Int32) (by decide) ?_
  refine vr_istore_n (pc := 3) hc dX9_count_3 (by decide) rfl ?_
  refine vr_iconst (pc := 4) hc dX9_count_4 (0 : Int32) (by decide) ?_
  refine vr_istore (pc := 5) hc dX9_count_5 (by decide) rfl ?_
  exact vz_sub (wn_X9_count_7 z μ hc σ hret vz_fu x1 (0 : Int32) (0 : Int32) (0 : Int32) h) (vz_sb1 rfl (vz_sb1 rfl (vz_sb1 rfl (vz_sb1 rfl (vz_sb1 rfl vz_sb0)))))
-- J6_bitCount_0f7a4: depth 0, effects S=False W=False P=False
def f_J6_bitCount_0f7a4 (x0 : Int32)  : Int32 := vz_let (x0 - (((x0.toUInt32 >>> ((1 : Int32).toUInt32 &&& Int32.toUInt32 31)).toInt32) &&& (1431655765 : Int32))) (fun x1 => vz_let ((x1 &&& (858993459 : Int32)) + (((x1.toUInt32 >>> ((2 : Int32).toUInt32 &&& Int32.toUInt32 31)).toInt32) &&& (858993459 : Int32))) (fun x3 => vz_let ((x3 + ((x3.toUInt32 >>> ((4 : Int32).toUInt32 &&& Int32.toUInt32 31)).toInt32)) &&& (252645135 : Int32)) (fun x5 => vz_let (x5 + ((x5.toUInt32 >>> ((8 : Int32).toUInt32 &&& Int32.toUInt32 31)).toInt32)) (fun x7 => vz_let (x7 + ((x7.toUInt32 >>> ((16 : Int32).toUInt32 &&& Int32.toUInt32 31)).toInt32)) (fun x9 => x9 &&& (63 : Int32))))))
set_option maxRecDepth 20000 in
set_option maxHeartbeats 1000000 in
theorem w_J6_bitCount_0f7a4 (z : vz_Z) (l : Launch) (x0 : Int32) (σ : vz_I)  {r : Int32} (h : f_J6_bitCount_0f7a4 x0  = r) : vz_Con z l 0 yJ6_bitCount_0f7a4 cJ6_bitCount_0f7a4 1 (some .int) [.int x0] vz_G0 σ vz_N0 (some (.int r)) vz_G0 σ vz_N0 0 0 := by
  refine vz_con (by decide) (Nat.le_of_ble_eq_true rfl) (fun μ hc hl hcap hret => ?_)
  subst hl
  unfold f_J6_bitCount_0f7a4 at h
  refine vr_iload_n (pc := 0) hc dJ6_bitCount_0f7a4_0 rfl ?_
  refine vr_iload_n (pc := 1) hc dJ6_bitCount_0f7a4_1 rfl ?_
  refine vr_iconst (pc := 2) hc dJ6_bitCount_0f7a4_2 (1 : Int32) (by decide) ?_
  refine vr_iushr (pc := 3) hc dJ6_bitCount_0f7a4_3 ?_
  refine vr_ldcw (pc := 4) hc dJ6_bitCount_0f7a4_4 (1431655765 : Int32) cs_J6_265 ?_
  refine vr_iand (pc := 7) hc dJ6_bitCount_0f7a4_7 ?_
  refine vr_isub (pc := 8) hc dJ6_bitCount_0f7a4_8 ?_
  obtain ⟨x1, hx2⟩ : ∃ x, x = x0 - (((x0.toUInt32 >>> ((1 : Int32).toUInt32 &&& Int32.toUInt32 31)).toInt32) &&& (1431655765 : Int32)) := ⟨_, rfl⟩
  rw [← hx2] at h ⊢
  rw [vz_let_e] at h
  refine vr_istore_n (pc := 9) hc dJ6_bitCount_0f7a4_9 (by decide) rfl ?_
  refine vr_iload_n (pc := 10) hc dJ6_bitCount_0f7a4_10 rfl ?_
  refine vr_ldcw (pc := 11) hc dJ6_bitCount_0f7a4_11 (858993459 : Int32) cs_J6_266 ?_
  refine vr_iand (pc := 14) hc dJ6_bitCount_0f7a4_14 ?_
  refine vr_iload_n (pc := 15) hc dJ6_bitCount_0f7a4_15 rfl ?_
  refine vr_iconst (pc := 16) hc dJ6_bitCount_0f7a4_16 (2 : Int32) (by decide) ?_
  refine vr_iushr (pc := 17) hc dJ6_bitCount_0f7a4_17 ?_
  refine vr_ldcw (pc := 18) hc dJ6_bitCount_0f7a4_18 (858993459 : Int32) cs_J6_266 ?_
  refine vr_iand (pc := 21) hc dJ6_bitCount_0f7a4_21 ?_
  refine vr_iadd (pc := 22) hc dJ6_bitCount_0f7a4_22 ?_
  obtain ⟨x3, hx4⟩ : ∃ x, x = (x1 &&& (858993459 : Int32)) + (((x1.toUInt32 >>> ((2 : Int32).toUInt32 &&& Int32.toUInt32 31)).toInt32) &&& (858993459 : Int32)) := ⟨_, rfl⟩
  rw [← hx4] at h ⊢
  rw [vz_let_e] at h
  refine vr_istore_n (pc := 23) hc dJ6_bitCount_0f7a4_23 (by decide) rfl ?_
  refine vr_iload_n (pc := 24) hc dJ6_bitCount_0f7a4_24 rfl ?_
  refine vr_iload_n (pc := 25) hc dJ6_bitCount_0f7a4_25 rfl ?_
  refine vr_iconst (pc := 26) hc dJ6_bitCount_0f7a4_26 (4 : Int32) (by decide) ?_
  refine vr_iushr (pc := 27) hc dJ6_bitCount_0f7a4_27 ?_
  refine vr_iadd (pc := 28) hc dJ6_bitCount_0f7a4_28 ?_
  refine vr_ldcw (pc := 29) hc dJ6_bitCount_0f7a4_29 (252645135 : Int32) cs_J6_267 ?_
  refine vr_iand (pc := 32) hc dJ6_bitCount_0f7a4_32 ?_
  obtain ⟨x5, hx6⟩ : ∃ x, x = (x3 + ((x3.toUInt32 >>> ((4 : Int32).toUInt32 &&& Int32.toUInt32 31)).toInt32)) &&& (252645135 : Int32) := ⟨_, rfl⟩
  rw [← hx6] at h ⊢
  rw [vz_let_e] at h
  refine vr_istore_n (pc := 33) hc dJ6_bitCount_0f7a4_33 (by decide) rfl ?_
  refine vr_iload_n (pc := 34) hc dJ6_bitCount_0f7a4_34 rfl ?_
  refine vr_iload_n (pc := 35) hc dJ6_bitCount_0f7a4_35 rfl ?_
  refine vr_bipush (pc := 36) hc dJ6_bitCount_0f7a4_36 (8 : Int32) (by decide) ?_
  refine vr_iushr (pc := 38) hc dJ6_bitCount_0f7a4_38 ?_
  refine vr_iadd (pc := 39) hc dJ6_bitCount_0f7a4_39 ?_
  obtain ⟨x7, hx8⟩ : ∃ x, x = x5 + ((x5.toUInt32 >>> ((8 : Int32).toUInt32 &&& Int32.toUInt32 31)).toInt32) := ⟨_, rfl⟩
  rw [← hx8] at h ⊢
  rw [vz_let_e] at h
  refine vr_istore_n (pc := 40) hc dJ6_bitCount_0f7a4_40 (by decide) rfl ?_
  refine vr_iload_n (pc := 41) hc dJ6_bitCount_0f7a4_41 rfl ?_
  refine vr_iload_n (pc := 42) hc dJ6_bitCount_0f7a4_42 rfl ?_
  refine vr_bipush (pc := 43) hc dJ6_bitCount_0f7a4_43 (16 : Int32) (by decide) ?_
  refine vr_iushr (pc := 45) hc dJ6_bitCount_0f7a4_45 ?_
  refine vr_iadd (pc := 46) hc dJ6_bitCount_0f7a4_46 ?_
  obtain ⟨x9, hx10⟩ : ∃ x, x = x7 + ((x7.toUInt32 >>> ((16 : Int32).toUInt32 &&& Int32.toUInt32 31)).toInt32) := ⟨_, rfl⟩
  rw [← hx10] at h ⊢
  rw [vz_let_e] at h
  refine vr_istore_n (pc := 47) hc dJ6_bitCount_0f7a4_47 (by decide) rfl ?_
  refine vr_iload_n (pc := 48) hc dJ6_bitCount_0f7a4_48 rfl ?_
  refine vr_bipush (pc := 49) hc dJ6_bitCount_0f7a4_49 (63 : Int32) (by decide) ?_
  refine vr_iand (pc := 51) hc dJ6_bitCount_0f7a4_51 ?_
  subst h
  exact hret _ _ (vz_ret_i dJ6_bitCount_0f7a4_52 rfl)
-- J13_bitCount_95d88: depth 0, effects S=False W=False P=False
def f_J13_bitCount_95d88 (j0 : Int64)  : Int32 := vz_let (j0 - (((j0.toUInt64 >>> ((1 : Int32).toInt64.toUInt64 &&& Int64.toUInt64 63)).toInt64) &&& (6148914691236517205 : Int64))) (fun x1 => vz_let ((x1 &&& (3689348814741910323 : Int64)) + (((x1.toUInt64 >>> ((2 : Int32).toInt64.toUInt64 &&& Int64.toUInt64 63)).toInt64) &&& (3689348814741910323 : Int64))) (fun x3 => vz_let ((x3 + ((x3.toUInt64 >>> ((4 : Int32).toInt64.toUInt64 &&& Int64.toUInt64 63)).toInt64)) &&& (1085102592571150095 : Int64)) (fun x5 => vz_let (x5 + ((x5.toUInt64 >>> ((8 : Int32).toInt64.toUInt64 &&& Int64.toUInt64 63)).toInt64)) (fun x7 => vz_let (x7 + ((x7.toUInt64 >>> ((16 : Int32).toInt64.toUInt64 &&& Int64.toUInt64 63)).toInt64)) (fun x9 => vz_let (x9 + ((x9.toUInt64 >>> ((32 : Int32).toInt64.toUInt64 &&& Int64.toUInt64 63)).toInt64)) (fun x11 => x11.toInt32 &&& (127 : Int32)))))))
set_option maxRecDepth 20000 in
set_option maxHeartbeats 1000000 in
theorem w_J13_bitCount_95d88 (z : vz_Z) (l : Launch) (j0 : Int64) (σ : vz_I)  {r : Int32} (h : f_J13_bitCount_95d88 j0  = r) : vz_Con z l 0 yJ13_bitCount_95d88 cJ13_bitCount_95d88 2 (some .int) [.long j0] vz_G0 σ vz_N0 (some (.int r)) vz_G0 σ vz_N0 0 0 := by
  refine vz_con (by decide) (Nat.le_of_ble_eq_true rfl) (fun μ hc hl hcap hret => ?_)
  subst hl
  unfold f_J13_bitCount_95d88 at h
  refine vr_lload_n (pc := 0) hc dJ13_bitCount_95d88_0 rfl ?_
  refine vr_lload_n (pc := 1) hc dJ13_bitCount_95d88_1 rfl ?_
  refine vr_iconst (pc := 2) hc dJ13_bitCount_95d88_2 (1 : Int32) (by decide) ?_
  refine vr_lushr (pc := 3) hc dJ13_bitCount_95d88_3 ?_
  refine vr_ldc2 (pc := 4) hc dJ13_bitCount_95d88_4 (6148914691236517205 : Int64) cl_J13_314 ?_
  refine vr_land (pc := 7) hc dJ13_bitCount_95d88_7 ?_
  refine vr_lsub (pc := 8) hc dJ13_bitCount_95d88_8 ?_
  obtain ⟨x1, hx2⟩ : ∃ x, x = j0 - (((j0.toUInt64 >>> ((1 : Int32).toInt64.toUInt64 &&& Int64.toUInt64 63)).toInt64) &&& (6148914691236517205 : Int64)) := ⟨_, rfl⟩
  rw [← hx2] at h ⊢
  rw [vz_let_e] at h
  refine vr_lstore_n (pc := 9) hc dJ13_bitCount_95d88_9 (by decide) rfl ?_
  refine vr_lload_n (pc := 10) hc dJ13_bitCount_95d88_10 rfl ?_
  refine vr_ldc2 (pc := 11) hc dJ13_bitCount_95d88_11 (3689348814741910323 : Int64) cl_J13_316 ?_
  refine vr_land (pc := 14) hc dJ13_bitCount_95d88_14 ?_
  refine vr_lload_n (pc := 15) hc dJ13_bitCount_95d88_15 rfl ?_
  refine vr_iconst (pc := 16) hc dJ13_bitCount_95d88_16 (2 : Int32) (by decide) ?_
  refine vr_lushr (pc := 17) hc dJ13_bitCount_95d88_17 ?_
  refine vr_ldc2 (pc := 18) hc dJ13_bitCount_95d88_18 (3689348814741910323 : Int64) cl_J13_316 ?_
  refine vr_land (pc := 21) hc dJ13_bitCount_95d88_21 ?_
  refine vr_ladd (pc := 22) hc dJ13_bitCount_95d88_22 ?_
  obtain ⟨x3, hx4⟩ : ∃ x, x = (x1 &&& (3689348814741910323 : Int64)) + (((x1.toUInt64 >>> ((2 : Int32).toInt64.toUInt64 &&& Int64.toUInt64 63)).toInt64) &&& (3689348814741910323 : Int64)) := ⟨_, rfl⟩
  rw [← hx4] at h ⊢
  rw [vz_let_e] at h
  refine vr_lstore_n (pc := 23) hc dJ13_bitCount_95d88_23 (by decide) rfl ?_
  refine vr_lload_n (pc := 24) hc dJ13_bitCount_95d88_24 rfl ?_
  refine vr_lload_n (pc := 25) hc dJ13_bitCount_95d88_25 rfl ?_
  refine vr_iconst (pc := 26) hc dJ13_bitCount_95d88_26 (4 : Int32) (by decide) ?_
  refine vr_lushr (pc := 27) hc dJ13_bitCount_95d88_27 ?_
  refine vr_ladd (pc := 28) hc dJ13_bitCount_95d88_28 ?_
  refine vr_ldc2 (pc := 29) hc dJ13_bitCount_95d88_29 (1085102592571150095 : Int64) cl_J13_318 ?_
  refine vr_land (pc := 32) hc dJ13_bitCount_95d88_32 ?_
  obtain ⟨x5, hx6⟩ : ∃ x, x = (x3 + ((x3.toUInt64 >>> ((4 : Int32).toInt64.toUInt64 &&& Int64.toUInt64 63)).toInt64)) &&& (1085102592571150095 : Int64) := ⟨_, rfl⟩
  rw [← hx6] at h ⊢
  rw [vz_let_e] at h
  refine vr_lstore_n (pc := 33) hc dJ13_bitCount_95d88_33 (by decide) rfl ?_
  refine vr_lload_n (pc := 34) hc dJ13_bitCount_95d88_34 rfl ?_
  refine vr_lload_n (pc := 35) hc dJ13_bitCount_95d88_35 rfl ?_
  refine vr_bipush (pc := 36) hc dJ13_bitCount_95d88_36 (8 : Int32) (by decide) ?_
  refine vr_lushr (pc := 38) hc dJ13_bitCount_95d88_38 ?_
  refine vr_ladd (pc := 39) hc dJ13_bitCount_95d88_39 ?_
  obtain ⟨x7, hx8⟩ : ∃ x, x = x5 + ((x5.toUInt64 >>> ((8 : Int32).toInt64.toUInt64 &&& Int64.toUInt64 63)).toInt64) := ⟨_, rfl⟩
  rw [← hx8] at h ⊢
  rw [vz_let_e] at h
  refine vr_lstore_n (pc := 40) hc dJ13_bitCount_95d88_40 (by decide) rfl ?_
  refine vr_lload_n (pc := 41) hc dJ13_bitCount_95d88_41 rfl ?_
  refine vr_lload_n (pc := 42) hc dJ13_bitCount_95d88_42 rfl ?_
  refine vr_bipush (pc := 43) hc dJ13_bitCount_95d88_43 (16 : Int32) (by decide) ?_
  refine vr_lushr (pc := 45) hc dJ13_bitCount_95d88_45 ?_
  refine vr_ladd (pc := 46) hc dJ13_bitCount_95d88_46 ?_
  obtain ⟨x9, hx10⟩ : ∃ x, x = x7 + ((x7.toUInt64 >>> ((16 : Int32).toInt64.toUInt64 &&& Int64.toUInt64 63)).toInt64) := ⟨_, rfl⟩
  rw [← hx10] at h ⊢
  rw [vz_let_e] at h
  refine vr_lstore_n (pc := 47) hc dJ13_bitCount_95d88_47 (by decide) rfl ?_
  refine vr_lload_n (pc := 48) hc dJ13_bitCount_95d88_48 rfl ?_
  refine vr_lload_n (pc := 49) hc dJ13_bitCount_95d88_49 rfl ?_
  refine vr_bipush (pc := 50) hc dJ13_bitCount_95d88_50 (32 : Int32) (by decide) ?_
  refine vr_lushr (pc := 52) hc dJ13_bitCount_95d88_52 ?_
  refine vr_ladd (pc := 53) hc dJ13_bitCount_95d88_53 ?_
  obtain ⟨x11, hx12⟩ : ∃ x, x = x9 + ((x9.toUInt64 >>> ((32 : Int32).toInt64.toUInt64 &&& Int64.toUInt64 63)).toInt64) := ⟨_, rfl⟩
  rw [← hx12] at h ⊢
  rw [vz_let_e] at h
  refine vr_lstore_n (pc := 54) hc dJ13_bitCount_95d88_54 (by decide) rfl ?_
  refine vr_lload_n (pc := 55) hc dJ13_bitCount_95d88_55 rfl ?_
  refine vr_l2i (pc := 56) hc dJ13_bitCount_95d88_56 ?_
  refine vr_bipush (pc := 57) hc dJ13_bitCount_95d88_57 (127 : Int32) (by decide) ?_
  refine vr_iand (pc := 59) hc dJ13_bitCount_95d88_59 ?_
  subst h
  exact hret _ _ (vz_ret_i dJ13_bitCount_95d88_60 rfl)
-- X0_cornerIn: depth 1, effects S=True W=False P=True
def f_X0_cornerIn (a0 : Nat) (x1 : Int32) (σ : vz_I) : Option Int32 := if (σ a0 2) < (1 : Int32) then some (-4 : Int32) else if (f_X0_pace a0 σ) = 0 then none else if (x1 - x1 / (f_X0_pace a0 σ) * (f_X0_pace a0 σ)) = 0 then if (f_X0_pace a0 σ) = 0 then none else if (σ a0 2) = 0 then none else if vz_in ((x1 / (f_X0_pace a0 σ)) - (x1 / (f_X0_pace a0 σ)) / (σ a0 2) * (σ a0 2)) 4 then some (σ (a0 + 1) ((x1 / (f_X0_pace a0 σ)) - (x1 / (f_X0_pace a0 σ)) / (σ a0 2) * (σ a0 2)).toNatClampNeg) else none else some (-4 : Int32)
set_option maxRecDepth 20000 in
set_option maxHeartbeats 1000000 in
theorem w_X0_cornerIn (z : vz_Z) (l : Launch) (a0 : Nat) (x1 : Int32) (σ : vz_I) (ha0 : (vz_G0 a0).1 = 0) {r : Int32} (h : f_X0_cornerIn a0 x1 σ = some r) : vz_Con z l 1 yX0_cornerIn cX0_cornerIn 3 (some .int) [.ref a0, .int x1] vz_G0 σ vz_N0 (some (.int r)) vz_G0 σ vz_N0 0 0 := by
  refine vz_con (by decide) (Nat.le_of_ble_eq_true rfl) (fun μ hc hl hcap hret => ?_)
  subst hl
  unfold f_X0_cornerIn at h
  refine vr_aload_n (pc := 0) hc dX0_cornerIn_0 rfl ?_
  refine vr_cVi (pc := 1) hc dX0_cornerIn_1 mt_X0_pace ml_X0_25 ha0 (w_X0_pace z μ.2.1 a0 σ ha0 rfl) rfl (by decide) rfl (Nat.le_of_ble_eq_true rfl) ?_
  refine vr_istore_n (pc := 4) hc dX0_cornerIn_4 (by decide) rfl ?_
  refine vr_aload_n (pc := 5) hc dX0_cornerIn_5 rfl ?_
  refine vr_getI (pc := 6) hc dX0_cornerIn_6 fl_X0_22 ha0 (gi_0_2 ha0) ?_
  refine vr_iconst (pc := 9) hc dX0_cornerIn_9 (1 : Int32) (by decide) ?_
  refine vr_icmp_lt (pc := 10) hc 19 dX0_cornerIn_10 (by decide) (fun hb1 => ?_) (fun hb1 => ?_)
  · rw [if_pos hb1] at h
    refine vr_bipush (pc := 19) hc dX0_cornerIn_19 (-4 : Int32) (by decide) ?_
    obtain rfl := Option.some.inj h
    exact hret _ _ (vz_ret_i dX0_cornerIn_21 rfl)
  · rw [if_neg hb1] at h
    refine vr_iload_n (pc := 13) hc dX0_cornerIn_13 rfl ?_
    refine vr_iload_n (pc := 14) hc dX0_cornerIn_14 rfl ?_
    have hb2 : ¬ (f_X0_pace a0 σ) = 0 := vz_if0 h
    rw [if_neg hb2] at h
    refine vr_irem (pc := 15) hc dX0_cornerIn_15 hb2 ?_
    refine vr_if_eq (pc := 16) hc 22 dX0_cornerIn_16 (by decide) (fun hb3 => ?_) (fun hb3 => ?_)
    · rw [if_pos hb3] at h
      refine vr_aload_n (pc := 22) hc dX0_cornerIn_22 rfl ?_
      refine vr_getR (pc := 23) hc dX0_cornerIn_23 fl_X0_9 ha0 (gr_0_3 ha0).1 ?_
      refine vr_iload_n (pc := 26) hc dX0_cornerIn_26 rfl ?_
      refine vr_iload_n (pc := 27) hc dX0_cornerIn_27 rfl ?_
      have hb4 : ¬ (f_X0_pace a0 σ) = 0 := vz_if0 h
      rw [if_neg hb4] at h
      refine vr_idiv (pc := 28) hc dX0_cornerIn_28 hb4 ?_
      refine vr_aload_n (pc := 29) hc dX0_cornerIn_29 rfl ?_
      refine vr_getI (pc := 30) hc dX0_cornerIn_30 fl_X0_22 ha0 (gi_0_2 ha0) ?_
      have hb5 : ¬ (σ a0 2) = 0 := vz_if0 h
      rw [if_neg hb5] at h
      refine vr_irem (pc := 33) hc dX0_cornerIn_33 hb5 ?_
      have hb6 := vz_ifp h
      rw [if_pos hb6] at h
      refine vr_iald (pc := 34) hc 4 dX0_cornerIn_34 ((gr_0_3 ha0).2.1) ((gr_0_3 ha0).2.2) (vz_in_vp hb6) ?_
      obtain rfl := Option.some.inj h
      exact hret _ _ (vz_ret_i dX0_cornerIn_35 rfl)
    · rw [if_neg hb3] at h
      refine vr_bipush (pc := 19) hc dX0_cornerIn_19 (-4 : Int32) (by decide) ?_
      obtain rfl := Option.some.inj h
      exact hret _ _ (vz_ret_i dX0_cornerIn_21 rfl)
-- X0_minutesShown: depth 1, effects S=True W=False P=True
def f_X0_minutesShown_38 : Nat → Nat → Int32 → Int32 → Int32 → Int64 → Int32 → vz_I → Option Int64
  | 0, _, _, _, _, _, _, _ => none
  | n + 1, a0, x1, x3, x4, j5, x7, σ => if (σ a0 2) ≤ x7 then if (lg_cmp j5 (0 : Int64)) = 0 then some (0 : Int64) else vz_b1 (f_X8_repeated j5 (x3 * (σ a0 2))) (fun v6 => some v6) else if vz_in x7 4 then if (σ (a0 + 1) x7.toNatClampNeg) = x1 then f_X0_minutesShown_38 n a0 x1 x3 x4 (j5 ||| ((1 : Int64) <<< ((x3 * (x7 + x4)).toInt64 &&& 63))) (x7 + (1 : Int32)) σ else f_X0_minutesShown_38 n a0 x1 x3 x4 j5 (x7 + (1 : Int32)) σ else none
theorem f_X0_minutesShown_38_s (n : Nat) (a0 : Nat) (x1 : Int32) (x3 : Int32) (x4 : Int32) (j5 : Int64) (x7 : Int32) (σ : vz_I) : f_X0_minutesShown_38  (n + 1) a0 x1 x3 x4 j5 x7 σ = if (σ a0 2) ≤ x7 then if (lg_cmp j5 (0 : Int64)) = 0 then some (0 : Int64) else vz_b1 (f_X8_repeated j5 (x3 * (σ a0 2))) (fun v6 => some v6) else if vz_in x7 4 then if (σ (a0 + 1) x7.toNatClampNeg) = x1 then f_X0_minutesShown_38 n a0 x1 x3 x4 (j5 ||| ((1 : Int64) <<< ((x3 * (x7 + x4)).toInt64 &&& 63))) (x7 + (1 : Int32)) σ else f_X0_minutesShown_38 n a0 x1 x3 x4 j5 (x7 + (1 : Int32)) σ else none := rfl
set_option maxRecDepth 20000 in
set_option maxHeartbeats 1000000 in
theorem wn_X0_minutesShown_38 (z : vz_Z) (μ : vz_M) (hc : vz_C z μ cX0_minutesShown RX0 1 8) {r : Int64} (σ : vz_I) (hret : ∀ (pc : Nat) (L : vz_L), vz_ret cX0_minutesShown (some .long) pc (some (.long r)) → vz_V z μ 0 0 pc L ((some (.long r)) : Option Value).toList vz_G0 σ vz_N0) : ∀ (n : Nat) (a0 : Nat) (x1 : Int32) (x3 : Int32) (x4 : Int32) (j5 : Int64) (x7 : Int32) (ha0 : (vz_G0 a0).1 = 0) (h : f_X0_minutesShown_38  n a0 x1 x3 x4 j5 x7 σ = some r), vz_V z μ 0 0 38 [(0, some (.ref a0)), (1, some (.int x1)), (3, some (.int x3)), (4, some (.int x4)), (5, some (.long j5)), (7, some (.int x7))] [] vz_G0 σ vz_N0 := by
  intro n
  induction n with
  | zero =>
    intro a0 x1 x3 x4 j5 x7 ha0 h
    cases h
  | succ n ih =>
    intro a0 x1 x3 x4 j5 x7 ha0 h
    rw [f_X0_minutesShown_38_s] at h
    refine vr_iload (pc := 38) hc dX0_minutesShown_38 rfl ?_
    refine vr_aload_n (pc := 40) hc dX0_minutesShown_40 rfl ?_
    refine vr_getI (pc := 41) hc dX0_minutesShown_41 fl_X0_22 ha0 (gi_0_2 ha0) ?_
    refine vr_icmp_ge (pc := 44) hc 78 dX0_minutesShown_44 (by decide) (fun hb3 => ?_) (fun hb3 => ?_)
    · rw [if_pos hb3] at h
      refine vr_lload (pc := 78) hc dX0_minutesShown_78 rfl ?_
      refine vr_lconst (pc := 80) hc dX0_minutesShown_80 (0 : Int64) (by decide) ?_
      refine vr_lcmp (pc := 81) hc dX0_minutesShown_81 ?_
      refine vr_if_ne (pc := 82) hc 89 dX0_minutesShown_82 (by decide) (fun hb4 => ?_) (fun hb4 => ?_)
      · rw [if_neg hb4] at h
        refine vr_lload (pc := 89) hc dX0_minutesShown_89 rfl ?_
        refine vr_iload_n (pc := 91) hc dX0_minutesShown_91 rfl ?_
        refine vr_aload_n (pc := 92) hc dX0_minutesShown_92 rfl ?_
        refine vr_getI (pc := 93) hc dX0_minutesShown_93 fl_X0_22 ha0 (gi_0_2 ha0) ?_
        refine vr_imul (pc := 96) hc dX0_minutesShown_96 ?_
        obtain ⟨v6, he5, h⟩ := vz_b1e h
        refine vr_cNj (pc := 97) hc dX0_minutesShown_97 mt_X8_repeated sx_X8_repeated ml_X0_29  (w_X8_repeated z μ.2.1 j5 (x3 * (σ a0 2)) σ he5) rfl (by decide) rfl (Nat.le_of_ble_eq_true rfl) ?_
        obtain rfl := Option.some.inj h
        exact hret _ _ (vz_ret_l dX0_minutesShown_100)
      · rw [if_pos hb4] at h
        refine vr_lconst (pc := 85) hc dX0_minutesShown_85 (0 : Int64) (by decide) ?_
        refine vr_goto (pc := 86) hc 100 dX0_minutesShown_86 (by decide) ?_
        obtain rfl := Option.some.inj h
        exact hret _ _ (vz_ret_l dX0_minutesShown_100)
    · rw [if_neg hb3] at h
      refine vr_aload_n (pc := 47) hc dX0_minutesShown_47 rfl ?_
      refine vr_getR (pc := 48) hc dX0_minutesShown_48 fl_X0_9 ha0 (gr_0_3 ha0).1 ?_
      refine vr_iload (pc := 51) hc dX0_minutesShown_51 rfl ?_
      have hb8 := vz_ifp h
      rw [if_pos hb8] at h
      refine vr_iald (pc := 53) hc 4 dX0_minutesShown_53 ((gr_0_3 ha0).2.1) ((gr_0_3 ha0).2.2) (vz_in_vp hb8) ?_
      refine vr_iload_n (pc := 54) hc dX0_minutesShown_54 rfl ?_
      refine vr_icmp_ne (pc := 55) hc 72 dX0_minutesShown_55 (by decide) (fun hb9 => ?_) (fun hb9 => ?_)
      · rw [if_neg hb9] at h
        refine vr_iinc (pc := 72) hc dX0_minutesShown_72 (1 : Int32) (by decide) rfl (by decide) rfl ?_
        refine vr_goto (pc := 75) hc 38 dX0_minutesShown_75 (by decide) ?_
        exact vz_sub (ih a0 x1 x3 x4 j5 (x7 + (1 : Int32))  ha0 h) (vz_sb1 rfl (vz_sb1 rfl (vz_sb1 rfl (vz_sb1 rfl (vz_sb1 rfl (vz_sb1 rfl vz_sb0))))))
      · rw [if_pos hb9] at h
        refine vr_lload (pc := 58) hc dX0_minutesShown_58 rfl ?_
        refine vr_lconst (pc := 60) hc dX0_minutesShown_60 (1 : Int64) (by decide) ?_
        refine vr_iload_n (pc := 61) hc dX0_minutesShown_61 rfl ?_
        refine vr_iload (pc := 62) hc dX0_minutesShown_62 rfl ?_
        refine vr_iload (pc := 64) hc dX0_minutesShown_64 rfl ?_
        refine vr_iadd (pc := 66) hc dX0_minutesShown_66 ?_
        refine vr_imul (pc := 67) hc dX0_minutesShown_67 ?_
        refine vr_lshl (pc := 68) hc dX0_minutesShown_68 ?_
        refine vr_lor (pc := 69) hc dX0_minutesShown_69 ?_
        refine vr_lstore (pc := 70) hc dX0_minutesShown_70 (by decide) rfl ?_
        refine vr_iinc (pc := 72) hc dX0_minutesShown_72 (1 : Int32) (by decide) rfl (by decide) rfl ?_
        refine vr_goto (pc := 75) hc 38 dX0_minutesShown_75 (by decide) ?_
        exact vz_sub (ih a0 x1 x3 x4 (j5 ||| ((1 : Int64) <<< ((x3 * (x7 + x4)).toInt64 &&& 63))) (x7 + (1 : Int32))  ha0 h) (vz_sb1 rfl (vz_sb1 rfl (vz_sb1 rfl (vz_sb1 rfl (vz_sb1 rfl (vz_sb1 rfl vz_sb0))))))
def f_X0_minutesShown_30 (a0 : Nat) (x1 : Int32) (x3 : Int32) (xs0 : Int32) (σ : vz_I) : Option Int64 := f_X0_minutesShown_38 vz_fu a0 x1 x3 xs0 (0 : Int64) (0 : Int32) σ
set_option maxRecDepth 20000 in
set_option maxHeartbeats 1000000 in
theorem wn_X0_minutesShown_30 (z : vz_Z) (μ : vz_M) (hc : vz_C z μ cX0_minutesShown RX0 1 8) {r : Int64} (σ : vz_I) (hret : ∀ (pc : Nat) (L : vz_L), vz_ret cX0_minutesShown (some .long) pc (some (.long r)) → vz_V z μ 0 0 pc L ((some (.long r)) : Option Value).toList vz_G0 σ vz_N0) (a0 : Nat) (x1 : Int32) (x3 : Int32) (xs0 : Int32) (ha0 : (vz_G0 a0).1 = 0) (h : f_X0_minutesShown_30  a0 x1 x3 xs0 σ = some r) : vz_V z μ 0 0 30 [(0, some (.ref a0)), (1, some (.int x1)), (3, some (.int x3))] [.int xs0] vz_G0 σ vz_N0 := by
  unfold f_X0_minutesShown_30 at h
  refine vr_istore (pc := 30) hc dX0_minutesShown_30 (by decide) rfl ?_
  refine vr_lconst (pc := 32) hc dX0_minutesShown_32 (0 : Int64) (by decide) ?_
  refine vr_lstore (pc := 33) hc dX0_minutesShown_33 (by decide) rfl ?_
  refine vr_iconst (pc := 35) hc dX0_minutesShown_35 (0 : Int32) (by decide) ?_
  refine vr_istore (pc := 36) hc dX0_minutesShown_36 (by decide) rfl ?_
  exact vz_sub (wn_X0_minutesShown_38 z μ hc σ hret vz_fu a0 x1 x3 xs0 (0 : Int64) (0 : Int32) ha0 h) (vz_sb1 rfl (vz_sb1 rfl (vz_sb1 rfl (vz_sb1 rfl (vz_sb1 rfl (vz_sb1 rfl vz_sb0))))))
def f_X0_minutesShown_15 (a0 : Nat) (x1 : Int32) (x2 : Int32) (σ : vz_I) : Option Int64 := if x2 = (1 : Int32) then f_X0_minutesShown_30 a0 x1 (f_X0_pace a0 σ) (1 : Int32) σ else f_X0_minutesShown_30 a0 x1 (f_X0_pace a0 σ) (0 : Int32) σ
set_option maxRecDepth 20000 in
set_option maxHeartbeats 1000000 in
theorem wn_X0_minutesShown_15 (z : vz_Z) (μ : vz_M) (hc : vz_C z μ cX0_minutesShown RX0 1 8) {r : Int64} (σ : vz_I) (hret : ∀ (pc : Nat) (L : vz_L), vz_ret cX0_minutesShown (some .long) pc (some (.long r)) → vz_V z μ 0 0 pc L ((some (.long r)) : Option Value).toList vz_G0 σ vz_N0) (a0 : Nat) (x1 : Int32) (x2 : Int32) (ha0 : (vz_G0 a0).1 = 0) (h : f_X0_minutesShown_15  a0 x1 x2 σ = some r) : vz_V z μ 0 0 15 [(0, some (.ref a0)), (1, some (.int x1)), (2, some (.int x2))] [] vz_G0 σ vz_N0 := by
  unfold f_X0_minutesShown_15 at h
  refine vr_aload_n (pc := 15) hc dX0_minutesShown_15 rfl ?_
  refine vr_cVi (pc := 16) hc dX0_minutesShown_16 mt_X0_pace ml_X0_25 ha0 (w_X0_pace z μ.2.1 a0 σ ha0 rfl) rfl (by decide) rfl (Nat.le_of_ble_eq_true rfl) ?_
  refine vr_istore_n (pc := 19) hc dX0_minutesShown_19 (by decide) rfl ?_
  refine vr_iload_n (pc := 20) hc dX0_minutesShown_20 rfl ?_
  refine vr_iconst (pc := 21) hc dX0_minutesShown_21 (1 : Int32) (by decide) ?_
  refine vr_icmp_ne (pc := 22) hc 29 dX0_minutesShown_22 (by decide) (fun hb2 => ?_) (fun hb2 => ?_)
  · rw [if_neg hb2] at h
    refine vr_iconst (pc := 29) hc dX0_minutesShown_29 (0 : Int32) (by decide) ?_
    exact vz_sub (wn_X0_minutesShown_30 z μ hc σ hret a0 x1 (f_X0_pace a0 σ) (0 : Int32) ha0 h) (vz_sb1 rfl (vz_sb1 rfl (vz_sb1 rfl vz_sb0)))
  · rw [if_pos hb2] at h
    refine vr_iconst (pc := 25) hc dX0_minutesShown_25 (1 : Int32) (by decide) ?_
    refine vr_goto (pc := 26) hc 30 dX0_minutesShown_26 (by decide) ?_
    exact vz_sub (wn_X0_minutesShown_30 z μ hc σ hret a0 x1 (f_X0_pace a0 σ) (1 : Int32) ha0 h) (vz_sb1 rfl (vz_sb1 rfl (vz_sb1 rfl vz_sb0)))
def f_X0_minutesShown (a0 : Nat) (x1 : Int32) (x2 : Int32) (σ : vz_I) : Option Int64 := if x2 = (1 : Int32) then if (2 : Int32) ≤ (σ a0 2) then f_X0_minutesShown_15 a0 x1 x2 σ else some (0 : Int64) else f_X0_minutesShown_15 a0 x1 x2 σ
set_option maxRecDepth 20000 in
set_option maxHeartbeats 1000000 in
theorem w_X0_minutesShown (z : vz_Z) (l : Launch) (a0 : Nat) (x1 : Int32) (x2 : Int32) (σ : vz_I) (ha0 : (vz_G0 a0).1 = 0) {r : Int64} (h : f_X0_minutesShown a0 x1 x2 σ = some r) : vz_Con z l 1 yX0_minutesShown cX0_minutesShown 8 (some .long) [.ref a0, .int x1, .int x2] vz_G0 σ vz_N0 (some (.long r)) vz_G0 σ vz_N0 0 0 := by
  refine vz_con (by decide) (Nat.le_of_ble_eq_true rfl) (fun μ hc hl hcap hret => ?_)
  subst hl
  unfold f_X0_minutesShown at h
  refine vr_iload_n (pc := 0) hc dX0_minutesShown_0 rfl ?_
  refine vr_iconst (pc := 1) hc dX0_minutesShown_1 (1 : Int32) (by decide) ?_
  refine vr_icmp_ne (pc := 2) hc 15 dX0_minutesShown_2 (by decide) (fun hb1 => ?_) (fun hb1 => ?_)
  · rw [if_neg hb1] at h
    exact vz_sub (wn_X0_minutesShown_15 z μ hc σ hret a0 x1 x2 ha0 h) (vz_sb1 rfl (vz_sb1 rfl (vz_sb1 rfl vz_sb0)))
  · rw [if_pos hb1] at h
    refine vr_aload_n (pc := 5) hc dX0_minutesShown_5 rfl ?_
    refine vr_getI (pc := 6) hc dX0_minutesShown_6 fl_X0_22 ha0 (gi_0_2 ha0) ?_
    refine vr_iconst (pc := 9) hc dX0_minutesShown_9 (2 : Int32) (by decide) ?_
    refine vr_icmp_ge (pc := 10) hc 15 dX0_minutesShown_10 (by decide) (fun hb10 => ?_) (fun hb10 => ?_)
    · rw [if_pos hb10] at h
      exact vz_sub (wn_X0_minutesShown_15 z μ hc σ hret a0 x1 x2 ha0 h) (vz_sb1 rfl (vz_sb1 rfl (vz_sb1 rfl vz_sb0)))
    · rw [if_neg hb10] at h
      refine vr_lconst (pc := 13) hc dX0_minutesShown_13 (0 : Int64) (by decide) ?_
      obtain rfl := Option.some.inj h
      exact hret _ _ (vz_ret_l dX0_minutesShown_14)
-- X0_turnTo: depth 1, effects S=True W=True P=True
def f_X0_turnTo_2 : Nat → Nat → Int32 → Int32 → vz_I → Option vz_I
  | 0, _, _, _, _ => none
  | n + 1, a0, x1, x2, σ => if x1 ≤ x2 then some σ else vz_b1 (f_X0_turnByOne a0 σ) (fun σ4 => f_X0_turnTo_2 n a0 x1 (x2 + (1 : Int32)) σ4)
theorem f_X0_turnTo_2_s (n : Nat) (a0 : Nat) (x1 : Int32) (x2 : Int32) (σ : vz_I) : f_X0_turnTo_2  (n + 1) a0 x1 x2 σ = if x1 ≤ x2 then some σ else vz_b1 (f_X0_turnByOne a0 σ) (fun σ4 => f_X0_turnTo_2 n a0 x1 (x2 + (1 : Int32)) σ4) := rfl
set_option maxRecDepth 20000 in
set_option maxHeartbeats 1000000 in
theorem wn_X0_turnTo_2 (z : vz_Z) (μ : vz_M) (hc : vz_C z μ cX0_turnTo RX0 1 3) {σ' : vz_I} (hret : ∀ (pc : Nat) (L : vz_L), vz_ret cX0_turnTo none pc none → vz_V z μ 0 0 pc L (none : Option Value).toList vz_G0 σ' vz_N0) : ∀ (n : Nat) (a0 : Nat) (x1 : Int32) (x2 : Int32) (σ : vz_I) (ha0 : (vz_G0 a0).1 = 0) (h : f_X0_turnTo_2  n a0 x1 x2 σ = some σ'), vz_V z μ 0 0 2 [(0, some (.ref a0)), (1, some (.int x1)), (2, some (.int x2))] [] vz_G0 σ vz_N0 := by
  intro n
  induction n with
  | zero =>
    intro a0 x1 x2 σ ha0 h
    cases h
  | succ n ih =>
    intro a0 x1 x2 σ ha0 h
    rw [f_X0_turnTo_2_s] at h
    refine vr_iload_n (pc := 2) hc dX0_turnTo_2 rfl ?_
    refine vr_iload_n (pc := 3) hc dX0_turnTo_3 rfl ?_
    refine vr_icmp_ge (pc := 4) hc 17 dX0_turnTo_4 (by decide) (fun hb1 => ?_) (fun hb1 => ?_)
    · rw [if_pos hb1] at h
      obtain rfl := Option.some.inj h
      exact hret _ _ (vz_ret_v dX0_turnTo_17)
    · rw [if_neg hb1] at h
      refine vr_aload_n (pc := 7) hc dX0_turnTo_7 rfl ?_
      obtain ⟨σ4, he2, h⟩ := vz_b1e h
      refine vr_cVv (pc := 8) hc dX0_turnTo_8 mt_X0_turnByOne ml_X0_33 ha0 (w_X0_turnByOne z μ.2.1 a0 σ ha0 he2) rfl (by decide) rfl (Nat.le_of_ble_eq_true rfl) ?_
      refine vr_iinc (pc := 11) hc dX0_turnTo_11 (1 : Int32) (by decide) rfl (by decide) rfl ?_
      refine vr_goto (pc := 14) hc 2 dX0_turnTo_14 (by decide) ?_
      exact vz_sub (ih a0 x1 (x2 + (1 : Int32)) σ4 ha0 h) (vz_sb1 rfl (vz_sb1 rfl (vz_sb1 rfl vz_sb0)))
def f_X0_turnTo (a0 : Nat) (x1 : Int32) (σ : vz_I) : Option vz_I := f_X0_turnTo_2 vz_fu a0 x1 (0 : Int32) σ
set_option maxRecDepth 20000 in
set_option maxHeartbeats 1000000 in
theorem w_X0_turnTo (z : vz_Z) (l : Launch) (a0 : Nat) (x1 : Int32) (σ : vz_I) (ha0 : (vz_G0 a0).1 = 0) {σ' : vz_I} (h : f_X0_turnTo a0 x1 σ = some σ') : vz_Con z l 1 yX0_turnTo cX0_turnTo 3 none [.ref a0, .int x1] vz_G0 σ vz_N0 none vz_G0 σ' vz_N0 0 0 := by
  refine vz_con (by decide) (Nat.le_of_ble_eq_true rfl) (fun μ hc hl hcap hret => ?_)
  subst hl
  unfold f_X0_turnTo at h
  refine vr_iconst (pc := 0) hc dX0_turnTo_0 (0 : Int32) (by decide) ?_
  refine vr_istore_n (pc := 1) hc dX0_turnTo_1 (by decide) rfl ?_
  exact vz_sub (wn_X0_turnTo_2 z μ hc hret vz_fu a0 x1 (0 : Int32) σ ha0 h) (vz_sb1 rfl (vz_sb1 rfl (vz_sb1 rfl vz_sb0)))
-- X4_faultAt: depth 1, effects S=True W=False P=False
def f_X4_faultAt (a0 : Nat) (x1 : Int32) (x2 : Int32) (σ : vz_I) : Int32 := if (σ a0 0) = (-4 : Int32) then (1 : Int32) else if (σ a0 0) = x1 then if (f_X4_hasCell a0 x2 σ) = 0 then (2 : Int32) else (0 : Int32) else (3 : Int32)
set_option maxRecDepth 20000 in
set_option maxHeartbeats 1000000 in
theorem w_X4_faultAt (z : vz_Z) (l : Launch) (a0 : Nat) (x1 : Int32) (x2 : Int32) (σ : vz_I) (ha0 : (vz_G0 a0).1 = 4) {r : Int32} (h : f_X4_faultAt a0 x1 x2 σ = r) : vz_Con z l 1 yX4_faultAt cX4_faultAt 3 (some .int) [.ref a0, .int x1, .int x2] vz_G0 σ vz_N0 (some (.int r)) vz_G0 σ vz_N0 0 0 := by
  refine vz_con (by decide) (Nat.le_of_ble_eq_true rfl) (fun μ hc hl hcap hret => ?_)
  subst hl
  unfold f_X4_faultAt at h
  refine vr_aload_n (pc := 0) hc dX4_faultAt_0 rfl ?_
  refine vr_getI (pc := 1) hc dX4_faultAt_1 fl_X4_9 ha0 (gi_4_0 ha0) ?_
  refine vr_bipush (pc := 4) hc dX4_faultAt_4 (-4 : Int32) (by decide) ?_
  refine vr_icmp_ne (pc := 6) hc 11 dX4_faultAt_6 (by decide) (fun hb1 => ?_) (fun hb1 => ?_)
  · rw [if_neg hb1] at h
    refine vr_aload_n (pc := 11) hc dX4_faultAt_11 rfl ?_
    refine vr_getI (pc := 12) hc dX4_faultAt_12 fl_X4_9 ha0 (gi_4_0 ha0) ?_
    refine vr_iload_n (pc := 15) hc dX4_faultAt_15 rfl ?_
    refine vr_icmp_eq (pc := 16) hc 21 dX4_faultAt_16 (by decide) (fun hb2 => ?_) (fun hb2 => ?_)
    · rw [if_pos hb2] at h
      refine vr_aload_n (pc := 21) hc dX4_faultAt_21 rfl ?_
      refine vr_iload_n (pc := 22) hc dX4_faultAt_22 rfl ?_
      refine vr_cVi (pc := 23) hc dX4_faultAt_23 mt_X4_hasCell ml_X4_22 ha0 (w_X4_hasCell z μ.2.1 a0 x2 σ ha0 rfl) rfl (by decide) rfl (Nat.le_of_ble_eq_true rfl) ?_
      refine vr_if_eq (pc := 26) hc 33 dX4_faultAt_26 (by decide) (fun hb3 => ?_) (fun hb3 => ?_)
      · rw [if_pos hb3] at h
        refine vr_iconst (pc := 33) hc dX4_faultAt_33 (2 : Int32) (by decide) ?_
        subst h
        exact hret _ _ (vz_ret_i dX4_faultAt_34 rfl)
      · rw [if_neg hb3] at h
        refine vr_iconst (pc := 29) hc dX4_faultAt_29 (0 : Int32) (by decide) ?_
        refine vr_goto (pc := 30) hc 34 dX4_faultAt_30 (by decide) ?_
        subst h
        exact hret _ _ (vz_ret_i dX4_faultAt_34 rfl)
    · rw [if_neg hb2] at h
      refine vr_iconst (pc := 19) hc dX4_faultAt_19 (3 : Int32) (by decide) ?_
      subst h
      exact hret _ _ (vz_ret_i dX4_faultAt_20 rfl)
  · rw [if_pos hb1] at h
    refine vr_iconst (pc := 9) hc dX4_faultAt_9 (1 : Int32) (by decide) ?_
    subst h
    exact hret _ _ (vz_ret_i dX4_faultAt_10 rfl)
-- X4_cellAt: depth 1, effects S=True W=False P=True
def f_X4_cellAt (a0 : Nat) (x1 : Int32) (σ : vz_I) : Option Int32 := if (f_X4_hasCell a0 x1 σ) = 0 then some (-4 : Int32) else if vz_in x1 40 then some (σ (a0 + 1) x1.toNatClampNeg) else none
set_option maxRecDepth 20000 in
set_option maxHeartbeats 1000000 in
theorem w_X4_cellAt (z : vz_Z) (l : Launch) (a0 : Nat) (x1 : Int32) (σ : vz_I) (ha0 : (vz_G0 a0).1 = 4) {r : Int32} (h : f_X4_cellAt a0 x1 σ = some r) : vz_Con z l 1 yX4_cellAt cX4_cellAt 2 (some .int) [.ref a0, .int x1] vz_G0 σ vz_N0 (some (.int r)) vz_G0 σ vz_N0 0 0 := by
  refine vz_con (by decide) (Nat.le_of_ble_eq_true rfl) (fun μ hc hl hcap hret => ?_)
  subst hl
  unfold f_X4_cellAt at h
  refine vr_aload_n (pc := 0) hc dX4_cellAt_0 rfl ?_
  refine vr_iload_n (pc := 1) hc dX4_cellAt_1 rfl ?_
  refine vr_cVi (pc := 2) hc dX4_cellAt_2 mt_X4_hasCell ml_X4_22 ha0 (w_X4_hasCell z μ.2.1 a0 x1 σ ha0 rfl) rfl (by decide) rfl (Nat.le_of_ble_eq_true rfl) ?_
  refine vr_if_eq (pc := 5) hc 17 dX4_cellAt_5 (by decide) (fun hb1 => ?_) (fun hb1 => ?_)
  · rw [if_pos hb1] at h
    refine vr_bipush (pc := 17) hc dX4_cellAt_17 (-4 : Int32) (by decide) ?_
    obtain rfl := Option.some.inj h
    exact hret _ _ (vz_ret_i dX4_cellAt_19 rfl)
  · rw [if_neg hb1] at h
    refine vr_aload_n (pc := 8) hc dX4_cellAt_8 rfl ?_
    refine vr_getR (pc := 9) hc dX4_cellAt_9 fl_X4_15 ha0 (gr_4_2 ha0).1 ?_
    refine vr_iload_n (pc := 12) hc dX4_cellAt_12 rfl ?_
    have hb2 := vz_ifp h
    rw [if_pos hb2] at h
    refine vr_iald (pc := 13) hc 40 dX4_cellAt_13 ((gr_4_2 ha0).2.1) ((gr_4_2 ha0).2.2) (vz_in_vp hb2) ?_
    refine vr_goto (pc := 14) hc 19 dX4_cellAt_14 (by decide) ?_
    obtain rfl := Option.some.inj h
    exact hret _ _ (vz_ret_i dX4_cellAt_19 rfl)
-- X4_put: depth 1, effects S=True W=True P=True
def f_X4_put (a0 : Nat) (x1 : Int32) (x2 : Int32) (σ : vz_I) : Option vz_I := if (f_X4_hasCell a0 x1 σ) = 0 then some σ else if (σ a0 0) = 0 then if vz_in x1 40 then some (vz_up σ (a0 + 1) x1.toNatClampNeg x2.toInt8.toInt32) else none else if (σ a0 0) = (1 : Int32) then if vz_in x1 40 then some (vz_up σ (a0 + 1) x1.toNatClampNeg x2.toInt16.toInt32) else none else if vz_in x1 40 then some (vz_up σ (a0 + 1) x1.toNatClampNeg x2) else none
set_option maxRecDepth 20000 in
set_option maxHeartbeats 1000000 in
theorem w_X4_put (z : vz_Z) (l : Launch) (a0 : Nat) (x1 : Int32) (x2 : Int32) (σ : vz_I) (ha0 : (vz_G0 a0).1 = 4) {σ' : vz_I} (h : f_X4_put a0 x1 x2 σ = some σ') : vz_Con z l 1 yX4_put cX4_put 3 none [.ref a0, .int x1, .int x2] vz_G0 σ vz_N0 none vz_G0 σ' vz_N0 0 0 := by
  refine vz_con (by decide) (Nat.le_of_ble_eq_true rfl) (fun μ hc hl hcap hret => ?_)
  subst hl
  unfold f_X4_put at h
  refine vr_aload_n (pc := 0) hc dX4_put_0 rfl ?_
  refine vr_iload_n (pc := 1) hc dX4_put_1 rfl ?_
  refine vr_cVi (pc := 2) hc dX4_put_2 mt_X4_hasCell ml_X4_22 ha0 (w_X4_hasCell z μ.2.1 a0 x1 σ ha0 rfl) rfl (by decide) rfl (Nat.le_of_ble_eq_true rfl) ?_
  refine vr_if_eq (pc := 5) hc 40 dX4_put_5 (by decide) (fun hb1 => ?_) (fun hb1 => ?_)
  · rw [if_pos hb1] at h
    obtain rfl := Option.some.inj h
    exact hret _ _ (vz_ret_v dX4_put_40)
  · rw [if_neg hb1] at h
    refine vr_aload_n (pc := 8) hc dX4_put_8 rfl ?_
    refine vr_getR (pc := 9) hc dX4_put_9 fl_X4_15 ha0 (gr_4_2 ha0).1 ?_
    refine vr_iload_n (pc := 12) hc dX4_put_12 rfl ?_
    refine vr_aload_n (pc := 13) hc dX4_put_13 rfl ?_
    refine vr_getI (pc := 14) hc dX4_put_14 fl_X4_9 ha0 (gi_4_0 ha0) ?_
    refine vr_if_ne (pc := 17) hc 25 dX4_put_17 (by decide) (fun hb2 => ?_) (fun hb2 => ?_)
    · rw [if_neg hb2] at h
      refine vr_aload_n (pc := 25) hc dX4_put_25 rfl ?_
      refine vr_getI (pc := 26) hc dX4_put_26 fl_X4_9 ha0 (gi_4_0 ha0) ?_
      refine vr_iconst (pc := 29) hc dX4_put_29 (1 : Int32) (by decide) ?_
      refine vr_icmp_ne (pc := 30) hc 38 dX4_put_30 (by decide) (fun hb3 => ?_) (fun hb3 => ?_)
      · rw [if_neg hb3] at h
        refine vr_iload_n (pc := 38) hc dX4_put_38 rfl ?_
        have hb4 := vz_ifp h
        rw [if_pos hb4] at h
        refine vr_iast (pc := 39) hc 40 dX4_put_39 ((gr_4_2 ha0).2.1) ((gr_4_2 ha0).2.2) (vz_in_vp hb4) ?_
        obtain rfl := Option.some.inj h
        exact hret _ _ (vz_ret_v dX4_put_40)
      · rw [if_pos hb3] at h
        refine vr_iload_n (pc := 33) hc dX4_put_33 rfl ?_
        refine vr_i2s (pc := 34) hc dX4_put_34 ?_
        refine vr_goto (pc := 35) hc 39 dX4_put_35 (by decide) ?_
        have hb5 := vz_ifp h
        rw [if_pos hb5] at h
        refine vr_iast (pc := 39) hc 40 dX4_put_39 ((gr_4_2 ha0).2.1) ((gr_4_2 ha0).2.2) (vz_in_vp hb5) ?_
        obtain rfl := Option.some.inj h
        exact hret _ _ (vz_ret_v dX4_put_40)
    · rw [if_pos hb2] at h
      refine vr_iload_n (pc := 20) hc dX4_put_20 rfl ?_
      refine vr_i2b (pc := 21) hc dX4_put_21 ?_
      refine vr_goto (pc := 22) hc 39 dX4_put_22 (by decide) ?_
      have hb6 := vz_ifp h
      rw [if_pos hb6] at h
      refine vr_iast (pc := 39) hc 40 dX4_put_39 ((gr_4_2 ha0).2.1) ((gr_4_2 ha0).2.2) (vz_in_vp hb6) ?_
      obtain rfl := Option.some.inj h
      exact hret _ _ (vz_ret_v dX4_put_40)
-- X6_readToken: depth 1, effects S=True W=True P=True
def f_X6_readToken_237  (σ : vz_I) : Option (Int32 × vz_I) := if (f_X8_isWithin ((σ 1 2) - (σ 1 4)) (1 : Int32) (2 : Int32)) = 0 then vz_c2 (f_X6_refuse (1 : Int32) (σ 1 4) σ) (fun v13 σ14 => if v13 = 0 then some ((0 : Int32), σ14) else some ((1 : Int32), σ14)) else some ((1 : Int32), σ)
set_option maxRecDepth 20000 in
set_option maxHeartbeats 1000000 in
theorem wn_X6_readToken_237 (z : vz_Z) (μ : vz_M) (hc : vz_C z μ cX6_readToken RX6 1 3) {r : Int32} {σ' : vz_I} (hret : ∀ (pc : Nat) (L : vz_L), vz_ret cX6_readToken (some .boolean) pc (some (.int r)) → vz_V z μ 0 0 pc L ((some (.int r)) : Option Value).toList vz_G0 σ' vz_N0)  (σ : vz_I)  (h : f_X6_readToken_237   σ = some (r, σ')) : vz_V z μ 0 0 237 [(0, some (.ref 1))] [] vz_G0 σ vz_N0 := by
  unfold f_X6_readToken_237 at h
  refine vr_aload_n (pc := 237) hc dX6_readToken_237 rfl ?_
  refine vr_getI (pc := 238) hc dX6_readToken_238 fl_X6_29 gc_1 (gi_6_2 gc_1) ?_
  refine vr_aload_n (pc := 241) hc dX6_readToken_241 rfl ?_
  refine vr_getI (pc := 242) hc dX6_readToken_242 fl_X6_62 gc_1 (gi_6_4 gc_1) ?_
  refine vr_isub (pc := 245) hc dX6_readToken_245 ?_
  refine vr_istore_n (pc := 246) hc dX6_readToken_246 (by decide) rfl ?_
  refine vr_iload_n (pc := 247) hc dX6_readToken_247 rfl ?_
  refine vr_iconst (pc := 248) hc dX6_readToken_248 (1 : Int32) (by decide) ?_
  refine vr_iconst (pc := 249) hc dX6_readToken_249 (2 : Int32) (by decide) ?_
  refine vr_cNi (pc := 250) hc dX6_readToken_250 mt_X8_isWithin sx_X8_isWithin ml_X6_135  (w_X8_isWithin z μ.2.1 ((σ 1 2) - (σ 1 4)) (1 : Int32) (2 : Int32) σ rfl) rfl (by decide) rfl (Nat.le_of_ble_eq_true rfl) ?_
  refine vr_if_ne (pc := 253) hc 268 dX6_readToken_253 (by decide) (fun hb11 => ?_) (fun hb11 => ?_)
  · rw [if_neg hb11] at h
    refine vr_iconst (pc := 268) hc dX6_readToken_268 (1 : Int32) (by decide) ?_
    refine vr_goto (pc := 269) hc 273 dX6_readToken_269 (by decide) ?_
    obtain ⟨rfl, rfl⟩ := vz_in2 h
    exact hret _ _ (vz_ret_i dX6_readToken_273 (by decide))
  · rw [if_pos hb11] at h
    refine vr_aload_n (pc := 256) hc dX6_readToken_256 rfl ?_
    refine vr_iconst (pc := 257) hc dX6_readToken_257 (1 : Int32) (by decide) ?_
    refine vr_aload_n (pc := 258) hc dX6_readToken_258 rfl ?_
    refine vr_getI (pc := 259) hc dX6_readToken_259 fl_X6_62 gc_1 (gi_6_4 gc_1) ?_
    obtain ⟨v13, σ14, he12⟩ : ∃ x s, f_X6_refuse (1 : Int32) (σ 1 4) σ = (x, s) := ⟨_, _, rfl⟩
    rw [he12] at h
    rw [vz_c2_e] at h
    refine vr_cVi (pc := 262) hc dX6_readToken_262 mt_X6_refuse ml_X6_55 gc_1 (w_X6_refuse z μ.2.1 (1 : Int32) (σ 1 4) σ he12) rfl (by decide) rfl (Nat.le_of_ble_eq_true rfl) ?_
    refine vr_if_eq (pc := 265) hc 272 dX6_readToken_265 (by decide) (fun hb15 => ?_) (fun hb15 => ?_)
    · rw [if_pos hb15] at h
      refine vr_iconst (pc := 272) hc dX6_readToken_272 (0 : Int32) (by decide) ?_
      obtain ⟨rfl, rfl⟩ := vz_in2 h
      exact hret _ _ (vz_ret_i dX6_readToken_273 (by decide))
    · rw [if_neg hb15] at h
      refine vr_iconst (pc := 268) hc dX6_readToken_268 (1 : Int32) (by decide) ?_
      refine vr_goto (pc := 269) hc 273 dX6_readToken_269 (by decide) ?_
      obtain ⟨rfl, rfl⟩ := vz_in2 h
      exact hret _ _ (vz_ret_i dX6_readToken_273 (by decide))
def f_X6_readToken_167 : Nat → vz_I → Option (Int32 × vz_I)
  | 0, _ => none
  | n + 1, σ => if (σ 2 0) ≤ (σ 1 2) then f_X6_readToken_237 σ else vz_b1 (f_X5_byteAt (σ 1 2) σ) (fun v17 => if (f_X6_isFigure v17) = 0 then f_X6_readToken_237 σ else vz_b1 (f_X5_byteAt (σ 1 2) σ) (fun v21 => vz_let (vz_up σ 1 5 ((((10 : Int32) * (σ 1 5)) + v21) - (48 : Int32))) (fun σ23 => f_X6_readToken_167 n  (vz_up σ23 1 2 ((σ23 1 2) + (1 : Int32))))))
theorem f_X6_readToken_167_s (n : Nat)  (σ : vz_I) : f_X6_readToken_167  (n + 1)  σ = if (σ 2 0) ≤ (σ 1 2) then f_X6_readToken_237 σ else vz_b1 (f_X5_byteAt (σ 1 2) σ) (fun v17 => if (f_X6_isFigure v17) = 0 then f_X6_readToken_237 σ else vz_b1 (f_X5_byteAt (σ 1 2) σ) (fun v21 => vz_let (vz_up σ 1 5 ((((10 : Int32) * (σ 1 5)) + v21) - (48 : Int32))) (fun σ23 => f_X6_readToken_167 n  (vz_up σ23 1 2 ((σ23 1 2) + (1 : Int32)))))) := rfl
set_option maxRecDepth 20000 in
set_option maxHeartbeats 1000000 in
theorem wn_X6_readToken_167 (z : vz_Z) (μ : vz_M) (hc : vz_C z μ cX6_readToken RX6 1 3) {r : Int32} {σ' : vz_I} (hret : ∀ (pc : Nat) (L : vz_L), vz_ret cX6_readToken (some .boolean) pc (some (.int r)) → vz_V z μ 0 0 pc L ((some (.int r)) : Option Value).toList vz_G0 σ' vz_N0) : ∀ (n : Nat)  (σ : vz_I)  (h : f_X6_readToken_167  n  σ = some (r, σ')), vz_V z μ 0 0 167 [(0, some (.ref 1))] [] vz_G0 σ vz_N0 := by
  intro n
  induction n with
  | zero =>
    intro σ h
    cases h
  | succ n ih =>
    intro σ h
    rw [f_X6_readToken_167_s] at h
    refine vr_aload_n (pc := 167) hc dX6_readToken_167 rfl ?_
    refine vr_getI (pc := 168) hc dX6_readToken_168 fl_X6_29 gc_1 (gi_6_2 gc_1) ?_
    refine vr_aload_n (pc := 171) hc dX6_readToken_171 rfl ?_
    refine vr_getR (pc := 172) hc dX6_readToken_172 fl_X6_12 gc_1 (gr_6_0 gc_1).1 ?_
    refine vr_getI (pc := 175) hc dX6_readToken_175 fl_X6_52 ((gr_6_0 gc_1).2.1) (gi_5_0 ((gr_6_0 gc_1).2.1)) ?_
    refine vr_icmp_ge (pc := 178) hc 237 dX6_readToken_178 (by decide) (fun hb10 => ?_) (fun hb10 => ?_)
    · rw [if_pos hb10] at h
      exact vz_sub (wn_X6_readToken_237 z μ hc hret σ h) (vz_sb1 rfl vz_sb0)
    · rw [if_neg hb10] at h
      refine vr_aload_n (pc := 181) hc dX6_readToken_181 rfl ?_
      refine vr_getR (pc := 182) hc dX6_readToken_182 fl_X6_12 gc_1 (gr_6_0 gc_1).1 ?_
      refine vr_aload_n (pc := 185) hc dX6_readToken_185 rfl ?_
      refine vr_getI (pc := 186) hc dX6_readToken_186 fl_X6_29 gc_1 (gi_6_2 gc_1) ?_
      obtain ⟨v17, he16, h⟩ := vz_b1e h
      refine vr_cVi (pc := 189) hc dX6_readToken_189 mt_X5_byteAt ml_X6_139 ((gr_6_0 gc_1).2.1) (w_X5_byteAt z μ.2.1 (σ 1 2) σ he16) rfl (by decide) rfl (Nat.le_of_ble_eq_true rfl) ?_
      refine vr_cSi (pc := 192) hc dX6_readToken_192 mt_X6_isFigure sx_X6_isFigure ml_X6_146  (w_X6_isFigure z μ.2.1 v17 σ rfl) rfl (by decide) rfl (Nat.le_of_ble_eq_true rfl) ?_
      refine vr_if_eq (pc := 195) hc 237 dX6_readToken_195 (by decide) (fun hb19 => ?_) (fun hb19 => ?_)
      · rw [if_pos hb19] at h
        exact vz_sub (wn_X6_readToken_237 z μ hc hret σ h) (vz_sb1 rfl vz_sb0)
      · rw [if_neg hb19] at h
        refine vr_aload_n (pc := 198) hc dX6_readToken_198 rfl ?_
        refine vr_bipush (pc := 199) hc dX6_readToken_199 (10 : Int32) (by decide) ?_
        refine vr_aload_n (pc := 201) hc dX6_readToken_201 rfl ?_
        refine vr_getI (pc := 202) hc dX6_readToken_202 fl_X6_89 gc_1 (gi_6_5 gc_1) ?_
        refine vr_imul (pc := 205) hc dX6_readToken_205 ?_
        refine vr_aload_n (pc := 206) hc dX6_readToken_206 rfl ?_
        refine vr_getR (pc := 207) hc dX6_readToken_207 fl_X6_12 gc_1 (gr_6_0 gc_1).1 ?_
        refine vr_aload_n (pc := 210) hc dX6_readToken_210 rfl ?_
        refine vr_getI (pc := 211) hc dX6_readToken_211 fl_X6_29 gc_1 (gi_6_2 gc_1) ?_
        obtain ⟨v21, he20, h⟩ := vz_b1e h
        refine vr_cVi (pc := 214) hc dX6_readToken_214 mt_X5_byteAt ml_X6_139 ((gr_6_0 gc_1).2.1) (w_X5_byteAt z μ.2.1 (σ 1 2) σ he20) rfl (by decide) rfl (Nat.le_of_ble_eq_true rfl) ?_
        refine vr_iadd (pc := 217) hc dX6_readToken_217 ?_
        refine vr_bipush (pc := 218) hc dX6_readToken_218 (48 : Int32) (by decide) ?_
        refine vr_isub (pc := 220) hc dX6_readToken_220 ?_
        refine vr_putI (pc := 221) hc dX6_readToken_221 fl_X6_89 gc_1 (gi_6_5 gc_1) rfl rfl ?_
        obtain ⟨σ23, hσ24⟩ : ∃ x, x = vz_up σ 1 5 ((((10 : Int32) * (σ 1 5)) + v21) - (48 : Int32)) := ⟨_, rfl⟩
        rw [← hσ24] at h ⊢
        rw [vz_let_e] at h
        refine vr_aload_n (pc := 224) hc dX6_readToken_224 rfl ?_
        refine vr_dup (pc := 225) hc dX6_readToken_225 rfl ?_
        refine vr_getI (pc := 226) hc dX6_readToken_226 fl_X6_29 gc_1 (gi_6_2 gc_1) ?_
        refine vr_iconst (pc := 229) hc dX6_readToken_229 (1 : Int32) (by decide) ?_
        refine vr_iadd (pc := 230) hc dX6_readToken_230 ?_
        refine vr_putI (pc := 231) hc dX6_readToken_231 fl_X6_29 gc_1 (gi_6_2 gc_1) rfl rfl ?_
        refine vr_goto (pc := 234) hc 167 dX6_readToken_234 (by decide) ?_
        exact vz_sub (ih  (vz_up σ23 1 2 ((σ23 1 2) + (1 : Int32)))  h) (vz_sb1 rfl vz_sb0)
def f_X6_readToken_111 : Nat → vz_I → Option (Int32 × vz_I)
  | 0, _ => none
  | n + 1, σ => if (σ 2 0) ≤ (σ 1 2) then some ((1 : Int32), σ) else vz_b1 (f_X5_byteAt (σ 1 2) σ) (fun v27 => if (f_X6_isLetter v27) = 0 then some ((1 : Int32), σ) else f_X6_readToken_111 n  (vz_up σ 1 2 ((σ 1 2) + (1 : Int32))))
theorem f_X6_readToken_111_s (n : Nat)  (σ : vz_I) : f_X6_readToken_111  (n + 1)  σ = if (σ 2 0) ≤ (σ 1 2) then some ((1 : Int32), σ) else vz_b1 (f_X5_byteAt (σ 1 2) σ) (fun v27 => if (f_X6_isLetter v27) = 0 then some ((1 : Int32), σ) else f_X6_readToken_111 n  (vz_up σ 1 2 ((σ 1 2) + (1 : Int32)))) := rfl
set_option maxRecDepth 20000 in
set_option maxHeartbeats 1000000 in
theorem wn_X6_readToken_111 (z : vz_Z) (μ : vz_M) (hc : vz_C z μ cX6_readToken RX6 1 3) {r : Int32} {σ' : vz_I} (hret : ∀ (pc : Nat) (L : vz_L), vz_ret cX6_readToken (some .boolean) pc (some (.int r)) → vz_V z μ 0 0 pc L ((some (.int r)) : Option Value).toList vz_G0 σ' vz_N0) : ∀ (n : Nat)  (σ : vz_I)  (h : f_X6_readToken_111  n  σ = some (r, σ')), vz_V z μ 0 0 111 [(0, some (.ref 1))] [] vz_G0 σ vz_N0 := by
  intro n
  induction n with
  | zero =>
    intro σ h
    cases h
  | succ n ih =>
    intro σ h
    rw [f_X6_readToken_111_s] at h
    refine vr_aload_n (pc := 111) hc dX6_readToken_111 rfl ?_
    refine vr_getI (pc := 112) hc dX6_readToken_112 fl_X6_29 gc_1 (gi_6_2 gc_1) ?_
    refine vr_aload_n (pc := 115) hc dX6_readToken_115 rfl ?_
    refine vr_getR (pc := 116) hc dX6_readToken_116 fl_X6_12 gc_1 (gr_6_0 gc_1).1 ?_
    refine vr_getI (pc := 119) hc dX6_readToken_119 fl_X6_52 ((gr_6_0 gc_1).2.1) (gi_5_0 ((gr_6_0 gc_1).2.1)) ?_
    refine vr_icmp_ge (pc := 122) hc 155 dX6_readToken_122 (by decide) (fun hb25 => ?_) (fun hb25 => ?_)
    · rw [if_pos hb25] at h
      refine vr_iconst (pc := 155) hc dX6_readToken_155 (1 : Int32) (by decide) ?_
      obtain ⟨rfl, rfl⟩ := vz_in2 h
      exact hret _ _ (vz_ret_i dX6_readToken_156 (by decide))
    · rw [if_neg hb25] at h
      refine vr_aload_n (pc := 125) hc dX6_readToken_125 rfl ?_
      refine vr_getR (pc := 126) hc dX6_readToken_126 fl_X6_12 gc_1 (gr_6_0 gc_1).1 ?_
      refine vr_aload_n (pc := 129) hc dX6_readToken_129 rfl ?_
      refine vr_getI (pc := 130) hc dX6_readToken_130 fl_X6_29 gc_1 (gi_6_2 gc_1) ?_
      obtain ⟨v27, he26, h⟩ := vz_b1e h
      refine vr_cVi (pc := 133) hc dX6_readToken_133 mt_X5_byteAt ml_X6_139 ((gr_6_0 gc_1).2.1) (w_X5_byteAt z μ.2.1 (σ 1 2) σ he26) rfl (by decide) rfl (Nat.le_of_ble_eq_true rfl) ?_
      refine vr_cSi (pc := 136) hc dX6_readToken_136 mt_X6_isLetter sx_X6_isLetter ml_X6_143  (w_X6_isLetter z μ.2.1 v27 σ rfl) rfl (by decide) rfl (Nat.le_of_ble_eq_true rfl) ?_
      refine vr_if_eq (pc := 139) hc 155 dX6_readToken_139 (by decide) (fun hb29 => ?_) (fun hb29 => ?_)
      · rw [if_pos hb29] at h
        refine vr_iconst (pc := 155) hc dX6_readToken_155 (1 : Int32) (by decide) ?_
        obtain ⟨rfl, rfl⟩ := vz_in2 h
        exact hret _ _ (vz_ret_i dX6_readToken_156 (by decide))
      · rw [if_neg hb29] at h
        refine vr_aload_n (pc := 142) hc dX6_readToken_142 rfl ?_
        refine vr_dup (pc := 143) hc dX6_readToken_143 rfl ?_
        refine vr_getI (pc := 144) hc dX6_readToken_144 fl_X6_29 gc_1 (gi_6_2 gc_1) ?_
        refine vr_iconst (pc := 147) hc dX6_readToken_147 (1 : Int32) (by decide) ?_
        refine vr_iadd (pc := 148) hc dX6_readToken_148 ?_
        refine vr_putI (pc := 149) hc dX6_readToken_149 fl_X6_29 gc_1 (gi_6_2 gc_1) rfl rfl ?_
        refine vr_goto (pc := 152) hc 111 dX6_readToken_152 (by decide) ?_
        exact vz_sub (ih  (vz_up σ 1 2 ((σ 1 2) + (1 : Int32)))  h) (vz_sb1 rfl vz_sb0)
def f_X6_readToken_43  (σ : vz_I) : Option (Int32 × vz_I) := vz_b1 (f_X5_byteAt ((vz_up σ 1 4 (σ 1 2)) 1 2) (vz_up σ 1 4 (σ 1 2))) (fun v3 => if v3 = (-4 : Int32) then some ((1 : Int32), vz_up (vz_up σ 1 4 (σ 1 2)) 1 3 (0 : Int32)) else if v3 = (59 : Int32) then vz_let (vz_up (vz_up (vz_up σ 1 4 (σ 1 2)) 1 3 (3 : Int32)) 1 2 (((vz_up (vz_up σ 1 4 (σ 1 2)) 1 3 (3 : Int32)) 1 2) + (1 : Int32))) (fun σ30 => some ((1 : Int32), σ30)) else if (f_X6_isLetter v3) = 0 then vz_let (vz_up (vz_up (vz_up σ 1 4 (σ 1 2)) 1 3 (2 : Int32)) 1 5 (0 : Int32)) (fun σ8 => f_X6_readToken_167 vz_fu σ8) else f_X6_readToken_111 vz_fu (vz_up (vz_up σ 1 4 (σ 1 2)) 1 3 (1 : Int32)))
set_option maxRecDepth 20000 in
set_option maxHeartbeats 1000000 in
theorem wn_X6_readToken_43 (z : vz_Z) (μ : vz_M) (hc : vz_C z μ cX6_readToken RX6 1 3) {r : Int32} {σ' : vz_I} (hret : ∀ (pc : Nat) (L : vz_L), vz_ret cX6_readToken (some .boolean) pc (some (.int r)) → vz_V z μ 0 0 pc L ((some (.int r)) : Option Value).toList vz_G0 σ' vz_N0)  (σ : vz_I)  (h : f_X6_readToken_43   σ = some (r, σ')) : vz_V z μ 0 0 43 [(0, some (.ref 1))] [] vz_G0 σ vz_N0 := by
  unfold f_X6_readToken_43 at h
  refine vr_aload_n (pc := 43) hc dX6_readToken_43 rfl ?_
  refine vr_aload_n (pc := 44) hc dX6_readToken_44 rfl ?_
  refine vr_getI (pc := 45) hc dX6_readToken_45 fl_X6_29 gc_1 (gi_6_2 gc_1) ?_
  refine vr_putI (pc := 48) hc dX6_readToken_48 fl_X6_62 gc_1 (gi_6_4 gc_1) rfl rfl ?_
  refine vr_aload_n (pc := 51) hc dX6_readToken_51 rfl ?_
  refine vr_getR (pc := 52) hc dX6_readToken_52 fl_X6_12 gc_1 (gr_6_0 gc_1).1 ?_
  refine vr_aload_n (pc := 55) hc dX6_readToken_55 rfl ?_
  refine vr_getI (pc := 56) hc dX6_readToken_56 fl_X6_29 gc_1 (gi_6_2 gc_1) ?_
  obtain ⟨v3, he2, h⟩ := vz_b1e h
  refine vr_cVi (pc := 59) hc dX6_readToken_59 mt_X5_byteAt ml_X6_139 ((gr_6_0 gc_1).2.1) (w_X5_byteAt z μ.2.1 ((vz_up σ 1 4 (σ 1 2)) 1 2) (vz_up σ 1 4 (σ 1 2)) he2) rfl (by decide) rfl (Nat.le_of_ble_eq_true rfl) ?_
  refine vr_istore_n (pc := 62) hc dX6_readToken_62 (by decide) rfl ?_
  refine vr_iload_n (pc := 63) hc dX6_readToken_63 rfl ?_
  refine vr_bipush (pc := 64) hc dX6_readToken_64 (-4 : Int32) (by decide) ?_
  refine vr_icmp_ne (pc := 66) hc 76 dX6_readToken_66 (by decide) (fun hb5 => ?_) (fun hb5 => ?_)
  · rw [if_neg hb5] at h
    refine vr_iload_n (pc := 76) hc dX6_readToken_76 rfl ?_
    refine vr_bipush (pc := 77) hc dX6_readToken_77 (59 : Int32) (by decide) ?_
    refine vr_icmp_ne (pc := 79) hc 99 dX6_readToken_79 (by decide) (fun hb6 => ?_) (fun hb6 => ?_)
    · rw [if_neg hb6] at h
      refine vr_iload_n (pc := 99) hc dX6_readToken_99 rfl ?_
      refine vr_cSi (pc := 100) hc dX6_readToken_100 mt_X6_isLetter sx_X6_isLetter ml_X6_143  (w_X6_isLetter z μ.2.1 v3 (vz_up σ 1 4 (σ 1 2)) rfl) rfl (by decide) rfl (Nat.le_of_ble_eq_true rfl) ?_
      refine vr_if_eq (pc := 103) hc 157 dX6_readToken_103 (by decide) (fun hb7 => ?_) (fun hb7 => ?_)
      · rw [if_pos hb7] at h
        refine vr_aload_n (pc := 157) hc dX6_readToken_157 rfl ?_
        refine vr_iconst (pc := 158) hc dX6_readToken_158 (2 : Int32) (by decide) ?_
        refine vr_putI (pc := 159) hc dX6_readToken_159 fl_X6_43 gc_1 (gi_6_3 gc_1) rfl rfl ?_
        refine vr_aload_n (pc := 162) hc dX6_readToken_162 rfl ?_
        refine vr_iconst (pc := 163) hc dX6_readToken_163 (0 : Int32) (by decide) ?_
        refine vr_putI (pc := 164) hc dX6_readToken_164 fl_X6_89 gc_1 (gi_6_5 gc_1) rfl rfl ?_
        obtain ⟨σ8, hσ9⟩ : ∃ x, x = vz_up (vz_up (vz_up σ 1 4 (σ 1 2)) 1 3 (2 : Int32)) 1 5 (0 : Int32) := ⟨_, rfl⟩
        rw [← hσ9] at h ⊢
        rw [vz_let_e] at h
        exact vz_sub (wn_X6_readToken_167 z μ hc hret vz_fu σ8 h) (vz_sb1 rfl vz_sb0)
      · rw [if_neg hb7] at h
        refine vr_aload_n (pc := 106) hc dX6_readToken_106 rfl ?_
        refine vr_iconst (pc := 107) hc dX6_readToken_107 (1 : Int32) (by decide) ?_
        refine vr_putI (pc := 108) hc dX6_readToken_108 fl_X6_43 gc_1 (gi_6_3 gc_1) rfl rfl ?_
        exact vz_sub (wn_X6_readToken_111 z μ hc hret vz_fu (vz_up (vz_up σ 1 4 (σ 1 2)) 1 3 (1 : Int32)) h) (vz_sb1 rfl vz_sb0)
    · rw [if_pos hb6] at h
      refine vr_aload_n (pc := 82) hc dX6_readToken_82 rfl ?_
      refine vr_iconst (pc := 83) hc dX6_readToken_83 (3 : Int32) (by decide) ?_
      refine vr_putI (pc := 84) hc dX6_readToken_84 fl_X6_43 gc_1 (gi_6_3 gc_1) rfl rfl ?_
      refine vr_aload_n (pc := 87) hc dX6_readToken_87 rfl ?_
      refine vr_dup (pc := 88) hc dX6_readToken_88 rfl ?_
      refine vr_getI (pc := 89) hc dX6_readToken_89 fl_X6_29 gc_1 (gi_6_2 gc_1) ?_
      refine vr_iconst (pc := 92) hc dX6_readToken_92 (1 : Int32) (by decide) ?_
      refine vr_iadd (pc := 93) hc dX6_readToken_93 ?_
      refine vr_putI (pc := 94) hc dX6_readToken_94 fl_X6_29 gc_1 (gi_6_2 gc_1) rfl rfl ?_
      obtain ⟨σ30, hσ31⟩ : ∃ x, x = vz_up (vz_up (vz_up σ 1 4 (σ 1 2)) 1 3 (3 : Int32)) 1 2 (((vz_up (vz_up σ 1 4 (σ 1 2)) 1 3 (3 : Int32)) 1 2) + (1 : Int32)) := ⟨_, rfl⟩
      rw [← hσ31] at h ⊢
      rw [vz_let_e] at h
      refine vr_iconst (pc := 97) hc dX6_readToken_97 (1 : Int32) (by decide) ?_
      obtain ⟨rfl, rfl⟩ := vz_in2 h
      exact hret _ _ (vz_ret_i dX6_readToken_98 (by decide))
  · rw [if_pos hb5] at h
    refine vr_aload_n (pc := 69) hc dX6_readToken_69 rfl ?_
    refine vr_iconst (pc := 70) hc dX6_readToken_70 (0 : Int32) (by decide) ?_
    refine vr_putI (pc := 71) hc dX6_readToken_71 fl_X6_43 gc_1 (gi_6_3 gc_1) rfl rfl ?_
    refine vr_iconst (pc := 74) hc dX6_readToken_74 (1 : Int32) (by decide) ?_
    obtain ⟨rfl, rfl⟩ := vz_in2 h
    exact hret _ _ (vz_ret_i dX6_readToken_75 (by decide))
def f_X6_readToken_0 : Nat → vz_I → Option (Int32 × vz_I)
  | 0, _ => none
  | n + 1, σ => if (σ 2 0) ≤ (σ 1 2) then f_X6_readToken_43 σ else vz_b1 (f_X5_byteAt (σ 1 2) σ) (fun v33 => if v33 = (32 : Int32) then f_X6_readToken_0 n  (vz_up σ 1 2 ((σ 1 2) + (1 : Int32))) else f_X6_readToken_43 σ)
theorem f_X6_readToken_0_s (n : Nat)  (σ : vz_I) : f_X6_readToken_0  (n + 1)  σ = if (σ 2 0) ≤ (σ 1 2) then f_X6_readToken_43 σ else vz_b1 (f_X5_byteAt (σ 1 2) σ) (fun v33 => if v33 = (32 : Int32) then f_X6_readToken_0 n  (vz_up σ 1 2 ((σ 1 2) + (1 : Int32))) else f_X6_readToken_43 σ) := rfl
set_option maxRecDepth 20000 in
set_option maxHeartbeats 1000000 in
theorem wn_X6_readToken_0 (z : vz_Z) (μ : vz_M) (hc : vz_C z μ cX6_readToken RX6 1 3) {r : Int32} {σ' : vz_I} (hret : ∀ (pc : Nat) (L : vz_L), vz_ret cX6_readToken (some .boolean) pc (some (.int r)) → vz_V z μ 0 0 pc L ((some (.int r)) : Option Value).toList vz_G0 σ' vz_N0) : ∀ (n : Nat)  (σ : vz_I)  (h : f_X6_readToken_0  n  σ = some (r, σ')), vz_V z μ 0 0 0 [(0, some (.ref 1))] [] vz_G0 σ vz_N0 := by
  intro n
  induction n with
  | zero =>
    intro σ h
    cases h
  | succ n ih =>
    intro σ h
    rw [f_X6_readToken_0_s] at h
    refine vr_aload_n (pc := 0) hc dX6_readToken_0 rfl ?_
    refine vr_getI (pc := 1) hc dX6_readToken_1 fl_X6_29 gc_1 (gi_6_2 gc_1) ?_
    refine vr_aload_n (pc := 4) hc dX6_readToken_4 rfl ?_
    refine vr_getR (pc := 5) hc dX6_readToken_5 fl_X6_12 gc_1 (gr_6_0 gc_1).1 ?_
    refine vr_getI (pc := 8) hc dX6_readToken_8 fl_X6_52 ((gr_6_0 gc_1).2.1) (gi_5_0 ((gr_6_0 gc_1).2.1)) ?_
    refine vr_icmp_ge (pc := 11) hc 43 dX6_readToken_11 (by decide) (fun hb1 => ?_) (fun hb1 => ?_)
    · rw [if_pos hb1] at h
      exact vz_sub (wn_X6_readToken_43 z μ hc hret σ h) (vz_sb1 rfl vz_sb0)
    · rw [if_neg hb1] at h
      refine vr_aload_n (pc := 14) hc dX6_readToken_14 rfl ?_
      refine vr_getR (pc := 15) hc dX6_readToken_15 fl_X6_12 gc_1 (gr_6_0 gc_1).1 ?_
      refine vr_aload_n (pc := 18) hc dX6_readToken_18 rfl ?_
      refine vr_getI (pc := 19) hc dX6_readToken_19 fl_X6_29 gc_1 (gi_6_2 gc_1) ?_
      obtain ⟨v33, he32, h⟩ := vz_b1e h
      refine vr_cVi (pc := 22) hc dX6_readToken_22 mt_X5_byteAt ml_X6_139 ((gr_6_0 gc_1).2.1) (w_X5_byteAt z μ.2.1 (σ 1 2) σ he32) rfl (by decide) rfl (Nat.le_of_ble_eq_true rfl) ?_
      refine vr_bipush (pc := 25) hc dX6_readToken_25 (32 : Int32) (by decide) ?_
      refine vr_icmp_ne (pc := 27) hc 43 dX6_readToken_27 (by decide) (fun hb35 => ?_) (fun hb35 => ?_)
      · rw [if_neg hb35] at h
        exact vz_sub (wn_X6_readToken_43 z μ hc hret σ h) (vz_sb1 rfl vz_sb0)
      · rw [if_pos hb35] at h
        refine vr_aload_n (pc := 30) hc dX6_readToken_30 rfl ?_
        refine vr_dup (pc := 31) hc dX6_readToken_31 rfl ?_
        refine vr_getI (pc := 32) hc dX6_readToken_32 fl_X6_29 gc_1 (gi_6_2 gc_1) ?_
        refine vr_iconst (pc := 35) hc dX6_readToken_35 (1 : Int32) (by decide) ?_
        refine vr_iadd (pc := 36) hc dX6_readToken_36 ?_
        refine vr_putI (pc := 37) hc dX6_readToken_37 fl_X6_29 gc_1 (gi_6_2 gc_1) rfl rfl ?_
        refine vr_goto (pc := 40) hc 0 dX6_readToken_40 (by decide) ?_
        exact vz_sub (ih  (vz_up σ 1 2 ((σ 1 2) + (1 : Int32)))  h) (vz_sb1 rfl vz_sb0)
def f_X6_readToken  (σ : vz_I) : Option (Int32 × vz_I) := f_X6_readToken_0 vz_fu σ
set_option maxRecDepth 20000 in
set_option maxHeartbeats 1000000 in
theorem w_X6_readToken (z : vz_Z) (l : Launch)  (σ : vz_I)  {r : Int32} {σ' : vz_I} (h : f_X6_readToken  σ = some (r, σ')) : vz_Con z l 1 yX6_readToken cX6_readToken 3 (some .boolean) [.ref 1] vz_G0 σ vz_N0 (some (.int r)) vz_G0 σ' vz_N0 0 0 := by
  refine vz_con (by decide) (Nat.le_of_ble_eq_true rfl) (fun μ hc hl hcap hret => ?_)
  subst hl
  unfold f_X6_readToken at h
  exact vz_sub (wn_X6_readToken_0 z μ hc hret vz_fu σ h) (vz_sb1 rfl vz_sb0)
-- X7_clear: depth 1, effects S=True W=True P=False
def f_X7_clear (a0 : Nat) (σ : vz_I) : vz_I := vz_let (vz_up (vz_up (vz_up σ a0 0 (0 : Int32)) a0 1 (0 : Int32)) a0 2 (0 : Int32)) (fun σ1 => f_X7_setRain a0 (0 : Int32) (0 : Int32) σ1)
set_option maxRecDepth 20000 in
set_option maxHeartbeats 1000000 in
theorem w_X7_clear (z : vz_Z) (l : Launch) (a0 : Nat) (σ : vz_I) (ha0 : (vz_G0 a0).1 = 7) {σ' : vz_I} (h : f_X7_clear a0 σ = σ') : vz_Con z l 1 yX7_clear cX7_clear 1 none [.ref a0] vz_G0 σ vz_N0 none vz_G0 σ' vz_N0 0 0 := by
  refine vz_con (by decide) (Nat.le_of_ble_eq_true rfl) (fun μ hc hl hcap hret => ?_)
  subst hl
  unfold f_X7_clear at h
  refine vr_aload_n (pc := 0) hc dX7_clear_0 rfl ?_
  refine vr_iconst (pc := 1) hc dX7_clear_1 (0 : Int32) (by decide) ?_
  refine vr_putI (pc := 2) hc dX7_clear_2 fl_X7_32 ha0 (gi_7_0 ha0) rfl rfl ?_
  refine vr_aload_n (pc := 5) hc dX7_clear_5 rfl ?_
  refine vr_iconst (pc := 6) hc dX7_clear_6 (0 : Int32) (by decide) ?_
  refine vr_putI (pc := 7) hc dX7_clear_7 fl_X7_36 ha0 (gi_7_1 ha0) rfl rfl ?_
  refine vr_aload_n (pc := 10) hc dX7_clear_10 rfl ?_
  refine vr_iconst (pc := 11) hc dX7_clear_11 (0 : Int32) (by decide) ?_
  refine vr_putI (pc := 12) hc dX7_clear_12 fl_X7_39 ha0 (gi_7_2 ha0) rfl rfl ?_
  obtain ⟨σ1, hσ2⟩ : ∃ x, x = vz_up (vz_up (vz_up σ a0 0 (0 : Int32)) a0 1 (0 : Int32)) a0 2 (0 : Int32) := ⟨_, rfl⟩
  rw [← hσ2] at h ⊢
  rw [vz_let_e] at h
  refine vr_aload_n (pc := 15) hc dX7_clear_15 rfl ?_
  refine vr_iconst (pc := 16) hc dX7_clear_16 (0 : Int32) (by decide) ?_
  refine vr_iconst (pc := 17) hc dX7_clear_17 (0 : Int32) (by decide) ?_
  refine vr_cVv (pc := 18) hc dX7_clear_18 mt_X7_setRain ml_X7_42 ha0 (w_X7_setRain z μ.2.1 a0 (0 : Int32) (0 : Int32) σ1 ha0 rfl) rfl (by decide) rfl (Nat.le_of_ble_eq_true rfl) ?_
  subst h
  exact hret _ _ (vz_ret_v dX7_clear_21)
-- X7_copyFrom: depth 1, effects S=True W=True P=True
def f_X7_copyFrom_100 : Nat → Nat → Nat → Int32 → vz_I → Option vz_I
  | 0, _, _, _, _ => none
  | n + 1, a0, a1, x2, σ => if (σ a0 1) ≤ x2 then some σ else if vz_in x2 9 then if vz_in x2 9 then vz_let (vz_up σ (a0 + 3) x2.toNatClampNeg (σ (a1 + 3) x2.toNatClampNeg)) (fun σ8 => if vz_in x2 9 then if vz_in x2 9 then vz_let (vz_up σ8 (a0 + 4) x2.toNatClampNeg (σ8 (a1 + 4) x2.toNatClampNeg)) (fun σ12 => f_X7_copyFrom_100 n a0 a1 (x2 + (1 : Int32)) σ12) else none else none) else none else none
theorem f_X7_copyFrom_100_s (n : Nat) (a0 : Nat) (a1 : Nat) (x2 : Int32) (σ : vz_I) : f_X7_copyFrom_100  (n + 1) a0 a1 x2 σ = if (σ a0 1) ≤ x2 then some σ else if vz_in x2 9 then if vz_in x2 9 then vz_let (vz_up σ (a0 + 3) x2.toNatClampNeg (σ (a1 + 3) x2.toNatClampNeg)) (fun σ8 => if vz_in x2 9 then if vz_in x2 9 then vz_let (vz_up σ8 (a0 + 4) x2.toNatClampNeg (σ8 (a1 + 4) x2.toNatClampNeg)) (fun σ12 => f_X7_copyFrom_100 n a0 a1 (x2 + (1 : Int32)) σ12) else none else none) else none else none := rfl
set_option maxRecDepth 20000 in
set_option maxHeartbeats 1000000 in
theorem wn_X7_copyFrom_100 (z : vz_Z) (μ : vz_M) (hc : vz_C z μ cX7_copyFrom RX7 1 3) {σ' : vz_I} (hret : ∀ (pc : Nat) (L : vz_L), vz_ret cX7_copyFrom none pc none → vz_V z μ 0 0 pc L (none : Option Value).toList vz_G0 σ' vz_N0) : ∀ (n : Nat) (a0 : Nat) (a1 : Nat) (x2 : Int32) (σ : vz_I) (ha0 : (vz_G0 a0).1 = 7) (ha1 : (vz_G0 a1).1 = 7) (h : f_X7_copyFrom_100  n a0 a1 x2 σ = some σ'), vz_V z μ 0 0 100 [(0, some (.ref a0)), (1, some (.ref a1)), (2, some (.int x2))] [] vz_G0 σ vz_N0 := by
  intro n
  induction n with
  | zero =>
    intro a0 a1 x2 σ ha0 ha1 h
    cases h
  | succ n ih =>
    intro a0 a1 x2 σ ha0 ha1 h
    rw [f_X7_copyFrom_100_s] at h
    refine vr_iload_n (pc := 100) hc dX7_copyFrom_100 rfl ?_
    refine vr_aload_n (pc := 101) hc dX7_copyFrom_101 rfl ?_
    refine vr_getI (pc := 102) hc dX7_copyFrom_102 fl_X7_36 ha0 (gi_7_1 ha0) ?_
    refine vr_icmp_ge (pc := 105) hc 138 dX7_copyFrom_105 (by decide) (fun hb5 => ?_) (fun hb5 => ?_)
    · rw [if_pos hb5] at h
      obtain rfl := Option.some.inj h
      exact hret _ _ (vz_ret_v dX7_copyFrom_138)
    · rw [if_neg hb5] at h
      refine vr_aload_n (pc := 108) hc dX7_copyFrom_108 rfl ?_
      refine vr_getR (pc := 109) hc dX7_copyFrom_109 fl_X7_23 ha0 (gr_7_7 ha0).1 ?_
      refine vr_iload_n (pc := 112) hc dX7_copyFrom_112 rfl ?_
      refine vr_aload_n (pc := 113) hc dX7_copyFrom_113 rfl ?_
      refine vr_getR (pc := 114) hc dX7_copyFrom_114 fl_X7_23 ha1 (gr_7_7 ha1).1 ?_
      refine vr_iload_n (pc := 117) hc dX7_copyFrom_117 rfl ?_
      have hb6 := vz_ifp h
      rw [if_pos hb6] at h
      refine vr_iald (pc := 118) hc 9 dX7_copyFrom_118 ((gr_7_7 ha1).2.1) ((gr_7_7 ha1).2.2) (vz_in_vp hb6) ?_
      have hb7 := vz_ifp h
      rw [if_pos hb7] at h
      refine vr_iast (pc := 119) hc 9 dX7_copyFrom_119 ((gr_7_7 ha0).2.1) ((gr_7_7 ha0).2.2) (vz_in_vp hb7) ?_
      obtain ⟨σ8, hσ9⟩ : ∃ x, x = vz_up σ (a0 + 3) x2.toNatClampNeg (σ (a1 + 3) x2.toNatClampNeg) := ⟨_, rfl⟩
      rw [← hσ9] at h ⊢
      rw [vz_let_e] at h
      refine vr_aload_n (pc := 120) hc dX7_copyFrom_120 rfl ?_
      refine vr_getR (pc := 121) hc dX7_copyFrom_121 fl_X7_27 ha0 (gr_7_8 ha0).1 ?_
      refine vr_iload_n (pc := 124) hc dX7_copyFrom_124 rfl ?_
      refine vr_aload_n (pc := 125) hc dX7_copyFrom_125 rfl ?_
      refine vr_getR (pc := 126) hc dX7_copyFrom_126 fl_X7_27 ha1 (gr_7_8 ha1).1 ?_
      refine vr_iload_n (pc := 129) hc dX7_copyFrom_129 rfl ?_
      have hb10 := vz_ifp h
      rw [if_pos hb10] at h
      refine vr_iald (pc := 130) hc 9 dX7_copyFrom_130 ((gr_7_8 ha1).2.1) ((gr_7_8 ha1).2.2) (vz_in_vp hb10) ?_
      have hb11 := vz_ifp h
      rw [if_pos hb11] at h
      refine vr_iast (pc := 131) hc 9 dX7_copyFrom_131 ((gr_7_8 ha0).2.1) ((gr_7_8 ha0).2.2) (vz_in_vp hb11) ?_
      obtain ⟨σ12, hσ13⟩ : ∃ x, x = vz_up σ8 (a0 + 4) x2.toNatClampNeg (σ8 (a1 + 4) x2.toNatClampNeg) := ⟨_, rfl⟩
      rw [← hσ13] at h ⊢
      rw [vz_let_e] at h
      refine vr_iinc (pc := 132) hc dX7_copyFrom_132 (1 : Int32) (by decide) rfl (by decide) rfl ?_
      refine vr_goto (pc := 135) hc 100 dX7_copyFrom_135 (by decide) ?_
      exact vz_sub (ih a0 a1 (x2 + (1 : Int32)) σ12 ha0 ha1 h) (vz_sb1 rfl (vz_sb1 rfl (vz_sb1 rfl vz_sb0)))
def f_X7_copyFrom_69 : Nat → Nat → Nat → Int32 → vz_I → Option vz_I
  | 0, _, _, _, _ => none
  | n + 1, a0, a1, x2, σ => if (σ a0 2) ≤ x2 then f_X7_copyFrom_100 vz_fu a0 a1 (0 : Int32) σ else if vz_in x2 4 then if vz_in x2 4 then f_X7_copyFrom_69 n a0 a1 (x2 + (1 : Int32)) (f_X3_copyFrom (a0 + 13 + x2.toNatClampNeg) (a1 + 13 + x2.toNatClampNeg) σ) else none else none
theorem f_X7_copyFrom_69_s (n : Nat) (a0 : Nat) (a1 : Nat) (x2 : Int32) (σ : vz_I) : f_X7_copyFrom_69  (n + 1) a0 a1 x2 σ = if (σ a0 2) ≤ x2 then f_X7_copyFrom_100 vz_fu a0 a1 (0 : Int32) σ else if vz_in x2 4 then if vz_in x2 4 then f_X7_copyFrom_69 n a0 a1 (x2 + (1 : Int32)) (f_X3_copyFrom (a0 + 13 + x2.toNatClampNeg) (a1 + 13 + x2.toNatClampNeg) σ) else none else none := rfl
set_option maxRecDepth 20000 in
set_option maxHeartbeats 1000000 in
theorem wn_X7_copyFrom_69 (z : vz_Z) (μ : vz_M) (hc : vz_C z μ cX7_copyFrom RX7 1 3) {σ' : vz_I} (hret : ∀ (pc : Nat) (L : vz_L), vz_ret cX7_copyFrom none pc none → vz_V z μ 0 0 pc L (none : Option Value).toList vz_G0 σ' vz_N0) : ∀ (n : Nat) (a0 : Nat) (a1 : Nat) (x2 : Int32) (σ : vz_I) (ha0 : (vz_G0 a0).1 = 7) (ha1 : (vz_G0 a1).1 = 7) (h : f_X7_copyFrom_69  n a0 a1 x2 σ = some σ'), vz_V z μ 0 0 69 [(0, some (.ref a0)), (1, some (.ref a1)), (2, some (.int x2))] [] vz_G0 σ vz_N0 := by
  intro n
  induction n with
  | zero =>
    intro a0 a1 x2 σ ha0 ha1 h
    cases h
  | succ n ih =>
    intro a0 a1 x2 σ ha0 ha1 h
    rw [f_X7_copyFrom_69_s] at h
    refine vr_iload_n (pc := 69) hc dX7_copyFrom_69 rfl ?_
    refine vr_aload_n (pc := 70) hc dX7_copyFrom_70 rfl ?_
    refine vr_getI (pc := 71) hc dX7_copyFrom_71 fl_X7_39 ha0 (gi_7_2 ha0) ?_
    refine vr_icmp_ge (pc := 74) hc 98 dX7_copyFrom_74 (by decide) (fun hb4 => ?_) (fun hb4 => ?_)
    · rw [if_pos hb4] at h
      refine vr_iconst (pc := 98) hc dX7_copyFrom_98 (0 : Int32) (by decide) ?_
      refine vr_istore_n (pc := 99) hc dX7_copyFrom_99 (by decide) rfl ?_
      exact vz_sub (wn_X7_copyFrom_100 z μ hc hret vz_fu a0 a1 (0 : Int32) σ ha0 ha1 h) (vz_sb1 rfl (vz_sb1 rfl (vz_sb1 rfl vz_sb0)))
    · rw [if_neg hb4] at h
      refine vr_aload_n (pc := 77) hc dX7_copyFrom_77 rfl ?_
      refine vr_getR (pc := 78) hc dX7_copyFrom_78 fl_X7_19 ha0 (gr_7_6 ha0).1 ?_
      refine vr_iload_n (pc := 81) hc dX7_copyFrom_81 rfl ?_
      have hb14 := vz_ifp h
      rw [if_pos hb14] at h
      refine vr_aald (pc := 82) hc 14 4 dX7_copyFrom_82 ((gr_7_6 ha0).2.1) (by decide) (by decide) ((gr_7_6 ha0).2.2) (vz_in_vp hb14) (ge_14 ha0 (vz_in_lt hb14)).1 ?_
      refine vr_aload_n (pc := 83) hc dX7_copyFrom_83 rfl ?_
      refine vr_getR (pc := 84) hc dX7_copyFrom_84 fl_X7_19 ha1 (gr_7_6 ha1).1 ?_
      refine vr_iload_n (pc := 87) hc dX7_copyFrom_87 rfl ?_
      have hb15 := vz_ifp h
      rw [if_pos hb15] at h
      refine vr_aald (pc := 88) hc 14 4 dX7_copyFrom_88 ((gr_7_6 ha1).2.1) (by decide) (by decide) ((gr_7_6 ha1).2.2) (vz_in_vp hb15) (ge_14 ha1 (vz_in_lt hb15)).1 ?_
      refine vr_cVv (pc := 89) hc dX7_copyFrom_89 mt_X3_copyFrom ml_X7_56 ((ge_14 ha0 (vz_in_lt hb14)).2) (w_X3_copyFrom z μ.2.1 (a0 + 13 + x2.toNatClampNeg) (a1 + 13 + x2.toNatClampNeg) σ ((ge_14 ha0 (vz_in_lt hb14)).2) ((ge_14 ha1 (vz_in_lt hb15)).2) rfl) rfl (by decide) rfl (Nat.le_of_ble_eq_true rfl) ?_
      refine vr_iinc (pc := 92) hc dX7_copyFrom_92 (1 : Int32) (by decide) rfl (by decide) rfl ?_
      refine vr_goto (pc := 95) hc 69 dX7_copyFrom_95 (by decide) ?_
      exact vz_sub (ih a0 a1 (x2 + (1 : Int32)) (f_X3_copyFrom (a0 + 13 + x2.toNatClampNeg) (a1 + 13 + x2.toNatClampNeg) σ) ha0 ha1 h) (vz_sb1 rfl (vz_sb1 rfl (vz_sb1 rfl vz_sb0)))
def f_X7_copyFrom_38 : Nat → Nat → Nat → Int32 → vz_I → Option vz_I
  | 0, _, _, _, _ => none
  | n + 1, a0, a1, x2, σ => if (σ a0 0) ≤ x2 then f_X7_copyFrom_69 vz_fu a0 a1 (0 : Int32) σ else if vz_in x2 4 then if vz_in x2 4 then vz_b1 (f_X0_copyFrom (a0 + 5 + 2 * x2.toNatClampNeg) (a1 + 5 + 2 * x2.toNatClampNeg) σ) (fun σ20 => f_X7_copyFrom_38 n a0 a1 (x2 + (1 : Int32)) σ20) else none else none
theorem f_X7_copyFrom_38_s (n : Nat) (a0 : Nat) (a1 : Nat) (x2 : Int32) (σ : vz_I) : f_X7_copyFrom_38  (n + 1) a0 a1 x2 σ = if (σ a0 0) ≤ x2 then f_X7_copyFrom_69 vz_fu a0 a1 (0 : Int32) σ else if vz_in x2 4 then if vz_in x2 4 then vz_b1 (f_X0_copyFrom (a0 + 5 + 2 * x2.toNatClampNeg) (a1 + 5 + 2 * x2.toNatClampNeg) σ) (fun σ20 => f_X7_copyFrom_38 n a0 a1 (x2 + (1 : Int32)) σ20) else none else none := rfl
set_option maxRecDepth 20000 in
set_option maxHeartbeats 1000000 in
theorem wn_X7_copyFrom_38 (z : vz_Z) (μ : vz_M) (hc : vz_C z μ cX7_copyFrom RX7 1 3) {σ' : vz_I} (hret : ∀ (pc : Nat) (L : vz_L), vz_ret cX7_copyFrom none pc none → vz_V z μ 0 0 pc L (none : Option Value).toList vz_G0 σ' vz_N0) : ∀ (n : Nat) (a0 : Nat) (a1 : Nat) (x2 : Int32) (σ : vz_I) (ha0 : (vz_G0 a0).1 = 7) (ha1 : (vz_G0 a1).1 = 7) (h : f_X7_copyFrom_38  n a0 a1 x2 σ = some σ'), vz_V z μ 0 0 38 [(0, some (.ref a0)), (1, some (.ref a1)), (2, some (.int x2))] [] vz_G0 σ vz_N0 := by
  intro n
  induction n with
  | zero =>
    intro a0 a1 x2 σ ha0 ha1 h
    cases h
  | succ n ih =>
    intro a0 a1 x2 σ ha0 ha1 h
    rw [f_X7_copyFrom_38_s] at h
    refine vr_iload_n (pc := 38) hc dX7_copyFrom_38 rfl ?_
    refine vr_aload_n (pc := 39) hc dX7_copyFrom_39 rfl ?_
    refine vr_getI (pc := 40) hc dX7_copyFrom_40 fl_X7_32 ha0 (gi_7_0 ha0) ?_
    refine vr_icmp_ge (pc := 43) hc 67 dX7_copyFrom_43 (by decide) (fun hb3 => ?_) (fun hb3 => ?_)
    · rw [if_pos hb3] at h
      refine vr_iconst (pc := 67) hc dX7_copyFrom_67 (0 : Int32) (by decide) ?_
      refine vr_istore_n (pc := 68) hc dX7_copyFrom_68 (by decide) rfl ?_
      exact vz_sub (wn_X7_copyFrom_69 z μ hc hret vz_fu a0 a1 (0 : Int32) σ ha0 ha1 h) (vz_sb1 rfl (vz_sb1 rfl (vz_sb1 rfl vz_sb0)))
    · rw [if_neg hb3] at h
      refine vr_aload_n (pc := 46) hc dX7_copyFrom_46 rfl ?_
      refine vr_getR (pc := 47) hc dX7_copyFrom_47 fl_X7_11 ha0 (gr_7_5 ha0).1 ?_
      refine vr_iload_n (pc := 50) hc dX7_copyFrom_50 rfl ?_
      have hb16 := vz_ifp h
      rw [if_pos hb16] at h
      refine vr_aald (pc := 51) hc 13 4 dX7_copyFrom_51 ((gr_7_5 ha0).2.1) (by decide) (by decide) ((gr_7_5 ha0).2.2) (vz_in_vp hb16) (ge_13 ha0 (vz_in_lt hb16)).1 ?_
      refine vr_aload_n (pc := 52) hc dX7_copyFrom_52 rfl ?_
      refine vr_getR (pc := 53) hc dX7_copyFrom_53 fl_X7_11 ha1 (gr_7_5 ha1).1 ?_
      refine vr_iload_n (pc := 56) hc dX7_copyFrom_56 rfl ?_
      have hb17 := vz_ifp h
      rw [if_pos hb17] at h
      refine vr_aald (pc := 57) hc 13 4 dX7_copyFrom_57 ((gr_7_5 ha1).2.1) (by decide) (by decide) ((gr_7_5 ha1).2.2) (vz_in_vp hb17) (ge_13 ha1 (vz_in_lt hb17)).1 ?_
      obtain ⟨σ20, he18, h⟩ := vz_b1e h
      refine vr_cVv (pc := 58) hc dX7_copyFrom_58 mt_X0_copyFrom ml_X7_52 ((ge_13 ha0 (vz_in_lt hb16)).2) (w_X0_copyFrom z μ.2.1 (a0 + 5 + 2 * x2.toNatClampNeg) (a1 + 5 + 2 * x2.toNatClampNeg) σ ((ge_13 ha0 (vz_in_lt hb16)).2) ((ge_13 ha1 (vz_in_lt hb17)).2) he18) rfl (by decide) rfl (Nat.le_of_ble_eq_true rfl) ?_
      refine vr_iinc (pc := 61) hc dX7_copyFrom_61 (1 : Int32) (by decide) rfl (by decide) rfl ?_
      refine vr_goto (pc := 64) hc 38 dX7_copyFrom_64 (by decide) ?_
      exact vz_sub (ih a0 a1 (x2 + (1 : Int32)) σ20 ha0 ha1 h) (vz_sb1 rfl (vz_sb1 rfl (vz_sb1 rfl vz_sb0)))
def f_X7_copyFrom (a0 : Nat) (a1 : Nat) (σ : vz_I) : Option vz_I := vz_let (vz_up (vz_up σ a0 0 (σ a1 0)) a0 1 ((vz_up σ a0 0 (σ a1 0)) a1 1)) (fun σ1 => f_X7_copyFrom_38 vz_fu a0 a1 (0 : Int32) (f_X7_setRain a0 ((vz_up σ1 a0 2 (σ1 a1 2)) a1 3) ((vz_up σ1 a0 2 (σ1 a1 2)) a1 4) (vz_up σ1 a0 2 (σ1 a1 2))))
set_option maxRecDepth 20000 in
set_option maxHeartbeats 1000000 in
theorem w_X7_copyFrom (z : vz_Z) (l : Launch) (a0 : Nat) (a1 : Nat) (σ : vz_I) (ha0 : (vz_G0 a0).1 = 7) (ha1 : (vz_G0 a1).1 = 7) {σ' : vz_I} (h : f_X7_copyFrom a0 a1 σ = some σ') : vz_Con z l 1 yX7_copyFrom cX7_copyFrom 3 none [.ref a0, .ref a1] vz_G0 σ vz_N0 none vz_G0 σ' vz_N0 0 0 := by
  refine vz_con (by decide) (Nat.le_of_ble_eq_true rfl) (fun μ hc hl hcap hret => ?_)
  subst hl
  unfold f_X7_copyFrom at h
  refine vr_aload_n (pc := 0) hc dX7_copyFrom_0 rfl ?_
  refine vr_aload_n (pc := 1) hc dX7_copyFrom_1 rfl ?_
  refine vr_getI (pc := 2) hc dX7_copyFrom_2 fl_X7_32 ha1 (gi_7_0 ha1) ?_
  refine vr_putI (pc := 5) hc dX7_copyFrom_5 fl_X7_32 ha0 (gi_7_0 ha0) rfl rfl ?_
  refine vr_aload_n (pc := 8) hc dX7_copyFrom_8 rfl ?_
  refine vr_aload_n (pc := 9) hc dX7_copyFrom_9 rfl ?_
  refine vr_getI (pc := 10) hc dX7_copyFrom_10 fl_X7_36 ha1 (gi_7_1 ha1) ?_
  refine vr_putI (pc := 13) hc dX7_copyFrom_13 fl_X7_36 ha0 (gi_7_1 ha0) rfl rfl ?_
  obtain ⟨σ1, hσ2⟩ : ∃ x, x = vz_up (vz_up σ a0 0 (σ a1 0)) a0 1 ((vz_up σ a0 0 (σ a1 0)) a1 1) := ⟨_, rfl⟩
  rw [← hσ2] at h ⊢
  rw [vz_let_e] at h
  refine vr_aload_n (pc := 16) hc dX7_copyFrom_16 rfl ?_
  refine vr_aload_n (pc := 17) hc dX7_copyFrom_17 rfl ?_
  refine vr_getI (pc := 18) hc dX7_copyFrom_18 fl_X7_39 ha1 (gi_7_2 ha1) ?_
  refine vr_putI (pc := 21) hc dX7_copyFrom_21 fl_X7_39 ha0 (gi_7_2 ha0) rfl rfl ?_
  refine vr_aload_n (pc := 24) hc dX7_copyFrom_24 rfl ?_
  refine vr_aload_n (pc := 25) hc dX7_copyFrom_25 rfl ?_
  refine vr_getI (pc := 26) hc dX7_copyFrom_26 fl_X7_46 ha1 (gi_7_3 ha1) ?_
  refine vr_aload_n (pc := 29) hc dX7_copyFrom_29 rfl ?_
  refine vr_getI (pc := 30) hc dX7_copyFrom_30 fl_X7_49 ha1 (gi_7_4 ha1) ?_
  refine vr_cVv (pc := 33) hc dX7_copyFrom_33 mt_X7_setRain ml_X7_42 ha0 (w_X7_setRain z μ.2.1 a0 ((vz_up σ1 a0 2 (σ1 a1 2)) a1 3) ((vz_up σ1 a0 2 (σ1 a1 2)) a1 4) (vz_up σ1 a0 2 (σ1 a1 2)) ha0 rfl) rfl (by decide) rfl (Nat.le_of_ble_eq_true rfl) ?_
  refine vr_iconst (pc := 36) hc dX7_copyFrom_36 (0 : Int32) (by decide) ?_
  refine vr_istore_n (pc := 37) hc dX7_copyFrom_37 (by decide) rfl ?_
  exact vz_sub (wn_X7_copyFrom_38 z μ hc hret vz_fu a0 a1 (0 : Int32) (f_X7_setRain a0 ((vz_up σ1 a0 2 (σ1 a1 2)) a1 3) ((vz_up σ1 a0 2 (σ1 a1 2)) a1 4) (vz_up σ1 a0 2 (σ1 a1 2))) ha0 ha1 h) (vz_sb1 rfl (vz_sb1 rfl (vz_sb1 rfl vz_sb0)))
-- X7_canWalk: depth 1, effects S=True W=False P=True
def f_X7_canWalk_35 (k2 : Nat → Nat → Int32 → Option Int32) (a0 : Nat) (a1 : Nat) (x2 : Int32) (xs0 : Int32) (σ : vz_I) : Option Int32 := if vz_in x2 4 then if vz_in xs0 4 then vz_b1 (f_X7_hasStreet a0 (σ (a1 + 1) x2.toNatClampNeg) (σ (a1 + 1) xs0.toNatClampNeg) σ) (fun v7 => if v7 = 0 then some (0 : Int32) else k2 a0 a1 (x2 + (1 : Int32))) else none else none
set_option maxRecDepth 20000 in
set_option maxHeartbeats 1000000 in
theorem wn_X7_canWalk_35 (z : vz_Z) (μ : vz_M) (hc : vz_C z μ cX7_canWalk RX7 1 4) {r : Int32} (σ : vz_I) (hret : ∀ (pc : Nat) (L : vz_L), vz_ret cX7_canWalk (some .boolean) pc (some (.int r)) → vz_V z μ 0 0 pc L ((some (.int r)) : Option Value).toList vz_G0 σ vz_N0) (k2 : Nat → Nat → Int32 → Option Int32) (hk2 : ∀ (a0 : Nat) (a1 : Nat) (x2 : Int32), (vz_G0 a0).1 = 7 → (vz_G0 a1).1 = 0 → k2 a0 a1 x2 = some r → vz_V z μ 0 0 2 [(0, some (.ref a0)), (1, some (.ref a1)), (2, some (.int x2))] [] vz_G0 σ vz_N0) (a0 : Nat) (a1 : Nat) (x2 : Int32) (xs0 : Int32) (ha0 : (vz_G0 a0).1 = 7) (ha1 : (vz_G0 a1).1 = 0) (h : f_X7_canWalk_35 k2 a0 a1 x2 xs0 σ = some r) : vz_V z μ 0 0 35 [(0, some (.ref a0)), (1, some (.ref a1)), (2, some (.int x2))] [.int xs0] vz_G0 σ vz_N0 := by
  unfold f_X7_canWalk_35 at h
  refine vr_istore_n (pc := 35) hc dX7_canWalk_35 (by decide) rfl ?_
  refine vr_aload_n (pc := 36) hc dX7_canWalk_36 rfl ?_
  refine vr_aload_n (pc := 37) hc dX7_canWalk_37 rfl ?_
  refine vr_getR (pc := 38) hc dX7_canWalk_38 fl_X7_65 ha1 (gr_0_3 ha1).1 ?_
  refine vr_iload_n (pc := 41) hc dX7_canWalk_41 rfl ?_
  have hb4 := vz_ifp h
  rw [if_pos hb4] at h
  refine vr_iald (pc := 42) hc 4 dX7_canWalk_42 ((gr_0_3 ha1).2.1) ((gr_0_3 ha1).2.2) (vz_in_vp hb4) ?_
  refine vr_aload_n (pc := 43) hc dX7_canWalk_43 rfl ?_
  refine vr_getR (pc := 44) hc dX7_canWalk_44 fl_X7_65 ha1 (gr_0_3 ha1).1 ?_
  refine vr_iload_n (pc := 47) hc dX7_canWalk_47 rfl ?_
  have hb5 := vz_ifp h
  rw [if_pos hb5] at h
  refine vr_iald (pc := 48) hc 4 dX7_canWalk_48 ((gr_0_3 ha1).2.1) ((gr_0_3 ha1).2.2) (vz_in_vp hb5) ?_
  obtain ⟨v7, he6, h⟩ := vz_b1e h
  refine vr_cVi (pc := 49) hc dX7_canWalk_49 mt_X7_hasStreet ml_X7_68 ha0 (w_X7_hasStreet z μ.2.1 a0 (σ (a1 + 1) x2.toNatClampNeg) (σ (a1 + 1) xs0.toNatClampNeg) σ ha0 he6) rfl (by decide) rfl (Nat.le_of_ble_eq_true rfl) ?_
  refine vr_if_ne (pc := 52) hc 57 dX7_canWalk_52 (by decide) (fun hb9 => ?_) (fun hb9 => ?_)
  · rw [if_neg hb9] at h
    refine vr_iinc (pc := 57) hc dX7_canWalk_57 (1 : Int32) (by decide) rfl (by decide) rfl ?_
    refine vr_goto (pc := 60) hc 2 dX7_canWalk_60 (by decide) ?_
    exact vz_sub (hk2 a0 a1 (x2 + (1 : Int32))  ha0 ha1 h) (vz_sb1 rfl (vz_sb1 rfl (vz_sb1 rfl vz_sb0)))
  · rw [if_pos hb9] at h
    refine vr_iconst (pc := 55) hc dX7_canWalk_55 (0 : Int32) (by decide) ?_
    obtain rfl := Option.some.inj h
    exact hret _ _ (vz_ret_i dX7_canWalk_56 (by decide))
def f_X7_canWalk_2 : Nat → Nat → Nat → Int32 → vz_I → Option Int32
  | 0, _, _, _, _ => none
  | n + 1, a0, a1, x2, σ => if (σ a1 2) ≤ (1 : Int32) then some (1 : Int32) else if (σ a1 2) ≤ x2 then some (1 : Int32) else if (σ a1 2) ≤ (x2 + (1 : Int32)) then f_X7_canWalk_35 (fun a0 a1 x2 => f_X7_canWalk_2 n a0 a1 x2 σ) a0 a1 x2 (0 : Int32) σ else f_X7_canWalk_35 (fun a0 a1 x2 => f_X7_canWalk_2 n a0 a1 x2 σ) a0 a1 x2 (x2 + (1 : Int32)) σ
theorem f_X7_canWalk_2_s (n : Nat) (a0 : Nat) (a1 : Nat) (x2 : Int32) (σ : vz_I) : f_X7_canWalk_2  (n + 1) a0 a1 x2 σ = if (σ a1 2) ≤ (1 : Int32) then some (1 : Int32) else if (σ a1 2) ≤ x2 then some (1 : Int32) else if (σ a1 2) ≤ (x2 + (1 : Int32)) then f_X7_canWalk_35 (fun a0 a1 x2 => f_X7_canWalk_2 n a0 a1 x2 σ) a0 a1 x2 (0 : Int32) σ else f_X7_canWalk_35 (fun a0 a1 x2 => f_X7_canWalk_2 n a0 a1 x2 σ) a0 a1 x2 (x2 + (1 : Int32)) σ := rfl
set_option maxRecDepth 20000 in
set_option maxHeartbeats 1000000 in
theorem wn_X7_canWalk_2 (z : vz_Z) (μ : vz_M) (hc : vz_C z μ cX7_canWalk RX7 1 4) {r : Int32} (σ : vz_I) (hret : ∀ (pc : Nat) (L : vz_L), vz_ret cX7_canWalk (some .boolean) pc (some (.int r)) → vz_V z μ 0 0 pc L ((some (.int r)) : Option Value).toList vz_G0 σ vz_N0) : ∀ (n : Nat) (a0 : Nat) (a1 : Nat) (x2 : Int32) (ha0 : (vz_G0 a0).1 = 7) (ha1 : (vz_G0 a1).1 = 0) (h : f_X7_canWalk_2  n a0 a1 x2 σ = some r), vz_V z μ 0 0 2 [(0, some (.ref a0)), (1, some (.ref a1)), (2, some (.int x2))] [] vz_G0 σ vz_N0 := by
  intro n
  induction n with
  | zero =>
    intro a0 a1 x2 ha0 ha1 h
    cases h
  | succ n ih =>
    intro a0 a1 x2 ha0 ha1 h
    rw [f_X7_canWalk_2_s] at h
    refine vr_aload_n (pc := 2) hc dX7_canWalk_2 rfl ?_
    refine vr_getI (pc := 3) hc dX7_canWalk_3 fl_X7_62 ha1 (gi_0_2 ha1) ?_
    refine vr_iconst (pc := 6) hc dX7_canWalk_6 (1 : Int32) (by decide) ?_
    refine vr_icmp_le (pc := 7) hc 63 dX7_canWalk_7 (by decide) (fun hb1 => ?_) (fun hb1 => ?_)
    · rw [if_pos hb1] at h
      refine vr_iconst (pc := 63) hc dX7_canWalk_63 (1 : Int32) (by decide) ?_
      obtain rfl := Option.some.inj h
      exact hret _ _ (vz_ret_i dX7_canWalk_64 (by decide))
    · rw [if_neg hb1] at h
      refine vr_iload_n (pc := 10) hc dX7_canWalk_10 rfl ?_
      refine vr_aload_n (pc := 11) hc dX7_canWalk_11 rfl ?_
      refine vr_getI (pc := 12) hc dX7_canWalk_12 fl_X7_62 ha1 (gi_0_2 ha1) ?_
      refine vr_icmp_ge (pc := 15) hc 63 dX7_canWalk_15 (by decide) (fun hb2 => ?_) (fun hb2 => ?_)
      · rw [if_pos hb2] at h
        refine vr_iconst (pc := 63) hc dX7_canWalk_63 (1 : Int32) (by decide) ?_
        obtain rfl := Option.some.inj h
        exact hret _ _ (vz_ret_i dX7_canWalk_64 (by decide))
      · rw [if_neg hb2] at h
        refine vr_iload_n (pc := 18) hc dX7_canWalk_18 rfl ?_
        refine vr_iconst (pc := 19) hc dX7_canWalk_19 (1 : Int32) (by decide) ?_
        refine vr_iadd (pc := 20) hc dX7_canWalk_20 ?_
        refine vr_aload_n (pc := 21) hc dX7_canWalk_21 rfl ?_
        refine vr_getI (pc := 22) hc dX7_canWalk_22 fl_X7_62 ha1 (gi_0_2 ha1) ?_
        refine vr_icmp_ge (pc := 25) hc 34 dX7_canWalk_25 (by decide) (fun hb3 => ?_) (fun hb3 => ?_)
        · rw [if_pos hb3] at h
          refine vr_iconst (pc := 34) hc dX7_canWalk_34 (0 : Int32) (by decide) ?_
          exact vz_sub (wn_X7_canWalk_35 z μ hc σ hret (fun a0 a1 x2 => f_X7_canWalk_2 n a0 a1 x2 σ) ih a0 a1 x2 (0 : Int32) ha0 ha1 h) (vz_sb1 rfl (vz_sb1 rfl (vz_sb1 rfl vz_sb0)))
        · rw [if_neg hb3] at h
          refine vr_iload_n (pc := 28) hc dX7_canWalk_28 rfl ?_
          refine vr_iconst (pc := 29) hc dX7_canWalk_29 (1 : Int32) (by decide) ?_
          refine vr_iadd (pc := 30) hc dX7_canWalk_30 ?_
          refine vr_goto (pc := 31) hc 35 dX7_canWalk_31 (by decide) ?_
          exact vz_sub (wn_X7_canWalk_35 z μ hc σ hret (fun a0 a1 x2 => f_X7_canWalk_2 n a0 a1 x2 σ) ih a0 a1 x2 (x2 + (1 : Int32)) ha0 ha1 h) (vz_sb1 rfl (vz_sb1 rfl (vz_sb1 rfl vz_sb0)))
def f_X7_canWalk (a0 : Nat) (a1 : Nat) (σ : vz_I) : Option Int32 := f_X7_canWalk_2 vz_fu a0 a1 (0 : Int32) σ
set_option maxRecDepth 20000 in
set_option maxHeartbeats 1000000 in
theorem w_X7_canWalk (z : vz_Z) (l : Launch) (a0 : Nat) (a1 : Nat) (σ : vz_I) (ha0 : (vz_G0 a0).1 = 7) (ha1 : (vz_G0 a1).1 = 0) {r : Int32} (h : f_X7_canWalk a0 a1 σ = some r) : vz_Con z l 1 yX7_canWalk cX7_canWalk 4 (some .boolean) [.ref a0, .ref a1] vz_G0 σ vz_N0 (some (.int r)) vz_G0 σ vz_N0 0 0 := by
  refine vz_con (by decide) (Nat.le_of_ble_eq_true rfl) (fun μ hc hl hcap hret => ?_)
  subst hl
  unfold f_X7_canWalk at h
  refine vr_iconst (pc := 0) hc dX7_canWalk_0 (0 : Int32) (by decide) ?_
  refine vr_istore_n (pc := 1) hc dX7_canWalk_1 (by decide) rfl ?_
  exact vz_sub (wn_X7_canWalk_2 z μ hc σ hret vz_fu a0 a1 (0 : Int32) ha0 ha1 h) (vz_sb1 rfl (vz_sb1 rfl (vz_sb1 rfl vz_sb0)))
-- X7_minutesOf: depth 1, effects S=True W=False P=False
def f_X7_minutesOf (a0 : Nat) (a1 : Nat) (σ : vz_I) : Int64 := vz_let ((((1 : Int64) <<< ((σ a0 4).toInt64 &&& 63)) - (1 : Int64)) <<< ((σ a0 3).toInt64 &&& 63)) (fun x1 => (f_X8_span (σ a1 1) (σ a1 2)) &&& (x1 ^^^ (-1 : Int64)))
set_option maxRecDepth 20000 in
set_option maxHeartbeats 1000000 in
theorem w_X7_minutesOf (z : vz_Z) (l : Launch) (a0 : Nat) (a1 : Nat) (σ : vz_I) (ha0 : (vz_G0 a0).1 = 7) (ha1 : (vz_G0 a1).1 = 3) {r : Int64} (h : f_X7_minutesOf a0 a1 σ = r) : vz_Con z l 1 yX7_minutesOf cX7_minutesOf 4 (some .long) [.ref a0, .ref a1] vz_G0 σ vz_N0 (some (.long r)) vz_G0 σ vz_N0 0 0 := by
  refine vz_con (by decide) (Nat.le_of_ble_eq_true rfl) (fun μ hc hl hcap hret => ?_)
  subst hl
  unfold f_X7_minutesOf at h
  refine vr_lconst (pc := 0) hc dX7_minutesOf_0 (1 : Int64) (by decide) ?_
  refine vr_aload_n (pc := 1) hc dX7_minutesOf_1 rfl ?_
  refine vr_getI (pc := 2) hc dX7_minutesOf_2 fl_X7_49 ha0 (gi_7_4 ha0) ?_
  refine vr_lshl (pc := 5) hc dX7_minutesOf_5 ?_
  refine vr_lconst (pc := 6) hc dX7_minutesOf_6 (1 : Int64) (by decide) ?_
  refine vr_lsub (pc := 7) hc dX7_minutesOf_7 ?_
  refine vr_aload_n (pc := 8) hc dX7_minutesOf_8 rfl ?_
  refine vr_getI (pc := 9) hc dX7_minutesOf_9 fl_X7_46 ha0 (gi_7_3 ha0) ?_
  refine vr_lshl (pc := 12) hc dX7_minutesOf_12 ?_
  obtain ⟨x1, hx2⟩ : ∃ x, x = (((1 : Int64) <<< ((σ a0 4).toInt64 &&& 63)) - (1 : Int64)) <<< ((σ a0 3).toInt64 &&& 63) := ⟨_, rfl⟩
  rw [← hx2] at h ⊢
  rw [vz_let_e] at h
  refine vr_lstore_n (pc := 13) hc dX7_minutesOf_13 (by decide) rfl ?_
  refine vr_aload_n (pc := 14) hc dX7_minutesOf_14 rfl ?_
  refine vr_getI (pc := 15) hc dX7_minutesOf_15 fl_X7_76 ha1 (gi_3_1 ha1) ?_
  refine vr_aload_n (pc := 18) hc dX7_minutesOf_18 rfl ?_
  refine vr_getI (pc := 19) hc dX7_minutesOf_19 fl_X7_79 ha1 (gi_3_2 ha1) ?_
  refine vr_cNj (pc := 22) hc dX7_minutesOf_22 mt_X8_span sx_X8_span ml_X7_82  (w_X8_span z μ.2.1 (σ a1 1) (σ a1 2) σ rfl) rfl (by decide) rfl (Nat.le_of_ble_eq_true rfl) ?_
  refine vr_lload_n (pc := 25) hc dX7_minutesOf_25 rfl ?_
  refine vr_ldc2 (pc := 26) hc dX7_minutesOf_26 (-1 : Int64) cl_X7_86 ?_
  refine vr_lxor (pc := 29) hc dX7_minutesOf_29 ?_
  refine vr_land (pc := 30) hc dX7_minutesOf_30 ?_
  subst h
  exact hret _ _ (vz_ret_l dX7_minutesOf_31)
-- X7_changePlanks: depth 1, effects S=True W=True P=True
def f_X7_changePlanks (a0 : Nat) (x1 : Int32) (x2 : Int32) (σ : vz_I) : Option vz_I := vz_b1 (f_X7_manAt a0 x1 σ) (fun v2 => vz_mo v2 (vz_b1 (f_X7_manAt a0 x2 σ) (fun v5 => vz_mo v5 (some σ) (fun a7 => some σ))) (fun a8 => vz_b1 (f_X7_manAt a0 x2 σ) (fun v10 => vz_mo v10 (some σ) (fun a12 => some (vz_up (vz_up σ a8 1 (σ a12 1)) a12 1 (σ a8 1))))))
set_option maxRecDepth 20000 in
set_option maxHeartbeats 1000000 in
theorem w_X7_changePlanks (z : vz_Z) (l : Launch) (a0 : Nat) (x1 : Int32) (x2 : Int32) (σ : vz_I) (ha0 : (vz_G0 a0).1 = 7) {σ' : vz_I} (h : f_X7_changePlanks a0 x1 x2 σ = some σ') : vz_Con z l 1 yX7_changePlanks cX7_changePlanks 6 none [.ref a0, .int x1, .int x2] vz_G0 σ vz_N0 none vz_G0 σ' vz_N0 0 0 := by
  refine vz_con (by decide) (Nat.le_of_ble_eq_true rfl) (fun μ hc hl hcap hret => ?_)
  subst hl
  unfold f_X7_changePlanks at h
  refine vr_aload_n (pc := 0) hc dX7_changePlanks_0 rfl ?_
  refine vr_iload_n (pc := 1) hc dX7_changePlanks_1 rfl ?_
  obtain ⟨v2, he1, h⟩ := vz_b1e h
  cases v2 with
  | none =>
    rw [vz_mo_n] at h
    refine vr_cVn (pc := 2) hc dX7_changePlanks_2 mt_X7_manAt ml_X7_131 ha0 (w_X7_manAt z μ.2.1 a0 x1 σ ha0 he1) rfl (by decide) rfl (Nat.le_of_ble_eq_true rfl) ?_
    refine vr_astoreN_n (pc := 5) hc dX7_changePlanks_5 (by decide) rfl ?_
    refine vr_aload_n (pc := 6) hc dX7_changePlanks_6 rfl ?_
    refine vr_iload_n (pc := 7) hc dX7_changePlanks_7 rfl ?_
    obtain ⟨v5, he4, h⟩ := vz_b1e h
    cases v5 with
    | none =>
      rw [vz_mo_n] at h
      refine vr_cVn (pc := 8) hc dX7_changePlanks_8 mt_X7_manAt ml_X7_131 ha0 (w_X7_manAt z μ.2.1 a0 x2 σ ha0 he4) rfl (by decide) rfl (Nat.le_of_ble_eq_true rfl) ?_
      refine vr_astoreN (pc := 11) hc dX7_changePlanks_11 (by decide) rfl ?_
      refine vr_aloadN_n (pc := 13) hc dX7_changePlanks_13 rfl ?_
      refine vr_ifnullN (pc := 14) hc 44 dX7_changePlanks_14 (by decide) ?_
      obtain rfl := Option.some.inj h
      exact hret _ _ (vz_ret_v dX7_changePlanks_44)
    | some a7 =>
      rw [vz_mo_s] at h
      refine vr_cVa (pc := 8) hc dX7_changePlanks_8 mt_X7_manAt ml_X7_131 ha0 (w_X7_manAt z μ.2.1 a0 x2 σ ha0 he4) rfl (by decide) rfl (Nat.le_of_ble_eq_true rfl) ?_
      refine vr_astore (pc := 11) hc dX7_changePlanks_11 (by decide) rfl ?_
      refine vr_aloadN_n (pc := 13) hc dX7_changePlanks_13 rfl ?_
      refine vr_ifnullN (pc := 14) hc 44 dX7_changePlanks_14 (by decide) ?_
      obtain rfl := Option.some.inj h
      exact hret _ _ (vz_ret_v dX7_changePlanks_44)
  | some a8 =>
    rw [vz_mo_s] at h
    refine vr_cVa (pc := 2) hc dX7_changePlanks_2 mt_X7_manAt ml_X7_131 ha0 (w_X7_manAt z μ.2.1 a0 x1 σ ha0 he1) rfl (by decide) rfl (Nat.le_of_ble_eq_true rfl) ?_
    refine vr_astore_n (pc := 5) hc dX7_changePlanks_5 (by decide) rfl ?_
    refine vr_aload_n (pc := 6) hc dX7_changePlanks_6 rfl ?_
    refine vr_iload_n (pc := 7) hc dX7_changePlanks_7 rfl ?_
    obtain ⟨v10, he9, h⟩ := vz_b1e h
    cases v10 with
    | none =>
      rw [vz_mo_n] at h
      refine vr_cVn (pc := 8) hc dX7_changePlanks_8 mt_X7_manAt ml_X7_131 ha0 (w_X7_manAt z μ.2.1 a0 x2 σ ha0 he9) rfl (by decide) rfl (Nat.le_of_ble_eq_true rfl) ?_
      refine vr_astoreN (pc := 11) hc dX7_changePlanks_11 (by decide) rfl ?_
      refine vr_aload_n (pc := 13) hc dX7_changePlanks_13 rfl ?_
      refine vr_ifnull (pc := 14) hc dX7_changePlanks_14 ?_
      refine vr_aloadN (pc := 17) hc dX7_changePlanks_17 rfl ?_
      refine vr_ifnullN (pc := 19) hc 44 dX7_changePlanks_19 (by decide) ?_
      obtain rfl := Option.some.inj h
      exact hret _ _ (vz_ret_v dX7_changePlanks_44)
    | some a12 =>
      rw [vz_mo_s] at h
      refine vr_cVa (pc := 8) hc dX7_changePlanks_8 mt_X7_manAt ml_X7_131 ha0 (w_X7_manAt z μ.2.1 a0 x2 σ ha0 he9) rfl (by decide) rfl (Nat.le_of_ble_eq_true rfl) ?_
      refine vr_astore (pc := 11) hc dX7_changePlanks_11 (by decide) rfl ?_
      refine vr_aload_n (pc := 13) hc dX7_changePlanks_13 rfl ?_
      refine vr_ifnull (pc := 14) hc dX7_changePlanks_14 ?_
      refine vr_aload (pc := 17) hc dX7_changePlanks_17 rfl ?_
      refine vr_ifnull (pc := 19) hc dX7_changePlanks_19 ?_
      refine vr_aload_n (pc := 22) hc dX7_changePlanks_22 rfl ?_
      refine vr_getI (pc := 23) hc dX7_changePlanks_23 fl_X7_98 (wc_X7_manAt ha0 he1) (gi_0_1 (wc_X7_manAt ha0 he1)) ?_
      refine vr_istore (pc := 26) hc dX7_changePlanks_26 (by decide) rfl ?_
      refine vr_aload_n (pc := 28) hc dX7_changePlanks_28 rfl ?_
      refine vr_aload (pc := 29) hc dX7_changePlanks_29 rfl ?_
      refine vr_getI (pc := 31) hc dX7_changePlanks_31 fl_X7_98 (wc_X7_manAt ha0 he9) (gi_0_1 (wc_X7_manAt ha0 he9)) ?_
      refine vr_putI (pc := 34) hc dX7_changePlanks_34 fl_X7_98 (wc_X7_manAt ha0 he1) (gi_0_1 (wc_X7_manAt ha0 he1)) rfl rfl ?_
      refine vr_aload (pc := 37) hc dX7_changePlanks_37 rfl ?_
      refine vr_iload (pc := 39) hc dX7_changePlanks_39 rfl ?_
      refine vr_putI (pc := 41) hc dX7_changePlanks_41 fl_X7_98 (wc_X7_manAt ha0 he9) (gi_0_1 (wc_X7_manAt ha0 he9)) rfl rfl ?_
      obtain rfl := Option.some.inj h
      exact hret _ _ (vz_ret_v dX7_changePlanks_44)
-- X8_feed: depth 1, effects S=True W=True P=True
def f_X8_feed (x1 : Int32) (σ : vz_I) : Option (Int32 × vz_I) := if (f_X8_isWithin x1 (0 : Int32) (127 : Int32)) = 0 then some ((-1 : Int32), σ) else vz_b2 (f_X5_append x1 σ) (fun v3 σ4 => if v3 = 0 then some ((-3 : Int32), σ4) else some (σ4 2 0, σ4))
set_option maxRecDepth 20000 in
set_option maxHeartbeats 1000000 in
theorem w_X8_feed (z : vz_Z) (l : Launch) (x1 : Int32) (σ : vz_I)  {r : Int32} {σ' : vz_I} (h : f_X8_feed x1 σ = some (r, σ')) : vz_Con z l 1 yX8_feed cX8_feed 2 (some .int) [.ref 0, .int x1] vz_G0 σ vz_N0 (some (.int r)) vz_G0 σ' vz_N0 0 0 := by
  refine vz_con (by decide) (Nat.le_of_ble_eq_true rfl) (fun μ hc hl hcap hret => ?_)
  subst hl
  unfold f_X8_feed at h
  refine vr_iload_n (pc := 0) hc dX8_feed_0 rfl ?_
  refine vr_iconst (pc := 1) hc dX8_feed_1 (0 : Int32) (by decide) ?_
  refine vr_bipush (pc := 2) hc dX8_feed_2 (127 : Int32) (by decide) ?_
  refine vr_cSi (pc := 4) hc dX8_feed_4 mt_X8_isWithin sx_X8_isWithin ml_X8_70  (w_X8_isWithin z μ.2.1 x1 (0 : Int32) (127 : Int32) σ rfl) rfl (by decide) rfl (Nat.le_of_ble_eq_true rfl) ?_
  refine vr_if_ne (pc := 7) hc 12 dX8_feed_7 (by decide) (fun hb1 => ?_) (fun hb1 => ?_)
  · rw [if_neg hb1] at h
    refine vr_aload_n (pc := 12) hc dX8_feed_12 rfl ?_
    refine vr_getR (pc := 13) hc dX8_feed_13 fl_X8_12 gc_0 (gr_8_0 gc_0).1 ?_
    refine vr_getR (pc := 16) hc dX8_feed_16 fl_X8_74 ((gr_8_0 gc_0).2.1) (gr_6_0 ((gr_8_0 gc_0).2.1)).1 ?_
    refine vr_iload_n (pc := 19) hc dX8_feed_19 rfl ?_
    obtain ⟨v3, σ4, he2, h⟩ := vz_b2e h
    refine vr_cVi (pc := 20) hc dX8_feed_20 mt_X5_append ml_X8_78 ((gr_6_0 ((gr_8_0 gc_0).2.1)).2.1) (w_X5_append z μ.2.1 x1 σ he2) rfl (by decide) rfl (Nat.le_of_ble_eq_true rfl) ?_
    refine vr_if_eq (pc := 23) hc 39 dX8_feed_23 (by decide) (fun hb5 => ?_) (fun hb5 => ?_)
    · rw [if_pos hb5] at h
      refine vr_bipush (pc := 39) hc dX8_feed_39 (-3 : Int32) (by decide) ?_
      obtain ⟨rfl, rfl⟩ := vz_in2 h
      exact hret _ _ (vz_ret_i dX8_feed_41 rfl)
    · rw [if_neg hb5] at h
      refine vr_aload_n (pc := 26) hc dX8_feed_26 rfl ?_
      refine vr_getR (pc := 27) hc dX8_feed_27 fl_X8_12 gc_0 (gr_8_0 gc_0).1 ?_
      refine vr_getR (pc := 30) hc dX8_feed_30 fl_X8_74 ((gr_8_0 gc_0).2.1) (gr_6_0 ((gr_8_0 gc_0).2.1)).1 ?_
      refine vr_getI (pc := 33) hc dX8_feed_33 fl_X8_84 ((gr_6_0 ((gr_8_0 gc_0).2.1)).2.1) (gi_5_0 ((gr_6_0 ((gr_8_0 gc_0).2.1)).2.1)) ?_
      refine vr_goto (pc := 36) hc 41 dX8_feed_36 (by decide) ?_
      obtain ⟨rfl, rfl⟩ := vz_in2 h
      exact hret _ _ (vz_ret_i dX8_feed_41 rfl)
  · rw [if_pos hb1] at h
    refine vr_iconst (pc := 10) hc dX8_feed_10 (-1 : Int32) (by decide) ?_
    obtain ⟨rfl, rfl⟩ := vz_in2 h
    exact hret _ _ (vz_ret_i dX8_feed_11 rfl)
-- X8_end: depth 1, effects S=True W=True P=False
def f_X8_end (x1 : Int32) (σ : vz_I) : Int32 × vz_I := if (f_X8_isWithin x1 (0 : Int32) (σ 2 0)) = 0 then ((-1 : Int32), σ) else (σ 2 0, vz_up σ 2 0 x1)
set_option maxRecDepth 20000 in
set_option maxHeartbeats 1000000 in
theorem w_X8_end (z : vz_Z) (l : Launch) (x1 : Int32) (σ : vz_I)  {r : Int32} {σ' : vz_I} (h : f_X8_end x1 σ = (r, σ')) : vz_Con z l 1 yX8_end cX8_end 3 (some .int) [.ref 0, .int x1] vz_G0 σ vz_N0 (some (.int r)) vz_G0 σ' vz_N0 0 0 := by
  refine vz_con (by decide) (Nat.le_of_ble_eq_true rfl) (fun μ hc hl hcap hret => ?_)
  subst hl
  unfold f_X8_end at h
  refine vr_aload_n (pc := 0) hc dX8_end_0 rfl ?_
  refine vr_getR (pc := 1) hc dX8_end_1 fl_X8_12 gc_0 (gr_8_0 gc_0).1 ?_
  refine vr_getR (pc := 4) hc dX8_end_4 fl_X8_74 ((gr_8_0 gc_0).2.1) (gr_6_0 ((gr_8_0 gc_0).2.1)).1 ?_
  refine vr_getI (pc := 7) hc dX8_end_7 fl_X8_84 ((gr_6_0 ((gr_8_0 gc_0).2.1)).2.1) (gi_5_0 ((gr_6_0 ((gr_8_0 gc_0).2.1)).2.1)) ?_
  refine vr_istore_n (pc := 10) hc dX8_end_10 (by decide) rfl ?_
  refine vr_iload_n (pc := 11) hc dX8_end_11 rfl ?_
  refine vr_iconst (pc := 12) hc dX8_end_12 (0 : Int32) (by decide) ?_
  refine vr_iload_n (pc := 13) hc dX8_end_13 rfl ?_
  refine vr_cSi (pc := 14) hc dX8_end_14 mt_X8_isWithin sx_X8_isWithin ml_X8_70  (w_X8_isWithin z μ.2.1 x1 (0 : Int32) (σ 2 0) σ rfl) rfl (by decide) rfl (Nat.le_of_ble_eq_true rfl) ?_
  refine vr_if_ne (pc := 17) hc 22 dX8_end_17 (by decide) (fun hb1 => ?_) (fun hb1 => ?_)
  · rw [if_neg hb1] at h
    refine vr_aload_n (pc := 22) hc dX8_end_22 rfl ?_
    refine vr_getR (pc := 23) hc dX8_end_23 fl_X8_12 gc_0 (gr_8_0 gc_0).1 ?_
    refine vr_getR (pc := 26) hc dX8_end_26 fl_X8_74 ((gr_8_0 gc_0).2.1) (gr_6_0 ((gr_8_0 gc_0).2.1)).1 ?_
    refine vr_iload_n (pc := 29) hc dX8_end_29 rfl ?_
    refine vr_putI (pc := 30) hc dX8_end_30 fl_X8_84 ((gr_6_0 ((gr_8_0 gc_0).2.1)).2.1) (gi_5_0 ((gr_6_0 ((gr_8_0 gc_0).2.1)).2.1)) rfl rfl ?_
    refine vr_iload_n (pc := 33) hc dX8_end_33 rfl ?_
    obtain ⟨rfl, rfl⟩ := vz_in3 h
    exact hret _ _ (vz_ret_i dX8_end_34 rfl)
  · rw [if_pos hb1] at h
    refine vr_iconst (pc := 20) hc dX8_end_20 (-1 : Int32) (by decide) ?_
    obtain ⟨rfl, rfl⟩ := vz_in3 h
    exact hret _ _ (vz_ret_i dX8_end_21 rfl)
-- X8_man: depth 1, effects S=True W=False P=True
def f_X8_man (x1 : Int32) (x2 : Int32) (σ : vz_I) : Option Int32 := vz_b1 (f_X7_manAt 21 x1 σ) (fun v2 => vz_mo v2 (some (-1 : Int32)) (fun a4 => if x2 = 0 then some (σ a4 0) else if x2 = 1 then some (σ a4 1) else if x2 = 2 then some (f_X0_pace a4 σ) else if x2 = 3 then some (σ a4 2) else if x2 = 4 then vz_b1 (f_X8_repeated (1 : Int64) (f_X0_pace a4 σ)) (fun v11 => some (f_J13_bitCount_95d88 v11)) else some (-1 : Int32)))
set_option maxRecDepth 20000 in
set_option maxHeartbeats 1000000 in
theorem w_X8_man (z : vz_Z) (l : Launch) (x1 : Int32) (x2 : Int32) (σ : vz_I)  {r : Int32} (h : f_X8_man x1 x2 σ = some r) : vz_Con z l 1 yX8_man cX8_man 4 (some .int) [.ref 0, .int x1, .int x2] vz_G0 σ vz_N0 (some (.int r)) vz_G0 σ vz_N0 0 0 := by
  refine vz_con (by decide) (Nat.le_of_ble_eq_true rfl) (fun μ hc hl hcap hret => ?_)
  subst hl
  unfold f_X8_man at h
  refine vr_aload_n (pc := 0) hc dX8_man_0 rfl ?_
  refine vr_getR (pc := 1) hc dX8_man_1 fl_X8_19 gc_0 (gr_8_1 gc_0).1 ?_
  refine vr_iload_n (pc := 4) hc dX8_man_4 rfl ?_
  obtain ⟨v2, he1, h⟩ := vz_b1e h
  cases v2 with
  | none =>
    rw [vz_mo_n] at h
    refine vr_cVn (pc := 5) hc dX8_man_5 mt_X7_manAt ml_X8_126 ((gr_8_1 gc_0).2.1) (w_X7_manAt z μ.2.1 21 x1 σ ((gr_8_1 gc_0).2.1) he1) rfl (by decide) rfl (Nat.le_of_ble_eq_true rfl) ?_
    refine vr_astoreN_n (pc := 8) hc dX8_man_8 (by decide) rfl ?_
    refine vr_aloadN_n (pc := 9) hc dX8_man_9 rfl ?_
    refine vr_ifnonnullN (pc := 10) hc dX8_man_10 ?_
    refine vr_iconst (pc := 13) hc dX8_man_13 (-1 : Int32) (by decide) ?_
    obtain rfl := Option.some.inj h
    exact hret _ _ (vz_ret_i dX8_man_14 rfl)
  | some a4 =>
    rw [vz_mo_s] at h
    refine vr_cVa (pc := 5) hc dX8_man_5 mt_X7_manAt ml_X8_126 ((gr_8_1 gc_0).2.1) (w_X7_manAt z μ.2.1 21 x1 σ ((gr_8_1 gc_0).2.1) he1) rfl (by decide) rfl (Nat.le_of_ble_eq_true rfl) ?_
    refine vr_astore_n (pc := 8) hc dX8_man_8 (by decide) rfl ?_
    refine vr_aload_n (pc := 9) hc dX8_man_9 rfl ?_
    refine vr_ifnonnull (pc := 10) hc 15 dX8_man_10 (by decide) ?_
    refine vr_iload_n (pc := 15) hc dX8_man_15 rfl ?_
    by_cases hb5 : x2 = 0
    · rw [if_pos hb5] at h
      refine vr_tableIn (pc := 16) hc _ 52 dX8_man_16 (by rw [hb5]; decide) (by rw [hb5]; decide) (off := 36) (by rw [hb5]; decide) (by decide) ?_
      refine vr_aload_n (pc := 52) hc dX8_man_52 rfl ?_
      refine vr_getI (pc := 53) hc dX8_man_53 fl_X8_130 (wc_X7_manAt ((gr_8_1 gc_0).2.1) he1) (gi_0_0 (wc_X7_manAt ((gr_8_1 gc_0).2.1) he1)) ?_
      obtain rfl := Option.some.inj h
      exact hret _ _ (vz_ret_i dX8_man_56 rfl)
    rw [if_neg hb5] at h
    by_cases hb6 : x2 = 1
    · rw [if_pos hb6] at h
      refine vr_tableIn (pc := 16) hc _ 57 dX8_man_16 (by rw [hb6]; decide) (by rw [hb6]; decide) (off := 41) (by rw [hb6]; decide) (by decide) ?_
      refine vr_aload_n (pc := 57) hc dX8_man_57 rfl ?_
      refine vr_getI (pc := 58) hc dX8_man_58 fl_X8_135 (wc_X7_manAt ((gr_8_1 gc_0).2.1) he1) (gi_0_1 (wc_X7_manAt ((gr_8_1 gc_0).2.1) he1)) ?_
      obtain rfl := Option.some.inj h
      exact hret _ _ (vz_ret_i dX8_man_61 rfl)
    rw [if_neg hb6] at h
    by_cases hb7 : x2 = 2
    · rw [if_pos hb7] at h
      refine vr_tableIn (pc := 16) hc _ 62 dX8_man_16 (by rw [hb7]; decide) (by rw [hb7]; decide) (off := 46) (by rw [hb7]; decide) (by decide) ?_
      refine vr_aload_n (pc := 62) hc dX8_man_62 rfl ?_
      refine vr_cVi (pc := 63) hc dX8_man_63 mt_X0_pace ml_X8_138 (wc_X7_manAt ((gr_8_1 gc_0).2.1) he1) (w_X0_pace z μ.2.1 a4 σ (wc_X7_manAt ((gr_8_1 gc_0).2.1) he1) rfl) rfl (by decide) rfl (Nat.le_of_ble_eq_true rfl) ?_
      obtain rfl := Option.some.inj h
      exact hret _ _ (vz_ret_i dX8_man_66 rfl)
    rw [if_neg hb7] at h
    by_cases hb8 : x2 = 3
    · rw [if_pos hb8] at h
      refine vr_tableIn (pc := 16) hc _ 67 dX8_man_16 (by rw [hb8]; decide) (by rw [hb8]; decide) (off := 51) (by rw [hb8]; decide) (by decide) ?_
      refine vr_aload_n (pc := 67) hc dX8_man_67 rfl ?_
      refine vr_getI (pc := 68) hc dX8_man_68 fl_X8_141 (wc_X7_manAt ((gr_8_1 gc_0).2.1) he1) (gi_0_2 (wc_X7_manAt ((gr_8_1 gc_0).2.1) he1)) ?_
      obtain rfl := Option.some.inj h
      exact hret _ _ (vz_ret_i dX8_man_71 rfl)
    rw [if_neg hb8] at h
    by_cases hb9 : x2 = 4
    · rw [if_pos hb9] at h
      refine vr_tableIn (pc := 16) hc _ 72 dX8_man_16 (by rw [hb9]; decide) (by rw [hb9]; decide) (off := 56) (by rw [hb9]; decide) (by decide) ?_
      refine vr_lconst (pc := 72) hc dX8_man_72 (1 : Int64) (by decide) ?_
      refine vr_aload_n (pc := 73) hc dX8_man_73 rfl ?_
      refine vr_cVi (pc := 74) hc dX8_man_74 mt_X0_pace ml_X8_138 (wc_X7_manAt ((gr_8_1 gc_0).2.1) he1) (w_X0_pace z μ.2.1 a4 σ (wc_X7_manAt ((gr_8_1 gc_0).2.1) he1) rfl) rfl (by decide) rfl (Nat.le_of_ble_eq_true rfl) ?_
      obtain ⟨v11, he10, h⟩ := vz_b1e h
      refine vr_cSj (pc := 77) hc dX8_man_77 mt_X8_repeated sx_X8_repeated ml_X8_144  (w_X8_repeated z μ.2.1 (1 : Int64) (f_X0_pace a4 σ) σ he10) rfl (by decide) rfl (Nat.le_of_ble_eq_true rfl) ?_
      refine vr_cSi (pc := 80) hc dX8_man_80 mt_J13_bitCount_95d88 sx_J13_bitCount_95d88 ml_X8_148  (w_J13_bitCount_95d88 z μ.2.1 v11 σ rfl) rfl (by decide) rfl (Nat.le_of_ble_eq_true rfl) ?_
      obtain rfl := Option.some.inj h
      exact hret _ _ (vz_ret_i dX8_man_83 rfl)
    rw [if_neg hb9] at h
    refine vr_tableOut (pc := 16) hc 84 dX8_man_16 (by have e0 := lv_neT hb5 (show (0 : Int32).toInt = 0 by decide); have e1 := lv_neT hb6 (show (1 : Int32).toInt = 1 by decide); have e2 := lv_neT hb7 (show (2 : Int32).toInt = 2 by decide); have e3 := lv_neT hb8 (show (3 : Int32).toInt = 3 by decide); have e4 := lv_neT hb9 (show (4 : Int32).toInt = 4 by decide); omega) (by decide) ?_
    refine vr_iconst (pc := 84) hc dX8_man_84 (-1 : Int32) (by decide) ?_
    obtain rfl := Option.some.inj h
    exact hret _ _ (vz_ret_i dX8_man_85 rfl)
-- X8_walk: depth 1, effects S=True W=False P=True
def f_X8_walk (x1 : Int32) (x2 : Int32) (σ : vz_I) : Option Int32 := vz_b1 (f_X7_manAt 21 x1 σ) (fun v2 => vz_mo v2 (some (-1 : Int32)) (fun a4 => if (f_X0_hasPlace a4 x2 σ) = 0 then some (-1 : Int32) else if vz_in x2 4 then some (σ (a4 + 1) x2.toNatClampNeg) else none))
set_option maxRecDepth 20000 in
set_option maxHeartbeats 1000000 in
theorem w_X8_walk (z : vz_Z) (l : Launch) (x1 : Int32) (x2 : Int32) (σ : vz_I)  {r : Int32} (h : f_X8_walk x1 x2 σ = some r) : vz_Con z l 1 yX8_walk cX8_walk 4 (some .int) [.ref 0, .int x1, .int x2] vz_G0 σ vz_N0 (some (.int r)) vz_G0 σ vz_N0 0 0 := by
  refine vz_con (by decide) (Nat.le_of_ble_eq_true rfl) (fun μ hc hl hcap hret => ?_)
  subst hl
  unfold f_X8_walk at h
  refine vr_aload_n (pc := 0) hc dX8_walk_0 rfl ?_
  refine vr_getR (pc := 1) hc dX8_walk_1 fl_X8_19 gc_0 (gr_8_1 gc_0).1 ?_
  refine vr_iload_n (pc := 4) hc dX8_walk_4 rfl ?_
  obtain ⟨v2, he1, h⟩ := vz_b1e h
  cases v2 with
  | none =>
    rw [vz_mo_n] at h
    refine vr_cVn (pc := 5) hc dX8_walk_5 mt_X7_manAt ml_X8_126 ((gr_8_1 gc_0).2.1) (w_X7_manAt z μ.2.1 21 x1 σ ((gr_8_1 gc_0).2.1) he1) rfl (by decide) rfl (Nat.le_of_ble_eq_true rfl) ?_
    refine vr_astoreN_n (pc := 8) hc dX8_walk_8 (by decide) rfl ?_
    refine vr_aloadN_n (pc := 9) hc dX8_walk_9 rfl ?_
    refine vr_ifnullN (pc := 10) hc 21 dX8_walk_10 (by decide) ?_
    refine vr_iconst (pc := 21) hc dX8_walk_21 (-1 : Int32) (by decide) ?_
    refine vr_goto (pc := 22) hc 31 dX8_walk_22 (by decide) ?_
    obtain rfl := Option.some.inj h
    exact hret _ _ (vz_ret_i dX8_walk_31 rfl)
  | some a4 =>
    rw [vz_mo_s] at h
    refine vr_cVa (pc := 5) hc dX8_walk_5 mt_X7_manAt ml_X8_126 ((gr_8_1 gc_0).2.1) (w_X7_manAt z μ.2.1 21 x1 σ ((gr_8_1 gc_0).2.1) he1) rfl (by decide) rfl (Nat.le_of_ble_eq_true rfl) ?_
    refine vr_astore_n (pc := 8) hc dX8_walk_8 (by decide) rfl ?_
    refine vr_aload_n (pc := 9) hc dX8_walk_9 rfl ?_
    refine vr_ifnull (pc := 10) hc dX8_walk_10 ?_
    refine vr_aload_n (pc := 13) hc dX8_walk_13 rfl ?_
    refine vr_iload_n (pc := 14) hc dX8_walk_14 rfl ?_
    refine vr_cVi (pc := 15) hc dX8_walk_15 mt_X0_hasPlace ml_X8_154 (wc_X7_manAt ((gr_8_1 gc_0).2.1) he1) (w_X0_hasPlace z μ.2.1 a4 x2 σ (wc_X7_manAt ((gr_8_1 gc_0).2.1) he1) rfl) rfl (by decide) rfl (Nat.le_of_ble_eq_true rfl) ?_
    refine vr_if_ne (pc := 18) hc 25 dX8_walk_18 (by decide) (fun hb5 => ?_) (fun hb5 => ?_)
    · rw [if_neg hb5] at h
      refine vr_aload_n (pc := 25) hc dX8_walk_25 rfl ?_
      refine vr_getR (pc := 26) hc dX8_walk_26 fl_X8_157 (wc_X7_manAt ((gr_8_1 gc_0).2.1) he1) (gr_0_3 (wc_X7_manAt ((gr_8_1 gc_0).2.1) he1)).1 ?_
      refine vr_iload_n (pc := 29) hc dX8_walk_29 rfl ?_
      have hb6 := vz_ifp h
      rw [if_pos hb6] at h
      refine vr_iald (pc := 30) hc 4 dX8_walk_30 ((gr_0_3 (wc_X7_manAt ((gr_8_1 gc_0).2.1) he1)).2.1) ((gr_0_3 (wc_X7_manAt ((gr_8_1 gc_0).2.1) he1)).2.2) (vz_in_vp hb6) ?_
      obtain rfl := Option.some.inj h
      exact hret _ _ (vz_ret_i dX8_walk_31 rfl)
    · rw [if_pos hb5] at h
      refine vr_iconst (pc := 21) hc dX8_walk_21 (-1 : Int32) (by decide) ?_
      refine vr_goto (pc := 22) hc 31 dX8_walk_22 (by decide) ?_
      obtain rfl := Option.some.inj h
      exact hret _ _ (vz_ret_i dX8_walk_31 rfl)
-- X8_street: depth 1, effects S=True W=False P=True
def f_X8_street (x1 : Int32) (x2 : Int32) (σ : vz_I) : Option Int32 := if (f_X8_isWithin x1 (0 : Int32) ((σ 21 1) - (1 : Int32))) = 0 then some (-1 : Int32) else if (f_X8_isEither x2) = 0 then some (-1 : Int32) else if x2 = 0 then if vz_in x1 9 then some (σ (21 + 3) x1.toNatClampNeg) else none else if vz_in x1 9 then some (σ (21 + 4) x1.toNatClampNeg) else none
set_option maxRecDepth 20000 in
set_option maxHeartbeats 1000000 in
theorem w_X8_street (z : vz_Z) (l : Launch) (x1 : Int32) (x2 : Int32) (σ : vz_I)  {r : Int32} (h : f_X8_street x1 x2 σ = some r) : vz_Con z l 1 yX8_street cX8_street 3 (some .int) [.ref 0, .int x1, .int x2] vz_G0 σ vz_N0 (some (.int r)) vz_G0 σ vz_N0 0 0 := by
  refine vz_con (by decide) (Nat.le_of_ble_eq_true rfl) (fun μ hc hl hcap hret => ?_)
  subst hl
  unfold f_X8_street at h
  refine vr_iload_n (pc := 0) hc dX8_street_0 rfl ?_
  refine vr_iconst (pc := 1) hc dX8_street_1 (0 : Int32) (by decide) ?_
  refine vr_aload_n (pc := 2) hc dX8_street_2 rfl ?_
  refine vr_getR (pc := 3) hc dX8_street_3 fl_X8_19 gc_0 (gr_8_1 gc_0).1 ?_
  refine vr_getI (pc := 6) hc dX8_street_6 fl_X8_110 ((gr_8_1 gc_0).2.1) (gi_7_1 ((gr_8_1 gc_0).2.1)) ?_
  refine vr_iconst (pc := 9) hc dX8_street_9 (1 : Int32) (by decide) ?_
  refine vr_isub (pc := 10) hc dX8_street_10 ?_
  refine vr_cSi (pc := 11) hc dX8_street_11 mt_X8_isWithin sx_X8_isWithin ml_X8_70  (w_X8_isWithin z μ.2.1 x1 (0 : Int32) ((σ 21 1) - (1 : Int32)) σ rfl) rfl (by decide) rfl (Nat.le_of_ble_eq_true rfl) ?_
  refine vr_if_eq (pc := 14) hc 24 dX8_street_14 (by decide) (fun hb1 => ?_) (fun hb1 => ?_)
  · rw [if_pos hb1] at h
    refine vr_iconst (pc := 24) hc dX8_street_24 (-1 : Int32) (by decide) ?_
    obtain rfl := Option.some.inj h
    exact hret _ _ (vz_ret_i dX8_street_25 rfl)
  · rw [if_neg hb1] at h
    refine vr_iload_n (pc := 17) hc dX8_street_17 rfl ?_
    refine vr_cSi (pc := 18) hc dX8_street_18 mt_X8_isEither sx_X8_isEither ml_X8_160  (w_X8_isEither z μ.2.1 x2 σ rfl) rfl (by decide) rfl (Nat.le_of_ble_eq_true rfl) ?_
    refine vr_if_ne (pc := 21) hc 26 dX8_street_21 (by decide) (fun hb2 => ?_) (fun hb2 => ?_)
    · rw [if_neg hb2] at h
      refine vr_iload_n (pc := 26) hc dX8_street_26 rfl ?_
      refine vr_if_ne (pc := 27) hc 42 dX8_street_27 (by decide) (fun hb3 => ?_) (fun hb3 => ?_)
      · rw [if_neg hb3] at h
        refine vr_aload_n (pc := 42) hc dX8_street_42 rfl ?_
        refine vr_getR (pc := 43) hc dX8_street_43 fl_X8_19 gc_0 (gr_8_1 gc_0).1 ?_
        refine vr_getR (pc := 46) hc dX8_street_46 fl_X8_166 ((gr_8_1 gc_0).2.1) (gr_7_8 ((gr_8_1 gc_0).2.1)).1 ?_
        refine vr_iload_n (pc := 49) hc dX8_street_49 rfl ?_
        have hb4 := vz_ifp h
        rw [if_pos hb4] at h
        refine vr_iald (pc := 50) hc 9 dX8_street_50 ((gr_7_8 ((gr_8_1 gc_0).2.1)).2.1) ((gr_7_8 ((gr_8_1 gc_0).2.1)).2.2) (vz_in_vp hb4) ?_
        obtain rfl := Option.some.inj h
        exact hret _ _ (vz_ret_i dX8_street_51 rfl)
      · rw [if_pos hb3] at h
        refine vr_aload_n (pc := 30) hc dX8_street_30 rfl ?_
        refine vr_getR (pc := 31) hc dX8_street_31 fl_X8_19 gc_0 (gr_8_1 gc_0).1 ?_
        refine vr_getR (pc := 34) hc dX8_street_34 fl_X8_163 ((gr_8_1 gc_0).2.1) (gr_7_7 ((gr_8_1 gc_0).2.1)).1 ?_
        refine vr_iload_n (pc := 37) hc dX8_street_37 rfl ?_
        have hb5 := vz_ifp h
        rw [if_pos hb5] at h
        refine vr_iald (pc := 38) hc 9 dX8_street_38 ((gr_7_7 ((gr_8_1 gc_0).2.1)).2.1) ((gr_7_7 ((gr_8_1 gc_0).2.1)).2.2) (vz_in_vp hb5) ?_
        refine vr_goto (pc := 39) hc 51 dX8_street_39 (by decide) ?_
        obtain rfl := Option.some.inj h
        exact hret _ _ (vz_ret_i dX8_street_51 rfl)
    · rw [if_pos hb2] at h
      refine vr_iconst (pc := 24) hc dX8_street_24 (-1 : Int32) (by decide) ?_
      obtain rfl := Option.some.inj h
      exact hret _ _ (vz_ret_i dX8_street_25 rfl)
-- X8_reader: depth 1, effects S=True W=False P=True
def f_X8_reader (x1 : Int32) (x2 : Int32) (σ : vz_I) : Option Int32 := vz_b1 (f_X7_readerAt 21 x1 σ) (fun v2 => vz_mo v2 (some (-1 : Int32)) (fun a4 => if x2 = 0 then some (σ a4 0) else if x2 = 1 then some (σ a4 1) else if x2 = 2 then some (σ a4 2) else some (-1 : Int32)))
set_option maxRecDepth 20000 in
set_option maxHeartbeats 1000000 in
theorem w_X8_reader (z : vz_Z) (l : Launch) (x1 : Int32) (x2 : Int32) (σ : vz_I)  {r : Int32} (h : f_X8_reader x1 x2 σ = some r) : vz_Con z l 1 yX8_reader cX8_reader 4 (some .int) [.ref 0, .int x1, .int x2] vz_G0 σ vz_N0 (some (.int r)) vz_G0 σ vz_N0 0 0 := by
  refine vz_con (by decide) (Nat.le_of_ble_eq_true rfl) (fun μ hc hl hcap hret => ?_)
  subst hl
  unfold f_X8_reader at h
  refine vr_aload_n (pc := 0) hc dX8_reader_0 rfl ?_
  refine vr_getR (pc := 1) hc dX8_reader_1 fl_X8_19 gc_0 (gr_8_1 gc_0).1 ?_
  refine vr_iload_n (pc := 4) hc dX8_reader_4 rfl ?_
  obtain ⟨v2, he1, h⟩ := vz_b1e h
  cases v2 with
  | none =>
    rw [vz_mo_n] at h
    refine vr_cVn (pc := 5) hc dX8_reader_5 mt_X7_readerAt ml_X8_169 ((gr_8_1 gc_0).2.1) (w_X7_readerAt z μ.2.1 21 x1 σ ((gr_8_1 gc_0).2.1) he1) rfl (by decide) rfl (Nat.le_of_ble_eq_true rfl) ?_
    refine vr_astoreN_n (pc := 8) hc dX8_reader_8 (by decide) rfl ?_
    refine vr_aloadN_n (pc := 9) hc dX8_reader_9 rfl ?_
    refine vr_ifnonnullN (pc := 10) hc dX8_reader_10 ?_
    refine vr_iconst (pc := 13) hc dX8_reader_13 (-1 : Int32) (by decide) ?_
    obtain rfl := Option.some.inj h
    exact hret _ _ (vz_ret_i dX8_reader_14 rfl)
  | some a4 =>
    rw [vz_mo_s] at h
    refine vr_cVa (pc := 5) hc dX8_reader_5 mt_X7_readerAt ml_X8_169 ((gr_8_1 gc_0).2.1) (w_X7_readerAt z μ.2.1 21 x1 σ ((gr_8_1 gc_0).2.1) he1) rfl (by decide) rfl (Nat.le_of_ble_eq_true rfl) ?_
    refine vr_astore_n (pc := 8) hc dX8_reader_8 (by decide) rfl ?_
    refine vr_aload_n (pc := 9) hc dX8_reader_9 rfl ?_
    refine vr_ifnonnull (pc := 10) hc 15 dX8_reader_10 (by decide) ?_
    refine vr_iload_n (pc := 15) hc dX8_reader_15 rfl ?_
    by_cases hb5 : x2 = 0
    · rw [if_pos hb5] at h
      refine vr_tableIn (pc := 16) hc _ 44 dX8_reader_16 (by rw [hb5]; decide) (by rw [hb5]; decide) (off := 28) (by rw [hb5]; decide) (by decide) ?_
      refine vr_aload_n (pc := 44) hc dX8_reader_44 rfl ?_
      refine vr_getI (pc := 45) hc dX8_reader_45 fl_X8_173 (wc_X7_readerAt ((gr_8_1 gc_0).2.1) he1) (gi_3_0 (wc_X7_readerAt ((gr_8_1 gc_0).2.1) he1)) ?_
      obtain rfl := Option.some.inj h
      exact hret _ _ (vz_ret_i dX8_reader_48 rfl)
    rw [if_neg hb5] at h
    by_cases hb6 : x2 = 1
    · rw [if_pos hb6] at h
      refine vr_tableIn (pc := 16) hc _ 49 dX8_reader_16 (by rw [hb6]; decide) (by rw [hb6]; decide) (off := 33) (by rw [hb6]; decide) (by decide) ?_
      refine vr_aload_n (pc := 49) hc dX8_reader_49 rfl ?_
      refine vr_getI (pc := 50) hc dX8_reader_50 fl_X8_176 (wc_X7_readerAt ((gr_8_1 gc_0).2.1) he1) (gi_3_1 (wc_X7_readerAt ((gr_8_1 gc_0).2.1) he1)) ?_
      obtain rfl := Option.some.inj h
      exact hret _ _ (vz_ret_i dX8_reader_53 rfl)
    rw [if_neg hb6] at h
    by_cases hb7 : x2 = 2
    · rw [if_pos hb7] at h
      refine vr_tableIn (pc := 16) hc _ 54 dX8_reader_16 (by rw [hb7]; decide) (by rw [hb7]; decide) (off := 38) (by rw [hb7]; decide) (by decide) ?_
      refine vr_aload_n (pc := 54) hc dX8_reader_54 rfl ?_
      refine vr_getI (pc := 55) hc dX8_reader_55 fl_X8_179 (wc_X7_readerAt ((gr_8_1 gc_0).2.1) he1) (gi_3_2 (wc_X7_readerAt ((gr_8_1 gc_0).2.1) he1)) ?_
      obtain rfl := Option.some.inj h
      exact hret _ _ (vz_ret_i dX8_reader_58 rfl)
    rw [if_neg hb7] at h
    refine vr_tableOut (pc := 16) hc 59 dX8_reader_16 (by have e0 := lv_neT hb5 (show (0 : Int32).toInt = 0 by decide); have e1 := lv_neT hb6 (show (1 : Int32).toInt = 1 by decide); have e2 := lv_neT hb7 (show (2 : Int32).toInt = 2 by decide); omega) (by decide) ?_
    refine vr_iconst (pc := 59) hc dX8_reader_59 (-1 : Int32) (by decide) ?_
    obtain rfl := Option.some.inj h
    exact hret _ _ (vz_ret_i dX8_reader_60 rfl)
-- X8_forget: depth 1, effects S=True W=True P=False
def f_X8_forget (x1 : Int32) (σ : vz_I) : Int32 × vz_I := if (f_X8_isWithin x1 (0 : Int32) (σ 57 0)) = 0 then ((-1 : Int32), σ) else (σ 57 0, vz_up σ 57 0 x1)
set_option maxRecDepth 20000 in
set_option maxHeartbeats 1000000 in
theorem w_X8_forget (z : vz_Z) (l : Launch) (x1 : Int32) (σ : vz_I)  {r : Int32} {σ' : vz_I} (h : f_X8_forget x1 σ = (r, σ')) : vz_Con z l 1 yX8_forget cX8_forget 3 (some .int) [.ref 0, .int x1] vz_G0 σ vz_N0 (some (.int r)) vz_G0 σ' vz_N0 0 0 := by
  refine vz_con (by decide) (Nat.le_of_ble_eq_true rfl) (fun μ hc hl hcap hret => ?_)
  subst hl
  unfold f_X8_forget at h
  refine vr_iload_n (pc := 0) hc dX8_forget_0 rfl ?_
  refine vr_iconst (pc := 1) hc dX8_forget_1 (0 : Int32) (by decide) ?_
  refine vr_aload_n (pc := 2) hc dX8_forget_2 rfl ?_
  refine vr_getR (pc := 3) hc dX8_forget_3 fl_X8_37 gc_0 (gr_8_5 gc_0).1 ?_
  refine vr_getI (pc := 6) hc dX8_forget_6 fl_X8_101 ((gr_8_5 gc_0).2.1) (gi_1_0 ((gr_8_5 gc_0).2.1)) ?_
  refine vr_cSi (pc := 9) hc dX8_forget_9 mt_X8_isWithin sx_X8_isWithin ml_X8_70  (w_X8_isWithin z μ.2.1 x1 (0 : Int32) (σ 57 0) σ rfl) rfl (by decide) rfl (Nat.le_of_ble_eq_true rfl) ?_
  refine vr_if_ne (pc := 12) hc 17 dX8_forget_12 (by decide) (fun hb1 => ?_) (fun hb1 => ?_)
  · rw [if_neg hb1] at h
    refine vr_aload_n (pc := 17) hc dX8_forget_17 rfl ?_
    refine vr_getR (pc := 18) hc dX8_forget_18 fl_X8_37 gc_0 (gr_8_5 gc_0).1 ?_
    refine vr_getI (pc := 21) hc dX8_forget_21 fl_X8_101 ((gr_8_5 gc_0).2.1) (gi_1_0 ((gr_8_5 gc_0).2.1)) ?_
    refine vr_istore_n (pc := 24) hc dX8_forget_24 (by decide) rfl ?_
    refine vr_aload_n (pc := 25) hc dX8_forget_25 rfl ?_
    refine vr_getR (pc := 26) hc dX8_forget_26 fl_X8_37 gc_0 (gr_8_5 gc_0).1 ?_
    refine vr_iload_n (pc := 29) hc dX8_forget_29 rfl ?_
    refine vr_putI (pc := 30) hc dX8_forget_30 fl_X8_101 ((gr_8_5 gc_0).2.1) (gi_1_0 ((gr_8_5 gc_0).2.1)) rfl rfl ?_
    refine vr_iload_n (pc := 33) hc dX8_forget_33 rfl ?_
    obtain ⟨rfl, rfl⟩ := vz_in3 h
    exact hret _ _ (vz_ret_i dX8_forget_34 rfl)
  · rw [if_pos hb1] at h
    refine vr_iconst (pc := 15) hc dX8_forget_15 (-1 : Int32) (by decide) ?_
    obtain ⟨rfl, rfl⟩ := vz_in3 h
    exact hret _ _ (vz_ret_i dX8_forget_16 rfl)
-- X8_count: depth 1, effects S=True W=False P=True
def f_X8_count_62 (xs0 : Int32) (σ : vz_I) : Option Int32 := if vz_in (1 : Int32) 2 then if (σ 56 (1 : Int32).toNatClampNeg) = 0 then some (xs0 + (0 : Int32)) else some (xs0 + (1 : Int32)) else none
set_option maxRecDepth 20000 in
set_option maxHeartbeats 1000000 in
theorem wn_X8_count_62 (z : vz_Z) (μ : vz_M) (hc : vz_C z μ cX8_count RX8 1 2) {r : Int32} (σ : vz_I) (hret : ∀ (pc : Nat) (L : vz_L), vz_ret cX8_count (some .int) pc (some (.int r)) → vz_V z μ 0 0 pc L ((some (.int r)) : Option Value).toList vz_G0 σ vz_N0) (xs0 : Int32)  (h : f_X8_count_62  xs0 σ = some r) : vz_V z μ 0 0 62 [(0, some (.ref 0))] [.int xs0] vz_G0 σ vz_N0 := by
  unfold f_X8_count_62 at h
  refine vr_aload_n (pc := 62) hc dX8_count_62 rfl ?_
  refine vr_getR (pc := 63) hc dX8_count_63 fl_X8_30 gc_0 (gr_8_4 gc_0).1 ?_
  refine vr_iconst (pc := 66) hc dX8_count_66 (1 : Int32) (by decide) ?_
  have hb5 := vz_ifp h
  rw [if_pos hb5] at h
  refine vr_zald (pc := 67) hc 2 dX8_count_67 ((gr_8_4 gc_0).2.1) ((gr_8_4 gc_0).2.2) (vz_in_vp hb5) ?_
  refine vr_if_eq (pc := 68) hc 75 dX8_count_68 (by decide) (fun hb6 => ?_) (fun hb6 => ?_)
  · rw [if_pos hb6] at h
    refine vr_iconst (pc := 75) hc dX8_count_75 (0 : Int32) (by decide) ?_
    refine vr_iadd (pc := 76) hc dX8_count_76 ?_
    obtain rfl := Option.some.inj h
    exact hret _ _ (vz_ret_i dX8_count_77 rfl)
  · rw [if_neg hb6] at h
    refine vr_iconst (pc := 71) hc dX8_count_71 (1 : Int32) (by decide) ?_
    refine vr_goto (pc := 72) hc 76 dX8_count_72 (by decide) ?_
    refine vr_iadd (pc := 76) hc dX8_count_76 ?_
    obtain rfl := Option.some.inj h
    exact hret _ _ (vz_ret_i dX8_count_77 rfl)
def f_X8_count (x1 : Int32) (σ : vz_I) : Option Int32 := if x1 = 0 then some (σ 57 0) else if x1 = 1 then if vz_in (0 : Int32) 2 then if (σ 56 (0 : Int32).toNatClampNeg) = 0 then f_X8_count_62 (0 : Int32) σ else f_X8_count_62 (1 : Int32) σ else none else if x1 = 2 then some (σ 2 0) else if x1 = 3 then if vz_in (0 : Int32) 4 then if (σ (100 + 2 * (0 : Int32).toNatClampNeg) 0) = (-4 : Int32) then some (-4 : Int32) else if vz_in (0 : Int32) 4 then some (σ (100 + 2 * (0 : Int32).toNatClampNeg) 1) else none else none else if x1 = 4 then vz_b1 (f_X7_cornersOfAllWalks 21 σ) (fun v14 => some v14) else if x1 = 5 then vz_b1 (f_X7_minutesOfAllReaders 21 σ) (fun v18 => some v18) else some (-1 : Int32)
set_option maxRecDepth 20000 in
set_option maxHeartbeats 1000000 in
theorem w_X8_count (z : vz_Z) (l : Launch) (x1 : Int32) (σ : vz_I)  {r : Int32} (h : f_X8_count x1 σ = some r) : vz_Con z l 1 yX8_count cX8_count 2 (some .int) [.ref 0, .int x1] vz_G0 σ vz_N0 (some (.int r)) vz_G0 σ vz_N0 0 0 := by
  refine vz_con (by decide) (Nat.le_of_ble_eq_true rfl) (fun μ hc hl hcap hret => ?_)
  subst hl
  unfold f_X8_count at h
  refine vr_iload_n (pc := 0) hc dX8_count_0 rfl ?_
  by_cases hb1 : x1 = 0
  · rw [if_pos hb1] at h
    refine vr_tableIn (pc := 1) hc _ 40 dX8_count_1 (by rw [hb1]; decide) (by rw [hb1]; decide) (off := 39) (by rw [hb1]; decide) (by decide) ?_
    refine vr_aload_n (pc := 40) hc dX8_count_40 rfl ?_
    refine vr_getR (pc := 41) hc dX8_count_41 fl_X8_37 gc_0 (gr_8_5 gc_0).1 ?_
    refine vr_getI (pc := 44) hc dX8_count_44 fl_X8_101 ((gr_8_5 gc_0).2.1) (gi_1_0 ((gr_8_5 gc_0).2.1)) ?_
    obtain rfl := Option.some.inj h
    exact hret _ _ (vz_ret_i dX8_count_47 rfl)
  rw [if_neg hb1] at h
  by_cases hb2 : x1 = 1
  · rw [if_pos hb2] at h
    refine vr_tableIn (pc := 1) hc _ 48 dX8_count_1 (by rw [hb2]; decide) (by rw [hb2]; decide) (off := 47) (by rw [hb2]; decide) (by decide) ?_
    refine vr_aload_n (pc := 48) hc dX8_count_48 rfl ?_
    refine vr_getR (pc := 49) hc dX8_count_49 fl_X8_30 gc_0 (gr_8_4 gc_0).1 ?_
    refine vr_iconst (pc := 52) hc dX8_count_52 (0 : Int32) (by decide) ?_
    have hb3 := vz_ifp h
    rw [if_pos hb3] at h
    refine vr_zald (pc := 53) hc 2 dX8_count_53 ((gr_8_4 gc_0).2.1) ((gr_8_4 gc_0).2.2) (vz_in_vp hb3) ?_
    refine vr_if_eq (pc := 54) hc 61 dX8_count_54 (by decide) (fun hb4 => ?_) (fun hb4 => ?_)
    · rw [if_pos hb4] at h
      refine vr_iconst (pc := 61) hc dX8_count_61 (0 : Int32) (by decide) ?_
      exact vz_sub (wn_X8_count_62 z μ hc σ hret (0 : Int32) h) (vz_sb1 rfl vz_sb0)
    · rw [if_neg hb4] at h
      refine vr_iconst (pc := 57) hc dX8_count_57 (1 : Int32) (by decide) ?_
      refine vr_goto (pc := 58) hc 62 dX8_count_58 (by decide) ?_
      exact vz_sub (wn_X8_count_62 z μ hc σ hret (1 : Int32) h) (vz_sb1 rfl vz_sb0)
  rw [if_neg hb2] at h
  by_cases hb7 : x1 = 2
  · rw [if_pos hb7] at h
    refine vr_tableIn (pc := 1) hc _ 78 dX8_count_1 (by rw [hb7]; decide) (by rw [hb7]; decide) (off := 77) (by rw [hb7]; decide) (by decide) ?_
    refine vr_aload_n (pc := 78) hc dX8_count_78 rfl ?_
    refine vr_getR (pc := 79) hc dX8_count_79 fl_X8_12 gc_0 (gr_8_0 gc_0).1 ?_
    refine vr_getR (pc := 82) hc dX8_count_82 fl_X8_74 ((gr_8_0 gc_0).2.1) (gr_6_0 ((gr_8_0 gc_0).2.1)).1 ?_
    refine vr_getI (pc := 85) hc dX8_count_85 fl_X8_84 ((gr_6_0 ((gr_8_0 gc_0).2.1)).2.1) (gi_5_0 ((gr_6_0 ((gr_8_0 gc_0).2.1)).2.1)) ?_
    obtain rfl := Option.some.inj h
    exact hret _ _ (vz_ret_i dX8_count_88 rfl)
  rw [if_neg hb7] at h
  by_cases hb8 : x1 = 3
  · rw [if_pos hb8] at h
    refine vr_tableIn (pc := 1) hc _ 89 dX8_count_1 (by rw [hb8]; decide) (by rw [hb8]; decide) (off := 88) (by rw [hb8]; decide) (by decide) ?_
    refine vr_aload_n (pc := 89) hc dX8_count_89 rfl ?_
    refine vr_getR (pc := 90) hc dX8_count_90 fl_X8_43 gc_0 (gr_8_6 gc_0).1 ?_
    refine vr_iconst (pc := 93) hc dX8_count_93 (0 : Int32) (by decide) ?_
    have hb9 := vz_ifp h
    rw [if_pos hb9] at h
    refine vr_aald (pc := 94) hc 15 4 dX8_count_94 ((gr_8_6 gc_0).2.1) (by decide) (by decide) ((gr_8_6 gc_0).2.2) (vz_in_vp hb9) (ge_15 gc_0 (vz_in_lt hb9)).1 ?_
    refine vr_getI (pc := 95) hc dX8_count_95 fl_X8_326 ((ge_15 gc_0 (vz_in_lt hb9)).2) (gi_4_0 ((ge_15 gc_0 (vz_in_lt hb9)).2)) ?_
    refine vr_bipush (pc := 98) hc dX8_count_98 (-4 : Int32) (by decide) ?_
    refine vr_icmp_ne (pc := 100) hc 108 dX8_count_100 (by decide) (fun hb10 => ?_) (fun hb10 => ?_)
    · rw [if_neg hb10] at h
      refine vr_aload_n (pc := 108) hc dX8_count_108 rfl ?_
      refine vr_getR (pc := 109) hc dX8_count_109 fl_X8_43 gc_0 (gr_8_6 gc_0).1 ?_
      refine vr_iconst (pc := 112) hc dX8_count_112 (0 : Int32) (by decide) ?_
      have hb11 := vz_ifp h
      rw [if_pos hb11] at h
      refine vr_aald (pc := 113) hc 15 4 dX8_count_113 ((gr_8_6 gc_0).2.1) (by decide) (by decide) ((gr_8_6 gc_0).2.2) (vz_in_vp hb11) (ge_15 gc_0 (vz_in_lt hb11)).1 ?_
      refine vr_getI (pc := 114) hc dX8_count_114 fl_X8_349 ((ge_15 gc_0 (vz_in_lt hb11)).2) (gi_4_1 ((ge_15 gc_0 (vz_in_lt hb11)).2)) ?_
      obtain rfl := Option.some.inj h
      exact hret _ _ (vz_ret_i dX8_count_117 rfl)
    · rw [if_pos hb10] at h
      refine vr_bipush (pc := 103) hc dX8_count_103 (-4 : Int32) (by decide) ?_
      refine vr_goto (pc := 105) hc 117 dX8_count_105 (by decide) ?_
      obtain rfl := Option.some.inj h
      exact hret _ _ (vz_ret_i dX8_count_117 rfl)
  rw [if_neg hb8] at h
  by_cases hb12 : x1 = 4
  · rw [if_pos hb12] at h
    refine vr_tableIn (pc := 1) hc _ 118 dX8_count_1 (by rw [hb12]; decide) (by rw [hb12]; decide) (off := 117) (by rw [hb12]; decide) (by decide) ?_
    refine vr_aload_n (pc := 118) hc dX8_count_118 rfl ?_
    refine vr_getR (pc := 119) hc dX8_count_119 fl_X8_19 gc_0 (gr_8_1 gc_0).1 ?_
    obtain ⟨v14, he13, h⟩ := vz_b1e h
    refine vr_cVi (pc := 122) hc dX8_count_122 mt_X7_cornersOfAllWalks ml_X8_352 ((gr_8_1 gc_0).2.1) (w_X7_cornersOfAllWalks z μ.2.1 21 σ ((gr_8_1 gc_0).2.1) he13) rfl (by decide) rfl (Nat.le_of_ble_eq_true rfl) ?_
    obtain rfl := Option.some.inj h
    exact hret _ _ (vz_ret_i dX8_count_125 rfl)
  rw [if_neg hb12] at h
  by_cases hb16 : x1 = 5
  · rw [if_pos hb16] at h
    refine vr_tableIn (pc := 1) hc _ 126 dX8_count_1 (by rw [hb16]; decide) (by rw [hb16]; decide) (off := 125) (by rw [hb16]; decide) (by decide) ?_
    refine vr_aload_n (pc := 126) hc dX8_count_126 rfl ?_
    refine vr_getR (pc := 127) hc dX8_count_127 fl_X8_19 gc_0 (gr_8_1 gc_0).1 ?_
    obtain ⟨v18, he17, h⟩ := vz_b1e h
    refine vr_cVi (pc := 130) hc dX8_count_130 mt_X7_minutesOfAllReaders ml_X8_355 ((gr_8_1 gc_0).2.1) (w_X7_minutesOfAllReaders z μ.2.1 21 σ ((gr_8_1 gc_0).2.1) he17) rfl (by decide) rfl (Nat.le_of_ble_eq_true rfl) ?_
    obtain rfl := Option.some.inj h
    exact hret _ _ (vz_ret_i dX8_count_133 rfl)
  rw [if_neg hb16] at h
  refine vr_tableOut (pc := 1) hc 134 dX8_count_1 (by have e0 := lv_neT hb1 (show (0 : Int32).toInt = 0 by decide); have e1 := lv_neT hb2 (show (1 : Int32).toInt = 1 by decide); have e2 := lv_neT hb7 (show (2 : Int32).toInt = 2 by decide); have e3 := lv_neT hb8 (show (3 : Int32).toInt = 3 by decide); have e4 := lv_neT hb12 (show (4 : Int32).toInt = 4 by decide); have e5 := lv_neT hb16 (show (5 : Int32).toInt = 5 by decide); omega) (by decide) ?_
  refine vr_iconst (pc := 134) hc dX8_count_134 (-1 : Int32) (by decide) ?_
  obtain rfl := Option.some.inj h
  exact hret _ _ (vz_ret_i dX8_count_135 rfl)
