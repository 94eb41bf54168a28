-- X6_readMan: depth 3, effects S=True W=True P=True
def f_X6_readMan (x1 : Int32) (σ : vz_I) : Option (Int32 × vz_I) := vz_b2 (f_X7_addMan 4 x1 σ) (fun v2 σ3 => vz_mo v2 (vz_c2 (f_X6_refuse (5 : Int32) (σ3 1 4) σ3) (fun v5 σ6 => if v5 = 0 ∨ v5 = 1 then some (v5, σ6) else none)) (fun a8 => vz_b2 (f_X6_takeNumber (0 : Int32) (9 : Int32) σ3) (fun v10 σ11 => if v10 = 0 then some ((0 : Int32), σ11) else vz_b2 (f_X6_takeNumber (0 : Int32) (7 : Int32) (vz_up σ11 a8 1 (σ11 1 5))) (fun v14 σ15 => if v14 = 0 then some ((0 : Int32), σ15) else vz_b2 (f_X0_addCorner a8 (σ15 1 5) σ15) (fun v18 σ19 => vz_b2 (f_X6_readRestOfWalk a8 σ19) (fun v21 σ22 => if v21 = 0 ∨ v21 = 1 then some (v21, σ22) else none))))))
set_option maxRecDepth 20000 in
set_option maxHeartbeats 1000000 in
theorem w_X6_readMan (z : vz_Z) (l : Launch) (x1 : Int32) (σ : vz_I)  {r : Int32} {σ' : vz_I} (h : f_X6_readMan x1 σ = some (r, σ')) : vz_Con z l 3 yX6_readMan cX6_readMan 3 (some .boolean) [.ref 1, .int x1] vz_G0 σ vz_N0 (some (.int r)) vz_G0 σ' vz_N0 0 0 := by
  refine vz_con (by decide) (Nat.le_of_ble_eq_true rfl) (fun μ hc hl hcap hret => ?_)
  subst hl
  unfold f_X6_readMan at h
  refine vr_aload_n (pc := 0) hc dX6_readMan_0 rfl ?_
  refine vr_getR (pc := 1) hc dX6_readMan_1 fl_X6_21 gc_1 (gr_6_1 gc_1).1 ?_
  refine vr_iload_n (pc := 4) hc dX6_readMan_4 rfl ?_
  obtain ⟨v2, σ3, he1, h⟩ := vz_b2e h
  cases v2 with
  | none =>
    rw [vz_mo_n] at h
    refine vr_cVn (pc := 5) hc dX6_readMan_5 mt_X7_addMan ml_X6_82 ((gr_6_1 gc_1).2.1) (w_X7_addMan z μ.2.1 4 x1 σ ((gr_6_1 gc_1).2.1) he1) rfl (by decide) rfl (Nat.le_of_ble_eq_true rfl) ?_
    refine vr_astoreN_n (pc := 8) hc dX6_readMan_8 (by decide) rfl ?_
    refine vr_aloadN_n (pc := 9) hc dX6_readMan_9 rfl ?_
    refine vr_ifnonnullN (pc := 10) hc dX6_readMan_10 ?_
    refine vr_aload_n (pc := 13) hc dX6_readMan_13 rfl ?_
    refine vr_iconst (pc := 14) hc dX6_readMan_14 (5 : Int32) (by decide) ?_
    refine vr_aload_n (pc := 15) hc dX6_readMan_15 rfl ?_
    refine vr_getI (pc := 16) hc dX6_readMan_16 fl_X6_62 gc_1 (gi_6_4 gc_1) ?_
    obtain ⟨v5, σ6, he4⟩ : ∃ x s, f_X6_refuse (5 : Int32) (σ3 1 4) σ3 = (x, s) := ⟨_, _, rfl⟩
    rw [he4] at h
    rw [vz_c2_e] at h
    refine vr_cVi (pc := 19) hc dX6_readMan_19 mt_X6_refuse ml_X6_55 gc_1 (w_X6_refuse z μ.2.1 (5 : Int32) (σ3 1 4) σ3 he4) rfl (by decide) rfl (Nat.le_of_ble_eq_true rfl) ?_
    have hb7 := vz_ifp h
    rw [if_pos hb7] at h
    obtain ⟨rfl, rfl⟩ := vz_in2 h
    exact hret _ _ (vz_ret_i dX6_readMan_22 (vz_bn hb7))
  | some a8 =>
    rw [vz_mo_s] at h
    refine vr_cVa (pc := 5) hc dX6_readMan_5 mt_X7_addMan ml_X6_82 ((gr_6_1 gc_1).2.1) (w_X7_addMan z μ.2.1 4 x1 σ ((gr_6_1 gc_1).2.1) he1) rfl (by decide) rfl (Nat.le_of_ble_eq_true rfl) ?_
    refine vr_astore_n (pc := 8) hc dX6_readMan_8 (by decide) rfl ?_
    refine vr_aload_n (pc := 9) hc dX6_readMan_9 rfl ?_
    refine vr_ifnonnull (pc := 10) hc 23 dX6_readMan_10 (by decide) ?_
    refine vr_aload_n (pc := 23) hc dX6_readMan_23 rfl ?_
    refine vr_iconst (pc := 24) hc dX6_readMan_24 (0 : Int32) (by decide) ?_
    refine vr_bipush (pc := 25) hc dX6_readMan_25 (9 : Int32) (by decide) ?_
    obtain ⟨v10, σ11, he9, h⟩ := vz_b2e h
    refine vr_cVi (pc := 27) hc dX6_readMan_27 mt_X6_takeNumber ml_X6_86 gc_1 (w_X6_takeNumber z μ.2.1 (0 : Int32) (9 : Int32) σ3 he9) rfl (by decide) rfl (Nat.le_of_ble_eq_true rfl) ?_
    refine vr_if_ne (pc := 30) hc 35 dX6_readMan_30 (by decide) (fun hb12 => ?_) (fun hb12 => ?_)
    · rw [if_neg hb12] at h
      refine vr_aload_n (pc := 35) hc dX6_readMan_35 rfl ?_
      refine vr_aload_n (pc := 36) hc dX6_readMan_36 rfl ?_
      refine vr_getI (pc := 37) hc dX6_readMan_37 fl_X6_89 gc_1 (gi_6_5 gc_1) ?_
      refine vr_putI (pc := 40) hc dX6_readMan_40 fl_X6_92 (wc_X7_addMan ((gr_6_1 gc_1).2.1) he1) (gi_0_1 (wc_X7_addMan ((gr_6_1 gc_1).2.1) he1)) rfl rfl ?_
      refine vr_aload_n (pc := 43) hc dX6_readMan_43 rfl ?_
      refine vr_iconst (pc := 44) hc dX6_readMan_44 (0 : Int32) (by decide) ?_
      refine vr_bipush (pc := 45) hc dX6_readMan_45 (7 : Int32) (by decide) ?_
      obtain ⟨v14, σ15, he13, h⟩ := vz_b2e h
      refine vr_cVi (pc := 47) hc dX6_readMan_47 mt_X6_takeNumber ml_X6_86 gc_1 (w_X6_takeNumber z μ.2.1 (0 : Int32) (7 : Int32) (vz_up σ11 a8 1 (σ11 1 5)) he13) rfl (by decide) rfl (Nat.le_of_ble_eq_true rfl) ?_
      refine vr_if_ne (pc := 50) hc 55 dX6_readMan_50 (by decide) (fun hb16 => ?_) (fun hb16 => ?_)
      · rw [if_neg hb16] at h
        refine vr_aload_n (pc := 55) hc dX6_readMan_55 rfl ?_
        refine vr_aload_n (pc := 56) hc dX6_readMan_56 rfl ?_
        refine vr_getI (pc := 57) hc dX6_readMan_57 fl_X6_89 gc_1 (gi_6_5 gc_1) ?_
        obtain ⟨v18, σ19, he17, h⟩ := vz_b2e h
        refine vr_cVi (pc := 60) hc dX6_readMan_60 mt_X0_addCorner ml_X6_97 (wc_X7_addMan ((gr_6_1 gc_1).2.1) he1) (w_X0_addCorner z μ.2.1 a8 (σ15 1 5) σ15 (wc_X7_addMan ((gr_6_1 gc_1).2.1) he1) he17) rfl (by decide) rfl (Nat.le_of_ble_eq_true rfl) ?_
        refine vr_pop (pc := 63) hc dX6_readMan_63 rfl ?_
        refine vr_aload_n (pc := 64) hc dX6_readMan_64 rfl ?_
        refine vr_aload_n (pc := 65) hc dX6_readMan_65 rfl ?_
        obtain ⟨v21, σ22, he20, h⟩ := vz_b2e h
        refine vr_cVi (pc := 66) hc dX6_readMan_66 mt_X6_readRestOfWalk ml_X6_100 gc_1 (w_X6_readRestOfWalk z μ.2.1 a8 σ19 (wc_X7_addMan ((gr_6_1 gc_1).2.1) he1) he20) rfl (by decide) rfl (Nat.le_of_ble_eq_true rfl) ?_
        have hb23 := vz_ifp h
        rw [if_pos hb23] at h
        obtain ⟨rfl, rfl⟩ := vz_in2 h
        exact hret _ _ (vz_ret_i dX6_readMan_69 (vz_bn hb23))
      · rw [if_pos hb16] at h
        refine vr_iconst (pc := 53) hc dX6_readMan_53 (0 : Int32) (by decide) ?_
        obtain ⟨rfl, rfl⟩ := vz_in2 h
        exact hret _ _ (vz_ret_i dX6_readMan_54 (by decide))
    · rw [if_pos hb12] at h
      refine vr_iconst (pc := 33) hc dX6_readMan_33 (0 : Int32) (by decide) ?_
      obtain ⟨rfl, rfl⟩ := vz_in2 h
      exact hret _ _ (vz_ret_i dX6_readMan_34 (by decide))
-- X6_readStreet: depth 3, effects S=True W=True P=True
def f_X6_readStreet  (σ : vz_I) : Option (Int32 × vz_I) := if (σ 4 1) < (9 : Int32) then vz_b2 (f_X6_takeNumber (0 : Int32) (7 : Int32) σ) (fun v3 σ4 => if v3 = 0 then some ((0 : Int32), σ4) else vz_b2 (f_X6_takeNumber (0 : Int32) (7 : Int32) σ4) (fun v7 σ8 => if v7 = 0 then some ((0 : Int32), σ8) else if (σ8 1 5) = (σ4 1 5) then vz_c2 (f_X6_refuse (3 : Int32) (σ8 1 4) σ8) (fun v19 σ20 => if v19 = 0 ∨ v19 = 1 then some (v19, σ20) else none) else vz_b2 (f_X7_addStreet 4 (σ4 1 5) (σ8 1 5) σ8) (fun v12 σ13 => vz_b2 (f_X6_takeSemicolon  σ13) (fun v15 σ16 => if v15 = 0 ∨ v15 = 1 then some (v15, σ16) else none)))) else vz_c2 (f_X6_refuse (5 : Int32) (σ 1 4) σ) (fun v23 σ24 => if v23 = 0 ∨ v23 = 1 then some (v23, σ24) else none)
set_option maxRecDepth 20000 in
set_option maxHeartbeats 1000000 in
theorem w_X6_readStreet (z : vz_Z) (l : Launch)  (σ : vz_I)  {r : Int32} {σ' : vz_I} (h : f_X6_readStreet  σ = some (r, σ')) : vz_Con z l 3 yX6_readStreet cX6_readStreet 2 (some .boolean) [.ref 1] vz_G0 σ vz_N0 (some (.int r)) vz_G0 σ' vz_N0 0 0 := by
  refine vz_con (by decide) (Nat.le_of_ble_eq_true rfl) (fun μ hc hl hcap hret => ?_)
  subst hl
  unfold f_X6_readStreet at h
  refine vr_aload_n (pc := 0) hc dX6_readStreet_0 rfl ?_
  refine vr_getR (pc := 1) hc dX6_readStreet_1 fl_X6_21 gc_1 (gr_6_1 gc_1).1 ?_
  refine vr_getI (pc := 4) hc dX6_readStreet_4 fl_X6_107 ((gr_6_1 gc_1).2.1) (gi_7_1 ((gr_6_1 gc_1).2.1)) ?_
  refine vr_bipush (pc := 7) hc dX6_readStreet_7 (9 : Int32) (by decide) ?_
  refine vr_icmp_lt (pc := 9) hc 22 dX6_readStreet_9 (by decide) (fun hb1 => ?_) (fun hb1 => ?_)
  · rw [if_pos hb1] at h
    refine vr_aload_n (pc := 22) hc dX6_readStreet_22 rfl ?_
    refine vr_iconst (pc := 23) hc dX6_readStreet_23 (0 : Int32) (by decide) ?_
    refine vr_bipush (pc := 24) hc dX6_readStreet_24 (7 : Int32) (by decide) ?_
    obtain ⟨v3, σ4, he2, h⟩ := vz_b2e h
    refine vr_cVi (pc := 26) hc dX6_readStreet_26 mt_X6_takeNumber ml_X6_86 gc_1 (w_X6_takeNumber z μ.2.1 (0 : Int32) (7 : Int32) σ he2) rfl (by decide) rfl (Nat.le_of_ble_eq_true rfl) ?_
    refine vr_if_ne (pc := 29) hc 34 dX6_readStreet_29 (by decide) (fun hb5 => ?_) (fun hb5 => ?_)
    · rw [if_neg hb5] at h
      refine vr_aload_n (pc := 34) hc dX6_readStreet_34 rfl ?_
      refine vr_getI (pc := 35) hc dX6_readStreet_35 fl_X6_89 gc_1 (gi_6_5 gc_1) ?_
      refine vr_istore_n (pc := 38) hc dX6_readStreet_38 (by decide) rfl ?_
      refine vr_aload_n (pc := 39) hc dX6_readStreet_39 rfl ?_
      refine vr_iconst (pc := 40) hc dX6_readStreet_40 (0 : Int32) (by decide) ?_
      refine vr_bipush (pc := 41) hc dX6_readStreet_41 (7 : Int32) (by decide) ?_
      obtain ⟨v7, σ8, he6, h⟩ := vz_b2e h
      refine vr_cVi (pc := 43) hc dX6_readStreet_43 mt_X6_takeNumber ml_X6_86 gc_1 (w_X6_takeNumber z μ.2.1 (0 : Int32) (7 : Int32) σ4 he6) rfl (by decide) rfl (Nat.le_of_ble_eq_true rfl) ?_
      refine vr_if_ne (pc := 46) hc 51 dX6_readStreet_46 (by decide) (fun hb9 => ?_) (fun hb9 => ?_)
      · rw [if_neg hb9] at h
        refine vr_aload_n (pc := 51) hc dX6_readStreet_51 rfl ?_
        refine vr_getI (pc := 52) hc dX6_readStreet_52 fl_X6_89 gc_1 (gi_6_5 gc_1) ?_
        refine vr_iload_n (pc := 55) hc dX6_readStreet_55 rfl ?_
        refine vr_icmp_ne (pc := 56) hc 69 dX6_readStreet_56 (by decide) (fun hb10 => ?_) (fun hb10 => ?_)
        · rw [if_neg hb10] at h
          refine vr_aload_n (pc := 69) hc dX6_readStreet_69 rfl ?_
          refine vr_getR (pc := 70) hc dX6_readStreet_70 fl_X6_21 gc_1 (gr_6_1 gc_1).1 ?_
          refine vr_iload_n (pc := 73) hc dX6_readStreet_73 rfl ?_
          refine vr_aload_n (pc := 74) hc dX6_readStreet_74 rfl ?_
          refine vr_getI (pc := 75) hc dX6_readStreet_75 fl_X6_89 gc_1 (gi_6_5 gc_1) ?_
          obtain ⟨v12, σ13, he11, h⟩ := vz_b2e h
          refine vr_cVi (pc := 78) hc dX6_readStreet_78 mt_X7_addStreet ml_X6_110 ((gr_6_1 gc_1).2.1) (w_X7_addStreet z μ.2.1 4 (σ4 1 5) (σ8 1 5) σ8 ((gr_6_1 gc_1).2.1) he11) rfl (by decide) rfl (Nat.le_of_ble_eq_true rfl) ?_
          refine vr_pop (pc := 81) hc dX6_readStreet_81 rfl ?_
          refine vr_aload_n (pc := 82) hc dX6_readStreet_82 rfl ?_
          obtain ⟨v15, σ16, he14, h⟩ := vz_b2e h
          refine vr_cVi (pc := 83) hc dX6_readStreet_83 mt_X6_takeSemicolon ml_X6_113 gc_1 (w_X6_takeSemicolon z μ.2.1  σ13 he14) rfl (by decide) rfl (Nat.le_of_ble_eq_true rfl) ?_
          have hb17 := vz_ifp h
          rw [if_pos hb17] at h
          obtain ⟨rfl, rfl⟩ := vz_in2 h
          exact hret _ _ (vz_ret_i dX6_readStreet_86 (vz_bn hb17))
        · rw [if_pos hb10] at h
          refine vr_aload_n (pc := 59) hc dX6_readStreet_59 rfl ?_
          refine vr_iconst (pc := 60) hc dX6_readStreet_60 (3 : Int32) (by decide) ?_
          refine vr_aload_n (pc := 61) hc dX6_readStreet_61 rfl ?_
          refine vr_getI (pc := 62) hc dX6_readStreet_62 fl_X6_62 gc_1 (gi_6_4 gc_1) ?_
          obtain ⟨v19, σ20, he18⟩ : ∃ x s, f_X6_refuse (3 : Int32) (σ8 1 4) σ8 = (x, s) := ⟨_, _, rfl⟩
          rw [he18] at h
          rw [vz_c2_e] at h
          refine vr_cVi (pc := 65) hc dX6_readStreet_65 mt_X6_refuse ml_X6_55 gc_1 (w_X6_refuse z μ.2.1 (3 : Int32) (σ8 1 4) σ8 he18) rfl (by decide) rfl (Nat.le_of_ble_eq_true rfl) ?_
          have hb21 := vz_ifp h
          rw [if_pos hb21] at h
          obtain ⟨rfl, rfl⟩ := vz_in2 h
          exact hret _ _ (vz_ret_i dX6_readStreet_68 (vz_bn hb21))
      · rw [if_pos hb9] at h
        refine vr_iconst (pc := 49) hc dX6_readStreet_49 (0 : Int32) (by decide) ?_
        obtain ⟨rfl, rfl⟩ := vz_in2 h
        exact hret _ _ (vz_ret_i dX6_readStreet_50 (by decide))
    · rw [if_pos hb5] at h
      refine vr_iconst (pc := 32) hc dX6_readStreet_32 (0 : Int32) (by decide) ?_
      obtain ⟨rfl, rfl⟩ := vz_in2 h
      exact hret _ _ (vz_ret_i dX6_readStreet_33 (by decide))
  · rw [if_neg hb1] at h
    refine vr_aload_n (pc := 12) hc dX6_readStreet_12 rfl ?_
    refine vr_iconst (pc := 13) hc dX6_readStreet_13 (5 : Int32) (by decide) ?_
    refine vr_aload_n (pc := 14) hc dX6_readStreet_14 rfl ?_
    refine vr_getI (pc := 15) hc dX6_readStreet_15 fl_X6_62 gc_1 (gi_6_4 gc_1) ?_
    obtain ⟨v23, σ24, he22⟩ : ∃ x s, f_X6_refuse (5 : Int32) (σ 1 4) σ = (x, s) := ⟨_, _, rfl⟩
    rw [he22] at h
    rw [vz_c2_e] at h
    refine vr_cVi (pc := 18) hc dX6_readStreet_18 mt_X6_refuse ml_X6_55 gc_1 (w_X6_refuse z μ.2.1 (5 : Int32) (σ 1 4) σ he22) rfl (by decide) rfl (Nat.le_of_ble_eq_true rfl) ?_
    have hb25 := vz_ifp h
    rw [if_pos hb25] at h
    obtain ⟨rfl, rfl⟩ := vz_in2 h
    exact hret _ _ (vz_ret_i dX6_readStreet_21 (vz_bn hb25))
-- X6_readReader: depth 3, effects S=True W=True P=True
def f_X6_readReader  (σ : vz_I) : Option (Int32 × vz_I) := vz_b2 (f_X7_addReader 4 σ) (fun v2 σ3 => vz_mo v2 (vz_c2 (f_X6_refuse (5 : Int32) (σ3 1 4) σ3) (fun v5 σ6 => if v5 = 0 ∨ v5 = 1 then some (v5, σ6) else none)) (fun a8 => vz_b2 (f_X6_takeNumber (0 : Int32) (7 : Int32) σ3) (fun v10 σ11 => if v10 = 0 then some ((0 : Int32), σ11) else vz_b2 (f_X6_takeNumber (0 : Int32) (59 : Int32) (vz_up σ11 a8 0 (σ11 1 5))) (fun v14 σ15 => if v14 = 0 then some ((0 : Int32), σ15) else vz_b2 (f_X6_takeNumber ((vz_up σ15 a8 1 (σ15 1 5)) a8 1) (59 : Int32) (vz_up σ15 a8 1 (σ15 1 5))) (fun v18 σ19 => if v18 = 0 then some ((0 : Int32), σ19) else vz_b2 (f_X6_takeSemicolon  (vz_up σ19 a8 2 (σ19 1 5))) (fun v22 σ23 => if v22 = 0 ∨ v22 = 1 then some (v22, σ23) else none))))))
set_option maxRecDepth 20000 in
set_option maxHeartbeats 1000000 in
theorem w_X6_readReader (z : vz_Z) (l : Launch)  (σ : vz_I)  {r : Int32} {σ' : vz_I} (h : f_X6_readReader  σ = some (r, σ')) : vz_Con z l 3 yX6_readReader cX6_readReader 2 (some .boolean) [.ref 1] vz_G0 σ vz_N0 (some (.int r)) vz_G0 σ' vz_N0 0 0 := by
  refine vz_con (by decide) (Nat.le_of_ble_eq_true rfl) (fun μ hc hl hcap hret => ?_)
  subst hl
  unfold f_X6_readReader at h
  refine vr_aload_n (pc := 0) hc dX6_readReader_0 rfl ?_
  refine vr_getR (pc := 1) hc dX6_readReader_1 fl_X6_21 gc_1 (gr_6_1 gc_1).1 ?_
  obtain ⟨v2, σ3, he1, h⟩ := vz_b2e h
  cases v2 with
  | none =>
    rw [vz_mo_n] at h
    refine vr_cVn (pc := 4) hc dX6_readReader_4 mt_X7_addReader ml_X6_116 ((gr_6_1 gc_1).2.1) (w_X7_addReader z μ.2.1 4 σ ((gr_6_1 gc_1).2.1) he1) rfl (by decide) rfl (Nat.le_of_ble_eq_true rfl) ?_
    refine vr_astoreN_n (pc := 7) hc dX6_readReader_7 (by decide) rfl ?_
    refine vr_aloadN_n (pc := 8) hc dX6_readReader_8 rfl ?_
    refine vr_ifnonnullN (pc := 9) hc dX6_readReader_9 ?_
    refine vr_aload_n (pc := 12) hc dX6_readReader_12 rfl ?_
    refine vr_iconst (pc := 13) hc dX6_readReader_13 (5 : Int32) (by decide) ?_
    refine vr_aload_n (pc := 14) hc dX6_readReader_14 rfl ?_
    refine vr_getI (pc := 15) hc dX6_readReader_15 fl_X6_62 gc_1 (gi_6_4 gc_1) ?_
    obtain ⟨v5, σ6, he4⟩ : ∃ x s, f_X6_refuse (5 : Int32) (σ3 1 4) σ3 = (x, s) := ⟨_, _, rfl⟩
    rw [he4] at h
    rw [vz_c2_e] at h
    refine vr_cVi (pc := 18) hc dX6_readReader_18 mt_X6_refuse ml_X6_55 gc_1 (w_X6_refuse z μ.2.1 (5 : Int32) (σ3 1 4) σ3 he4) rfl (by decide) rfl (Nat.le_of_ble_eq_true rfl) ?_
    have hb7 := vz_ifp h
    rw [if_pos hb7] at h
    obtain ⟨rfl, rfl⟩ := vz_in2 h
    exact hret _ _ (vz_ret_i dX6_readReader_21 (vz_bn hb7))
  | some a8 =>
    rw [vz_mo_s] at h
    refine vr_cVa (pc := 4) hc dX6_readReader_4 mt_X7_addReader ml_X6_116 ((gr_6_1 gc_1).2.1) (w_X7_addReader z μ.2.1 4 σ ((gr_6_1 gc_1).2.1) he1) rfl (by decide) rfl (Nat.le_of_ble_eq_true rfl) ?_
    refine vr_astore_n (pc := 7) hc dX6_readReader_7 (by decide) rfl ?_
    refine vr_aload_n (pc := 8) hc dX6_readReader_8 rfl ?_
    refine vr_ifnonnull (pc := 9) hc 22 dX6_readReader_9 (by decide) ?_
    refine vr_aload_n (pc := 22) hc dX6_readReader_22 rfl ?_
    refine vr_iconst (pc := 23) hc dX6_readReader_23 (0 : Int32) (by decide) ?_
    refine vr_bipush (pc := 24) hc dX6_readReader_24 (7 : Int32) (by decide) ?_
    obtain ⟨v10, σ11, he9, h⟩ := vz_b2e h
    refine vr_cVi (pc := 26) hc dX6_readReader_26 mt_X6_takeNumber ml_X6_86 gc_1 (w_X6_takeNumber z μ.2.1 (0 : Int32) (7 : Int32) σ3 he9) rfl (by decide) rfl (Nat.le_of_ble_eq_true rfl) ?_
    refine vr_if_ne (pc := 29) hc 34 dX6_readReader_29 (by decide) (fun hb12 => ?_) (fun hb12 => ?_)
    · rw [if_neg hb12] at h
      refine vr_aload_n (pc := 34) hc dX6_readReader_34 rfl ?_
      refine vr_aload_n (pc := 35) hc dX6_readReader_35 rfl ?_
      refine vr_getI (pc := 36) hc dX6_readReader_36 fl_X6_89 gc_1 (gi_6_5 gc_1) ?_
      refine vr_putI (pc := 39) hc dX6_readReader_39 fl_X6_120 (wc_X7_addReader ((gr_6_1 gc_1).2.1) he1) (gi_3_0 (wc_X7_addReader ((gr_6_1 gc_1).2.1) he1)) rfl rfl ?_
      refine vr_aload_n (pc := 42) hc dX6_readReader_42 rfl ?_
      refine vr_iconst (pc := 43) hc dX6_readReader_43 (0 : Int32) (by decide) ?_
      refine vr_bipush (pc := 44) hc dX6_readReader_44 (59 : Int32) (by decide) ?_
      obtain ⟨v14, σ15, he13, h⟩ := vz_b2e h
      refine vr_cVi (pc := 46) hc dX6_readReader_46 mt_X6_takeNumber ml_X6_86 gc_1 (w_X6_takeNumber z μ.2.1 (0 : Int32) (59 : Int32) (vz_up σ11 a8 0 (σ11 1 5)) he13) rfl (by decide) rfl (Nat.le_of_ble_eq_true rfl) ?_
      refine vr_if_ne (pc := 49) hc 54 dX6_readReader_49 (by decide) (fun hb16 => ?_) (fun hb16 => ?_)
      · rw [if_neg hb16] at h
        refine vr_aload_n (pc := 54) hc dX6_readReader_54 rfl ?_
        refine vr_aload_n (pc := 55) hc dX6_readReader_55 rfl ?_
        refine vr_getI (pc := 56) hc dX6_readReader_56 fl_X6_89 gc_1 (gi_6_5 gc_1) ?_
        refine vr_putI (pc := 59) hc dX6_readReader_59 fl_X6_125 (wc_X7_addReader ((gr_6_1 gc_1).2.1) he1) (gi_3_1 (wc_X7_addReader ((gr_6_1 gc_1).2.1) he1)) rfl rfl ?_
        refine vr_aload_n (pc := 62) hc dX6_readReader_62 rfl ?_
        refine vr_aload_n (pc := 63) hc dX6_readReader_63 rfl ?_
        refine vr_getI (pc := 64) hc dX6_readReader_64 fl_X6_125 (wc_X7_addReader ((gr_6_1 gc_1).2.1) he1) (gi_3_1 (wc_X7_addReader ((gr_6_1 gc_1).2.1) he1)) ?_
        refine vr_bipush (pc := 67) hc dX6_readReader_67 (59 : Int32) (by decide) ?_
        obtain ⟨v18, σ19, he17, h⟩ := vz_b2e h
        refine vr_cVi (pc := 69) hc dX6_readReader_69 mt_X6_takeNumber ml_X6_86 gc_1 (w_X6_takeNumber z μ.2.1 ((vz_up σ15 a8 1 (σ15 1 5)) a8 1) (59 : Int32) (vz_up σ15 a8 1 (σ15 1 5)) he17) rfl (by decide) rfl (Nat.le_of_ble_eq_true rfl) ?_
        refine vr_if_ne (pc := 72) hc 77 dX6_readReader_72 (by decide) (fun hb20 => ?_) (fun hb20 => ?_)
        · rw [if_neg hb20] at h
          refine vr_aload_n (pc := 77) hc dX6_readReader_77 rfl ?_
          refine vr_aload_n (pc := 78) hc dX6_readReader_78 rfl ?_
          refine vr_getI (pc := 79) hc dX6_readReader_79 fl_X6_89 gc_1 (gi_6_5 gc_1) ?_
          refine vr_putI (pc := 82) hc dX6_readReader_82 fl_X6_128 (wc_X7_addReader ((gr_6_1 gc_1).2.1) he1) (gi_3_2 (wc_X7_addReader ((gr_6_1 gc_1).2.1) he1)) rfl rfl ?_
          refine vr_aload_n (pc := 85) hc dX6_readReader_85 rfl ?_
          obtain ⟨v22, σ23, he21, h⟩ := vz_b2e h
          refine vr_cVi (pc := 86) hc dX6_readReader_86 mt_X6_takeSemicolon ml_X6_113 gc_1 (w_X6_takeSemicolon z μ.2.1  (vz_up σ19 a8 2 (σ19 1 5)) he21) rfl (by decide) rfl (Nat.le_of_ble_eq_true rfl) ?_
          have hb24 := vz_ifp h
          rw [if_pos hb24] at h
          obtain ⟨rfl, rfl⟩ := vz_in2 h
          exact hret _ _ (vz_ret_i dX6_readReader_89 (vz_bn hb24))
        · rw [if_pos hb20] at h
          refine vr_iconst (pc := 75) hc dX6_readReader_75 (0 : Int32) (by decide) ?_
          obtain ⟨rfl, rfl⟩ := vz_in2 h
          exact hret _ _ (vz_ret_i dX6_readReader_76 (by decide))
      · rw [if_pos hb16] at h
        refine vr_iconst (pc := 52) hc dX6_readReader_52 (0 : Int32) (by decide) ?_
        obtain ⟨rfl, rfl⟩ := vz_in2 h
        exact hret _ _ (vz_ret_i dX6_readReader_53 (by decide))
    · rw [if_pos hb12] at h
      refine vr_iconst (pc := 32) hc dX6_readReader_32 (0 : Int32) (by decide) ?_
      obtain ⟨rfl, rfl⟩ := vz_in2 h
      exact hret _ _ (vz_ret_i dX6_readReader_33 (by decide))
-- X6_readRain: depth 3, effects S=True W=True P=True
def f_X6_readRain  (σ : vz_I) : Option (Int32 × vz_I) := if (σ 1 6) = 0 then vz_b2 (f_X6_takeNumber (0 : Int32) (59 : Int32) (vz_up σ 1 6 (1 : Int32))) (fun v3 σ4 => if v3 = 0 then some ((0 : Int32), σ4) else vz_b2 (f_X6_takeNumber (0 : Int32) (59 : Int32) σ4) (fun v7 σ8 => if v7 = 0 then some ((0 : Int32), σ8) else vz_b2 (f_X6_takeSemicolon  (f_X7_setRain 4 (σ4 1 5) (σ8 1 5) σ8)) (fun v11 σ12 => if v11 = 0 ∨ v11 = 1 then some (v11, σ12) else none))) else vz_c2 (f_X6_refuse (4 : Int32) (σ 1 4) σ) (fun v15 σ16 => if v15 = 0 ∨ v15 = 1 then some (v15, σ16) else none)
set_option maxRecDepth 20000 in
set_option maxHeartbeats 1000000 in
theorem w_X6_readRain (z : vz_Z) (l : Launch)  (σ : vz_I)  {r : Int32} {σ' : vz_I} (h : f_X6_readRain  σ = some (r, σ')) : vz_Con z l 3 yX6_readRain cX6_readRain 2 (some .boolean) [.ref 1] vz_G0 σ vz_N0 (some (.int r)) vz_G0 σ' vz_N0 0 0 := by
  refine vz_con (by decide) (Nat.le_of_ble_eq_true rfl) (fun μ hc hl hcap hret => ?_)
  subst hl
  unfold f_X6_readRain at h
  refine vr_aload_n (pc := 0) hc dX6_readRain_0 rfl ?_
  refine vr_getI (pc := 1) hc dX6_readRain_1 fl_X6_32 gc_1 (gi_6_6 gc_1) ?_
  refine vr_if_eq (pc := 4) hc 17 dX6_readRain_4 (by decide) (fun hb1 => ?_) (fun hb1 => ?_)
  · rw [if_pos hb1] at h
    refine vr_aload_n (pc := 17) hc dX6_readRain_17 rfl ?_
    refine vr_iconst (pc := 18) hc dX6_readRain_18 (1 : Int32) (by decide) ?_
    refine vr_putI (pc := 19) hc dX6_readRain_19 fl_X6_32 gc_1 (gi_6_6 gc_1) (by decide) (by decide) ?_
    refine vr_aload_n (pc := 22) hc dX6_readRain_22 rfl ?_
    refine vr_iconst (pc := 23) hc dX6_readRain_23 (0 : Int32) (by decide) ?_
    refine vr_bipush (pc := 24) hc dX6_readRain_24 (59 : Int32) (by decide) ?_
    obtain ⟨v3, σ4, he2, h⟩ := vz_b2e h
    refine vr_cVi (pc := 26) hc dX6_readRain_26 mt_X6_takeNumber ml_X6_86 gc_1 (w_X6_takeNumber z μ.2.1 (0 : Int32) (59 : Int32) (vz_up σ 1 6 (1 : Int32)) he2) rfl (by decide) rfl (Nat.le_of_ble_eq_true rfl) ?_
    refine vr_if_ne (pc := 29) hc 34 dX6_readRain_29 (by decide) (fun hb5 => ?_) (fun hb5 => ?_)
    · rw [if_neg hb5] at h
      refine vr_aload_n (pc := 34) hc dX6_readRain_34 rfl ?_
      refine vr_getI (pc := 35) hc dX6_readRain_35 fl_X6_89 gc_1 (gi_6_5 gc_1) ?_
      refine vr_istore_n (pc := 38) hc dX6_readRain_38 (by decide) rfl ?_
      refine vr_aload_n (pc := 39) hc dX6_readRain_39 rfl ?_
      refine vr_iconst (pc := 40) hc dX6_readRain_40 (0 : Int32) (by decide) ?_
      refine vr_bipush (pc := 41) hc dX6_readRain_41 (59 : Int32) (by decide) ?_
      obtain ⟨v7, σ8, he6, h⟩ := vz_b2e h
      refine vr_cVi (pc := 43) hc dX6_readRain_43 mt_X6_takeNumber ml_X6_86 gc_1 (w_X6_takeNumber z μ.2.1 (0 : Int32) (59 : Int32) σ4 he6) rfl (by decide) rfl (Nat.le_of_ble_eq_true rfl) ?_
      refine vr_if_ne (pc := 46) hc 51 dX6_readRain_46 (by decide) (fun hb9 => ?_) (fun hb9 => ?_)
      · rw [if_neg hb9] at h
        refine vr_aload_n (pc := 51) hc dX6_readRain_51 rfl ?_
        refine vr_getR (pc := 52) hc dX6_readRain_52 fl_X6_21 gc_1 (gr_6_1 gc_1).1 ?_
        refine vr_iload_n (pc := 55) hc dX6_readRain_55 rfl ?_
        refine vr_aload_n (pc := 56) hc dX6_readRain_56 rfl ?_
        refine vr_getI (pc := 57) hc dX6_readRain_57 fl_X6_89 gc_1 (gi_6_5 gc_1) ?_
        refine vr_cVv (pc := 60) hc dX6_readRain_60 mt_X7_setRain ml_X6_131 ((gr_6_1 gc_1).2.1) (w_X7_setRain z μ.2.1 4 (σ4 1 5) (σ8 1 5) σ8 ((gr_6_1 gc_1).2.1) rfl) rfl (by decide) rfl (Nat.le_of_ble_eq_true rfl) ?_
        refine vr_aload_n (pc := 63) hc dX6_readRain_63 rfl ?_
        obtain ⟨v11, σ12, he10, h⟩ := vz_b2e h
        refine vr_cVi (pc := 64) hc dX6_readRain_64 mt_X6_takeSemicolon ml_X6_113 gc_1 (w_X6_takeSemicolon z μ.2.1  (f_X7_setRain 4 (σ4 1 5) (σ8 1 5) σ8) he10) rfl (by decide) rfl (Nat.le_of_ble_eq_true rfl) ?_
        have hb13 := vz_ifp h
        rw [if_pos hb13] at h
        obtain ⟨rfl, rfl⟩ := vz_in2 h
        exact hret _ _ (vz_ret_i dX6_readRain_67 (vz_bn hb13))
      · rw [if_pos hb9] at h
        refine vr_iconst (pc := 49) hc dX6_readRain_49 (0 : Int32) (by decide) ?_
        obtain ⟨rfl, rfl⟩ := vz_in2 h
        exact hret _ _ (vz_ret_i dX6_readRain_50 (by decide))
    · rw [if_pos hb5] at h
      refine vr_iconst (pc := 32) hc dX6_readRain_32 (0 : Int32) (by decide) ?_
      obtain ⟨rfl, rfl⟩ := vz_in2 h
      exact hret _ _ (vz_ret_i dX6_readRain_33 (by decide))
  · rw [if_neg hb1] at h
    refine vr_aload_n (pc := 7) hc dX6_readRain_7 rfl ?_
    refine vr_iconst (pc := 8) hc dX6_readRain_8 (4 : Int32) (by decide) ?_
    refine vr_aload_n (pc := 9) hc dX6_readRain_9 rfl ?_
    refine vr_getI (pc := 10) hc dX6_readRain_10 fl_X6_62 gc_1 (gi_6_4 gc_1) ?_
    obtain ⟨v15, σ16, he14⟩ : ∃ x s, f_X6_refuse (4 : Int32) (σ 1 4) σ = (x, s) := ⟨_, _, rfl⟩
    rw [he14] at h
    rw [vz_c2_e] at h
    refine vr_cVi (pc := 13) hc dX6_readRain_13 mt_X6_refuse ml_X6_55 gc_1 (w_X6_refuse z μ.2.1 (4 : Int32) (σ 1 4) σ he14) rfl (by decide) rfl (Nat.le_of_ble_eq_true rfl) ?_
    have hb17 := vz_ifp h
    rw [if_pos hb17] at h
    obtain ⟨rfl, rfl⟩ := vz_in2 h
    exact hret _ _ (vz_ret_i dX6_readRain_16 (vz_bn hb17))
-- X7_wholeNews: depth 3, effects S=True W=False P=True
def f_X7_wholeNews (a0 : Nat) (a1 : Nat) (j2 : Int64) (x4 : Int32) (σ : vz_I) : Option Int32 := vz_b1 (f_X7_newsRead a0 a1 (0 : Int32) j2 x4 σ) (fun v2 => vz_b1 (f_X7_newsRead a0 a1 (1 : Int32) j2 x4 σ) (fun v5 => some (v2 &&& v5)))
set_option maxRecDepth 20000 in
set_option maxHeartbeats 1000000 in
theorem w_X7_wholeNews (z : vz_Z) (l : Launch) (a0 : Nat) (a1 : Nat) (j2 : Int64) (x4 : Int32) (σ : vz_I) (ha0 : (vz_G0 a0).1 = 7) (ha1 : (vz_G0 a1).1 = 3) {r : Int32} (h : f_X7_wholeNews a0 a1 j2 x4 σ = some r) : vz_Con z l 3 yX7_wholeNews cX7_wholeNews 5 (some .int) [.ref a0, .ref a1, .long j2, .int x4] vz_G0 σ vz_N0 (some (.int r)) vz_G0 σ vz_N0 0 0 := by
  refine vz_con (by decide) (Nat.le_of_ble_eq_true rfl) (fun μ hc hl hcap hret => ?_)
  subst hl
  unfold f_X7_wholeNews at h
  refine vr_aload_n (pc := 0) hc dX7_wholeNews_0 rfl ?_
  refine vr_aload_n (pc := 1) hc dX7_wholeNews_1 rfl ?_
  refine vr_iconst (pc := 2) hc dX7_wholeNews_2 (0 : Int32) (by decide) ?_
  refine vr_lload_n (pc := 3) hc dX7_wholeNews_3 rfl ?_
  refine vr_iload (pc := 4) hc dX7_wholeNews_4 rfl ?_
  obtain ⟨v2, he1, h⟩ := vz_b1e h
  refine vr_cVi (pc := 6) hc dX7_wholeNews_6 mt_X7_newsRead ml_X7_101 ha0 (w_X7_newsRead z μ.2.1 a0 a1 (0 : Int32) j2 x4 σ ha0 ha1 he1) rfl (by decide) rfl (Nat.le_of_ble_eq_true rfl) ?_
  refine vr_aload_n (pc := 9) hc dX7_wholeNews_9 rfl ?_
  refine vr_aload_n (pc := 10) hc dX7_wholeNews_10 rfl ?_
  refine vr_iconst (pc := 11) hc dX7_wholeNews_11 (1 : Int32) (by decide) ?_
  refine vr_lload_n (pc := 12) hc dX7_wholeNews_12 rfl ?_
  refine vr_iload (pc := 13) hc dX7_wholeNews_13 rfl ?_
  obtain ⟨v5, he4, h⟩ := vz_b1e h
  refine vr_cVi (pc := 15) hc dX7_wholeNews_15 mt_X7_newsRead ml_X7_101 ha0 (w_X7_newsRead z μ.2.1 a0 a1 (1 : Int32) j2 x4 σ ha0 ha1 he4) rfl (by decide) rfl (Nat.le_of_ble_eq_true rfl) ?_
  refine vr_iand (pc := 18) hc dX7_wholeNews_18 ?_
  obtain rfl := Option.some.inj h
  exact hret _ _ (vz_ret_i dX7_wholeNews_19 rfl)
-- X7_firstWhole: depth 3, effects S=True W=False P=True
def f_X7_firstWhole (a0 : Nat) (a1 : Nat) (x2 : Int32) (σ : vz_I) : Option Int32 := vz_b1 (f_X7_minutesRead a0 a1 (0 : Int32) x2 σ) (fun v2 => vz_b1 (f_X8_firstMinute v2) (fun v5 => vz_b1 (f_X7_minutesRead a0 a1 (1 : Int32) x2 σ) (fun v8 => vz_b1 (f_X8_firstMinute v8) (fun v11 => if v5 = (-4 : Int32) then some (-4 : Int32) else if v11 = (-4 : Int32) then some (-4 : Int32) else some (vz_max v5 v11)))))
set_option maxRecDepth 20000 in
set_option maxHeartbeats 1000000 in
theorem w_X7_firstWhole (z : vz_Z) (l : Launch) (a0 : Nat) (a1 : Nat) (x2 : Int32) (σ : vz_I) (ha0 : (vz_G0 a0).1 = 7) (ha1 : (vz_G0 a1).1 = 3) {r : Int32} (h : f_X7_firstWhole a0 a1 x2 σ = some r) : vz_Con z l 3 yX7_firstWhole cX7_firstWhole 5 (some .int) [.ref a0, .ref a1, .int x2] vz_G0 σ vz_N0 (some (.int r)) vz_G0 σ vz_N0 0 0 := by
  refine vz_con (by decide) (Nat.le_of_ble_eq_true rfl) (fun μ hc hl hcap hret => ?_)
  subst hl
  unfold f_X7_firstWhole at h
  refine vr_aload_n (pc := 0) hc dX7_firstWhole_0 rfl ?_
  refine vr_aload_n (pc := 1) hc dX7_firstWhole_1 rfl ?_
  refine vr_iconst (pc := 2) hc dX7_firstWhole_2 (0 : Int32) (by decide) ?_
  refine vr_iload_n (pc := 3) hc dX7_firstWhole_3 rfl ?_
  obtain ⟨v2, he1, h⟩ := vz_b1e h
  refine vr_cVj (pc := 4) hc dX7_firstWhole_4 mt_X7_minutesRead ml_X7_117 ha0 (w_X7_minutesRead z μ.2.1 a0 a1 (0 : Int32) x2 σ ha0 ha1 he1) rfl (by decide) rfl (Nat.le_of_ble_eq_true rfl) ?_
  obtain ⟨v5, he4, h⟩ := vz_b1e h
  refine vr_cNi (pc := 7) hc dX7_firstWhole_7 mt_X8_firstMinute sx_X8_firstMinute ml_X7_121  (w_X8_firstMinute z μ.2.1 v2 σ he4) rfl (by decide) rfl (Nat.le_of_ble_eq_true rfl) ?_
  refine vr_istore_n (pc := 10) hc dX7_firstWhole_10 (by decide) rfl ?_
  refine vr_aload_n (pc := 11) hc dX7_firstWhole_11 rfl ?_
  refine vr_aload_n (pc := 12) hc dX7_firstWhole_12 rfl ?_
  refine vr_iconst (pc := 13) hc dX7_firstWhole_13 (1 : Int32) (by decide) ?_
  refine vr_iload_n (pc := 14) hc dX7_firstWhole_14 rfl ?_
  obtain ⟨v8, he7, h⟩ := vz_b1e h
  refine vr_cVj (pc := 15) hc dX7_firstWhole_15 mt_X7_minutesRead ml_X7_117 ha0 (w_X7_minutesRead z μ.2.1 a0 a1 (1 : Int32) x2 σ ha0 ha1 he7) rfl (by decide) rfl (Nat.le_of_ble_eq_true rfl) ?_
  obtain ⟨v11, he10, h⟩ := vz_b1e h
  refine vr_cNi (pc := 18) hc dX7_firstWhole_18 mt_X8_firstMinute sx_X8_firstMinute ml_X7_121  (w_X8_firstMinute z μ.2.1 v8 σ he10) rfl (by decide) rfl (Nat.le_of_ble_eq_true rfl) ?_
  refine vr_istore (pc := 21) hc dX7_firstWhole_21 (by decide) rfl ?_
  refine vr_iload_n (pc := 23) hc dX7_firstWhole_23 rfl ?_
  refine vr_bipush (pc := 24) hc dX7_firstWhole_24 (-4 : Int32) (by decide) ?_
  refine vr_icmp_eq (pc := 26) hc 36 dX7_firstWhole_26 (by decide) (fun hb13 => ?_) (fun hb13 => ?_)
  · rw [if_pos hb13] at h
    refine vr_bipush (pc := 36) hc dX7_firstWhole_36 (-4 : Int32) (by decide) ?_
    refine vr_goto (pc := 38) hc 47 dX7_firstWhole_38 (by decide) ?_
    obtain rfl := Option.some.inj h
    exact hret _ _ (vz_ret_i dX7_firstWhole_47 rfl)
  · rw [if_neg hb13] at h
    refine vr_iload (pc := 29) hc dX7_firstWhole_29 rfl ?_
    refine vr_bipush (pc := 31) hc dX7_firstWhole_31 (-4 : Int32) (by decide) ?_
    refine vr_icmp_ne (pc := 33) hc 41 dX7_firstWhole_33 (by decide) (fun hb14 => ?_) (fun hb14 => ?_)
    · rw [if_neg hb14] at h
      refine vr_iload_n (pc := 41) hc dX7_firstWhole_41 rfl ?_
      refine vr_iload (pc := 42) hc dX7_firstWhole_42 rfl ?_
      refine vr_mmax (pc := 44) hc dX7_firstWhole_44 ml_X7_125 mw_max (by decide) (Nat.le_of_ble_eq_true rfl) ?_
      obtain rfl := Option.some.inj h
      exact hret _ _ (vz_ret_i dX7_firstWhole_47 rfl)
    · rw [if_pos hb14] at h
      refine vr_bipush (pc := 36) hc dX7_firstWhole_36 (-4 : Int32) (by decide) ?_
      refine vr_goto (pc := 38) hc 47 dX7_firstWhole_38 (by decide) ?_
      obtain rfl := Option.some.inj h
      exact hret _ _ (vz_ret_i dX7_firstWhole_47 rfl)
-- X8_reads: depth 3, effects S=True W=False P=True
def f_X8_reads (x1 : Int32) (x2 : Int32) (x3 : Int32) (σ : vz_I) : Option Int32 := vz_b1 (f_X7_readerAt 21 x1 σ) (fun v2 => vz_mo v2 (some (-1 : Int32)) (fun a4 => if (f_X8_isMinute x2) = 0 then some (-1 : Int32) else if (f_X8_isEither x3) = 0 then some (-1 : Int32) else vz_b1 (f_X7_menRead 21 a4 x2 x3 σ) (fun v8 => some v8)))
set_option maxRecDepth 20000 in
set_option maxHeartbeats 1000000 in
theorem w_X8_reads (z : vz_Z) (l : Launch) (x1 : Int32) (x2 : Int32) (x3 : Int32) (σ : vz_I)  {r : Int32} (h : f_X8_reads x1 x2 x3 σ = some r) : vz_Con z l 3 yX8_reads cX8_reads 5 (some .int) [.ref 0, .int x1, .int x2, .int x3] vz_G0 σ vz_N0 (some (.int r)) vz_G0 σ vz_N0 0 0 := by
  refine vz_con (by decide) (Nat.le_of_ble_eq_true rfl) (fun μ hc hl hcap hret => ?_)
  subst hl
  unfold f_X8_reads at h
  refine vr_aload_n (pc := 0) hc dX8_reads_0 rfl ?_
  refine vr_getR (pc := 1) hc dX8_reads_1 fl_X8_19 gc_0 (gr_8_1 gc_0).1 ?_
  refine vr_iload_n (pc := 4) hc dX8_reads_4 rfl ?_
  obtain ⟨v2, he1, h⟩ := vz_b1e h
  cases v2 with
  | none =>
    rw [vz_mo_n] at h
    refine vr_cVn (pc := 5) hc dX8_reads_5 mt_X7_readerAt ml_X8_169 ((gr_8_1 gc_0).2.1) (w_X7_readerAt z μ.2.1 21 x1 σ ((gr_8_1 gc_0).2.1) he1) rfl (by decide) rfl (Nat.le_of_ble_eq_true rfl) ?_
    refine vr_astoreN (pc := 8) hc dX8_reads_8 (by decide) rfl ?_
    refine vr_aloadN (pc := 10) hc dX8_reads_10 rfl ?_
    refine vr_ifnullN (pc := 12) hc 29 dX8_reads_12 (by decide) ?_
    refine vr_iconst (pc := 29) hc dX8_reads_29 (-1 : Int32) (by decide) ?_
    obtain rfl := Option.some.inj h
    exact hret _ _ (vz_ret_i dX8_reads_30 rfl)
  | some a4 =>
    rw [vz_mo_s] at h
    refine vr_cVa (pc := 5) hc dX8_reads_5 mt_X7_readerAt ml_X8_169 ((gr_8_1 gc_0).2.1) (w_X7_readerAt z μ.2.1 21 x1 σ ((gr_8_1 gc_0).2.1) he1) rfl (by decide) rfl (Nat.le_of_ble_eq_true rfl) ?_
    refine vr_astore (pc := 8) hc dX8_reads_8 (by decide) rfl ?_
    refine vr_aload (pc := 10) hc dX8_reads_10 rfl ?_
    refine vr_ifnull (pc := 12) hc dX8_reads_12 ?_
    refine vr_iload_n (pc := 15) hc dX8_reads_15 rfl ?_
    refine vr_cSi (pc := 16) hc dX8_reads_16 mt_X8_isMinute sx_X8_isMinute ml_X8_205  (w_X8_isMinute z μ.2.1 x2 σ rfl) rfl (by decide) rfl (Nat.le_of_ble_eq_true rfl) ?_
    refine vr_if_eq (pc := 19) hc 29 dX8_reads_19 (by decide) (fun hb5 => ?_) (fun hb5 => ?_)
    · rw [if_pos hb5] at h
      refine vr_iconst (pc := 29) hc dX8_reads_29 (-1 : Int32) (by decide) ?_
      obtain rfl := Option.some.inj h
      exact hret _ _ (vz_ret_i dX8_reads_30 rfl)
    · rw [if_neg hb5] at h
      refine vr_iload_n (pc := 22) hc dX8_reads_22 rfl ?_
      refine vr_cSi (pc := 23) hc dX8_reads_23 mt_X8_isEither sx_X8_isEither ml_X8_160  (w_X8_isEither z μ.2.1 x3 σ rfl) rfl (by decide) rfl (Nat.le_of_ble_eq_true rfl) ?_
      refine vr_if_ne (pc := 26) hc 31 dX8_reads_26 (by decide) (fun hb6 => ?_) (fun hb6 => ?_)
      · rw [if_neg hb6] at h
        refine vr_aload_n (pc := 31) hc dX8_reads_31 rfl ?_
        refine vr_getR (pc := 32) hc dX8_reads_32 fl_X8_19 gc_0 (gr_8_1 gc_0).1 ?_
        refine vr_aload (pc := 35) hc dX8_reads_35 rfl ?_
        refine vr_iload_n (pc := 37) hc dX8_reads_37 rfl ?_
        refine vr_iload_n (pc := 38) hc dX8_reads_38 rfl ?_
        obtain ⟨v8, he7, h⟩ := vz_b1e h
        refine vr_cVi (pc := 39) hc dX8_reads_39 mt_X7_menRead ml_X8_219 ((gr_8_1 gc_0).2.1) (w_X7_menRead z μ.2.1 21 a4 x2 x3 σ ((gr_8_1 gc_0).2.1) (wc_X7_readerAt ((gr_8_1 gc_0).2.1) he1) he7) rfl (by decide) rfl (Nat.le_of_ble_eq_true rfl) ?_
        obtain rfl := Option.some.inj h
        exact hret _ _ (vz_ret_i dX8_reads_42 rfl)
      · rw [if_pos hb6] at h
        refine vr_iconst (pc := 29) hc dX8_reads_29 (-1 : Int32) (by decide) ?_
        obtain rfl := Option.some.inj h
        exact hret _ _ (vz_ret_i dX8_reads_30 rfl)
-- X8_late: depth 3, effects S=True W=True P=True
def f_X8_late (x1 : Int32) (x2 : Int32) (σ : vz_I) : Option (Int32 × vz_I) := vz_b1 (f_X7_readerAt 21 x1 σ) (fun v2 => vz_mo v2 (some ((-1 : Int32), σ)) (fun a4 => if (f_X8_isNews x2) = 0 then some ((-1 : Int32), σ) else vz_b1 (f_X7_minutesRead 21 63 (0 : Int32) x2 (vz_up (f_X3_copyFrom 63 a4 σ) 63 1 (0 : Int32))) (fun v7 => vz_b1 (f_X8_lastMinute v7) (fun v10 => vz_b1 (f_X7_minutesRead 21 63 (1 : Int32) x2 (vz_up (f_X3_copyFrom 63 a4 σ) 63 1 (0 : Int32))) (fun v13 => vz_b1 (f_X8_lastMinute v13) (fun v16 => if v10 = (-4 : Int32) then some ((-4 : Int32), vz_up (f_X3_copyFrom 63 a4 σ) 63 1 (0 : Int32)) else if v16 = (-4 : Int32) then some ((-4 : Int32), vz_up (f_X3_copyFrom 63 a4 σ) 63 1 (0 : Int32)) else some (vz_min v10 v16, vz_up (f_X3_copyFrom 63 a4 σ) 63 1 (0 : Int32))))))))
set_option maxRecDepth 20000 in
set_option maxHeartbeats 1000000 in
theorem w_X8_late (z : vz_Z) (l : Launch) (x1 : Int32) (x2 : Int32) (σ : vz_I)  {r : Int32} {σ' : vz_I} (h : f_X8_late x1 x2 σ = some (r, σ')) : vz_Con z l 3 yX8_late cX8_late 6 (some .int) [.ref 0, .int x1, .int x2] vz_G0 σ vz_N0 (some (.int r)) vz_G0 σ' vz_N0 0 0 := by
  refine vz_con (by decide) (Nat.le_of_ble_eq_true rfl) (fun μ hc hl hcap hret => ?_)
  subst hl
  unfold f_X8_late at h
  refine vr_aload_n (pc := 0) hc dX8_late_0 rfl ?_
  refine vr_getR (pc := 1) hc dX8_late_1 fl_X8_19 gc_0 (gr_8_1 gc_0).1 ?_
  refine vr_iload_n (pc := 4) hc dX8_late_4 rfl ?_
  obtain ⟨v2, he1, h⟩ := vz_b1e h
  cases v2 with
  | none =>
    rw [vz_mo_n] at h
    refine vr_cVn (pc := 5) hc dX8_late_5 mt_X7_readerAt ml_X8_169 ((gr_8_1 gc_0).2.1) (w_X7_readerAt z μ.2.1 21 x1 σ ((gr_8_1 gc_0).2.1) he1) rfl (by decide) rfl (Nat.le_of_ble_eq_true rfl) ?_
    refine vr_astoreN_n (pc := 8) hc dX8_late_8 (by decide) rfl ?_
    refine vr_aloadN_n (pc := 9) hc dX8_late_9 rfl ?_
    refine vr_ifnullN (pc := 10) hc 20 dX8_late_10 (by decide) ?_
    refine vr_iconst (pc := 20) hc dX8_late_20 (-1 : Int32) (by decide) ?_
    obtain ⟨rfl, rfl⟩ := vz_in2 h
    exact hret _ _ (vz_ret_i dX8_late_21 rfl)
  | some a4 =>
    rw [vz_mo_s] at h
    refine vr_cVa (pc := 5) hc dX8_late_5 mt_X7_readerAt ml_X8_169 ((gr_8_1 gc_0).2.1) (w_X7_readerAt z μ.2.1 21 x1 σ ((gr_8_1 gc_0).2.1) he1) rfl (by decide) rfl (Nat.le_of_ble_eq_true rfl) ?_
    refine vr_astore_n (pc := 8) hc dX8_late_8 (by decide) rfl ?_
    refine vr_aload_n (pc := 9) hc dX8_late_9 rfl ?_
    refine vr_ifnull (pc := 10) hc dX8_late_10 ?_
    refine vr_iload_n (pc := 13) hc dX8_late_13 rfl ?_
    refine vr_cSi (pc := 14) hc dX8_late_14 mt_X8_isNews sx_X8_isNews ml_X8_182  (w_X8_isNews z μ.2.1 x2 σ rfl) rfl (by decide) rfl (Nat.le_of_ble_eq_true rfl) ?_
    refine vr_if_ne (pc := 17) hc 22 dX8_late_17 (by decide) (fun hb5 => ?_) (fun hb5 => ?_)
    · rw [if_neg hb5] at h
      refine vr_aload_n (pc := 22) hc dX8_late_22 rfl ?_
      refine vr_getR (pc := 23) hc dX8_late_23 fl_X8_50 gc_0 (gr_8_7 gc_0).1 ?_
      refine vr_aload_n (pc := 26) hc dX8_late_26 rfl ?_
      refine vr_cVv (pc := 27) hc dX8_late_27 mt_X3_copyFrom ml_X8_243 ((gr_8_7 gc_0).2.1) (w_X3_copyFrom z μ.2.1 63 a4 σ ((gr_8_7 gc_0).2.1) (wc_X7_readerAt ((gr_8_1 gc_0).2.1) he1) rfl) rfl (by decide) rfl (Nat.le_of_ble_eq_true rfl) ?_
      refine vr_aload_n (pc := 30) hc dX8_late_30 rfl ?_
      refine vr_getR (pc := 31) hc dX8_late_31 fl_X8_50 gc_0 (gr_8_7 gc_0).1 ?_
      refine vr_iconst (pc := 34) hc dX8_late_34 (0 : Int32) (by decide) ?_
      refine vr_putI (pc := 35) hc dX8_late_35 fl_X8_176 ((gr_8_7 gc_0).2.1) (gi_3_1 ((gr_8_7 gc_0).2.1)) rfl rfl ?_
      refine vr_aload_n (pc := 38) hc dX8_late_38 rfl ?_
      refine vr_getR (pc := 39) hc dX8_late_39 fl_X8_19 gc_0 (gr_8_1 gc_0).1 ?_
      refine vr_aload_n (pc := 42) hc dX8_late_42 rfl ?_
      refine vr_getR (pc := 43) hc dX8_late_43 fl_X8_50 gc_0 (gr_8_7 gc_0).1 ?_
      refine vr_iconst (pc := 46) hc dX8_late_46 (0 : Int32) (by decide) ?_
      refine vr_iload_n (pc := 47) hc dX8_late_47 rfl ?_
      obtain ⟨v7, he6, h⟩ := vz_b1e h
      refine vr_cVj (pc := 48) hc dX8_late_48 mt_X7_minutesRead ml_X8_261 ((gr_8_1 gc_0).2.1) (w_X7_minutesRead z μ.2.1 21 63 (0 : Int32) x2 (vz_up (f_X3_copyFrom 63 a4 σ) 63 1 (0 : Int32)) ((gr_8_1 gc_0).2.1) ((gr_8_7 gc_0).2.1) he6) rfl (by decide) rfl (Nat.le_of_ble_eq_true rfl) ?_
      obtain ⟨v10, he9, h⟩ := vz_b1e h
      refine vr_cSi (pc := 51) hc dX8_late_51 mt_X8_lastMinute sx_X8_lastMinute ml_X8_265  (w_X8_lastMinute z μ.2.1 v7 (vz_up (f_X3_copyFrom 63 a4 σ) 63 1 (0 : Int32)) he9) rfl (by decide) rfl (Nat.le_of_ble_eq_true rfl) ?_
      refine vr_istore (pc := 54) hc dX8_late_54 (by decide) rfl ?_
      refine vr_aload_n (pc := 56) hc dX8_late_56 rfl ?_
      refine vr_getR (pc := 57) hc dX8_late_57 fl_X8_19 gc_0 (gr_8_1 gc_0).1 ?_
      refine vr_aload_n (pc := 60) hc dX8_late_60 rfl ?_
      refine vr_getR (pc := 61) hc dX8_late_61 fl_X8_50 gc_0 (gr_8_7 gc_0).1 ?_
      refine vr_iconst (pc := 64) hc dX8_late_64 (1 : Int32) (by decide) ?_
      refine vr_iload_n (pc := 65) hc dX8_late_65 rfl ?_
      obtain ⟨v13, he12, h⟩ := vz_b1e h
      refine vr_cVj (pc := 66) hc dX8_late_66 mt_X7_minutesRead ml_X8_261 ((gr_8_1 gc_0).2.1) (w_X7_minutesRead z μ.2.1 21 63 (1 : Int32) x2 (vz_up (f_X3_copyFrom 63 a4 σ) 63 1 (0 : Int32)) ((gr_8_1 gc_0).2.1) ((gr_8_7 gc_0).2.1) he12) rfl (by decide) rfl (Nat.le_of_ble_eq_true rfl) ?_
      obtain ⟨v16, he15, h⟩ := vz_b1e h
      refine vr_cSi (pc := 69) hc dX8_late_69 mt_X8_lastMinute sx_X8_lastMinute ml_X8_265  (w_X8_lastMinute z μ.2.1 v13 (vz_up (f_X3_copyFrom 63 a4 σ) 63 1 (0 : Int32)) he15) rfl (by decide) rfl (Nat.le_of_ble_eq_true rfl) ?_
      refine vr_istore (pc := 72) hc dX8_late_72 (by decide) rfl ?_
      refine vr_iload (pc := 74) hc dX8_late_74 rfl ?_
      refine vr_bipush (pc := 76) hc dX8_late_76 (-4 : Int32) (by decide) ?_
      refine vr_icmp_eq (pc := 78) hc 88 dX8_late_78 (by decide) (fun hb18 => ?_) (fun hb18 => ?_)
      · rw [if_pos hb18] at h
        refine vr_bipush (pc := 88) hc dX8_late_88 (-4 : Int32) (by decide) ?_
        refine vr_goto (pc := 90) hc 100 dX8_late_90 (by decide) ?_
        obtain ⟨rfl, rfl⟩ := vz_in2 h
        exact hret _ _ (vz_ret_i dX8_late_100 rfl)
      · rw [if_neg hb18] at h
        refine vr_iload (pc := 81) hc dX8_late_81 rfl ?_
        refine vr_bipush (pc := 83) hc dX8_late_83 (-4 : Int32) (by decide) ?_
        refine vr_icmp_ne (pc := 85) hc 93 dX8_late_85 (by decide) (fun hb19 => ?_) (fun hb19 => ?_)
        · rw [if_neg hb19] at h
          refine vr_iload (pc := 93) hc dX8_late_93 rfl ?_
          refine vr_iload (pc := 95) hc dX8_late_95 rfl ?_
          refine vr_mmin (pc := 97) hc dX8_late_97 ml_X8_268 mw_min (by decide) (Nat.le_of_ble_eq_true rfl) ?_
          obtain ⟨rfl, rfl⟩ := vz_in2 h
          exact hret _ _ (vz_ret_i dX8_late_100 rfl)
        · rw [if_pos hb19] at h
          refine vr_bipush (pc := 88) hc dX8_late_88 (-4 : Int32) (by decide) ?_
          refine vr_goto (pc := 90) hc 100 dX8_late_90 (by decide) ?_
          obtain ⟨rfl, rfl⟩ := vz_in2 h
          exact hret _ _ (vz_ret_i dX8_late_100 rfl)
    · rw [if_pos hb5] at h
      refine vr_iconst (pc := 20) hc dX8_late_20 (-1 : Int32) (by decide) ?_
      obtain ⟨rfl, rfl⟩ := vz_in2 h
      exact hret _ _ (vz_ret_i dX8_late_21 rfl)
-- X8_read: depth 3, effects S=True W=True P=True
def f_X8_read_113 : Nat → Int32 → Nat → Int32 → Int32 → Int32 → vz_I → Option (Int32 × vz_I)
  | 0, _, _, _, _, _, _ => none
  | n + 1, x3, a5, x6, x7, x8, σ => if x7 ≤ x8 then some (x7, vz_up σ 0 10 x6) else vz_b1 (f_X4_cellAt a5 (x3 + ((2 : Int32) * x8)) σ) (fun v8 => vz_b1 (f_X4_cellAt a5 ((x3 + ((2 : Int32) * x8)) + (1 : Int32)) σ) (fun v11 => vz_b2 (f_X8_stand v8 (0 : Int32) v11 σ) (fun v14 σ15 => f_X8_read_113 n x3 a5 x6 x7 (x8 + (1 : Int32)) σ15)))
theorem f_X8_read_113_s (n : Nat) (x3 : Int32) (a5 : Nat) (x6 : Int32) (x7 : Int32) (x8 : Int32) (σ : vz_I) : f_X8_read_113  (n + 1) x3 a5 x6 x7 x8 σ = if x7 ≤ x8 then some (x7, vz_up σ 0 10 x6) else vz_b1 (f_X4_cellAt a5 (x3 + ((2 : Int32) * x8)) σ) (fun v8 => vz_b1 (f_X4_cellAt a5 ((x3 + ((2 : Int32) * x8)) + (1 : Int32)) σ) (fun v11 => vz_b2 (f_X8_stand v8 (0 : Int32) v11 σ) (fun v14 σ15 => f_X8_read_113 n x3 a5 x6 x7 (x8 + (1 : Int32)) σ15))) := rfl
set_option maxRecDepth 20000 in
set_option maxHeartbeats 1000000 in
theorem wn_X8_read_113 (z : vz_Z) (μ : vz_M) (hc : vz_C z μ cX8_read RX8 3 9) {r : Int32} {σ' : vz_I} (hret : ∀ (pc : Nat) (L : vz_L), vz_ret cX8_read (some .int) pc (some (.int r)) → vz_V z μ 0 0 pc L ((some (.int r)) : Option Value).toList vz_G0 σ' vz_N0) : ∀ (n : Nat) (x3 : Int32) (a5 : Nat) (x6 : Int32) (x7 : Int32) (x8 : Int32) (σ : vz_I) (ha5 : (vz_G0 a5).1 = 4) (h : f_X8_read_113  n x3 a5 x6 x7 x8 σ = some (r, σ')), vz_V z μ 0 0 113 [(0, some (.ref 0)), (3, some (.int x3)), (5, some (.ref a5)), (6, some (.int x6)), (7, some (.int x7)), (8, some (.int x8))] [] vz_G0 σ vz_N0 := by
  intro n
  induction n with
  | zero =>
    intro x3 a5 x6 x7 x8 σ ha5 h
    cases h
  | succ n ih =>
    intro x3 a5 x6 x7 x8 σ ha5 h
    rw [f_X8_read_113_s] at h
    refine vr_iload (pc := 113) hc dX8_read_113 rfl ?_
    refine vr_iload (pc := 115) hc dX8_read_115 rfl ?_
    refine vr_icmp_ge (pc := 117) hc 156 dX8_read_117 (by decide) (fun hb6 => ?_) (fun hb6 => ?_)
    · rw [if_pos hb6] at h
      refine vr_aload_n (pc := 156) hc dX8_read_156 rfl ?_
      refine vr_iload (pc := 157) hc dX8_read_157 rfl ?_
      refine vr_putI (pc := 159) hc dX8_read_159 fl_X8_65 gc_0 (gi_8_10 gc_0) rfl rfl ?_
      refine vr_iload (pc := 162) hc dX8_read_162 rfl ?_
      obtain ⟨rfl, rfl⟩ := vz_in2 h
      exact hret _ _ (vz_ret_i dX8_read_164 rfl)
    · rw [if_neg hb6] at h
      refine vr_aload_n (pc := 120) hc dX8_read_120 rfl ?_
      refine vr_aload (pc := 121) hc dX8_read_121 rfl ?_
      refine vr_iload_n (pc := 123) hc dX8_read_123 rfl ?_
      refine vr_iconst (pc := 124) hc dX8_read_124 (2 : Int32) (by decide) ?_
      refine vr_iload (pc := 125) hc dX8_read_125 rfl ?_
      refine vr_imul (pc := 127) hc dX8_read_127 ?_
      refine vr_iadd (pc := 128) hc dX8_read_128 ?_
      obtain ⟨v8, he7, h⟩ := vz_b1e h
      refine vr_cVi (pc := 129) hc dX8_read_129 mt_X4_cellAt ml_X8_342 ha5 (w_X4_cellAt z μ.2.1 a5 (x3 + ((2 : Int32) * x8)) σ ha5 he7) rfl (by decide) rfl (Nat.le_of_ble_eq_true rfl) ?_
      refine vr_iconst (pc := 132) hc dX8_read_132 (0 : Int32) (by decide) ?_
      refine vr_aload (pc := 133) hc dX8_read_133 rfl ?_
      refine vr_iload_n (pc := 135) hc dX8_read_135 rfl ?_
      refine vr_iconst (pc := 136) hc dX8_read_136 (2 : Int32) (by decide) ?_
      refine vr_iload (pc := 137) hc dX8_read_137 rfl ?_
      refine vr_imul (pc := 139) hc dX8_read_139 ?_
      refine vr_iadd (pc := 140) hc dX8_read_140 ?_
      refine vr_iconst (pc := 141) hc dX8_read_141 (1 : Int32) (by decide) ?_
      refine vr_iadd (pc := 142) hc dX8_read_142 ?_
      obtain ⟨v11, he10, h⟩ := vz_b1e h
      refine vr_cVi (pc := 143) hc dX8_read_143 mt_X4_cellAt ml_X8_342 ha5 (w_X4_cellAt z μ.2.1 a5 ((x3 + ((2 : Int32) * x8)) + (1 : Int32)) σ ha5 he10) rfl (by decide) rfl (Nat.le_of_ble_eq_true rfl) ?_
      obtain ⟨v14, σ15, he13, h⟩ := vz_b2e h
      refine vr_cVi (pc := 146) hc dX8_read_146 mt_X8_stand ml_X8_345 gc_0 (w_X8_stand z μ.2.1 v8 (0 : Int32) v11 σ he13) rfl (by decide) rfl (Nat.le_of_ble_eq_true rfl) ?_
      refine vr_pop (pc := 149) hc dX8_read_149 rfl ?_
      refine vr_iinc (pc := 150) hc dX8_read_150 (1 : Int32) (by decide) rfl (by decide) rfl ?_
      refine vr_goto (pc := 153) hc 113 dX8_read_153 (by decide) ?_
      exact vz_sub (ih x3 a5 x6 x7 (x8 + (1 : Int32)) σ15 ha5 h) (vz_sb1 rfl (vz_sb1 rfl (vz_sb1 rfl (vz_sb1 rfl (vz_sb1 rfl (vz_sb1 rfl vz_sb0))))))
def f_X8_read_96 (k44 : Int32 → Int32 → Int32 → Nat → Int32 → Int32 → Int32 → vz_I → Option (Int32 × vz_I)) (x2 : Int32) (x3 : Int32) (x4 : Int32) (a5 : Nat) (x6 : Int32) (x7 : Int32) (x8 : Int32) (σ : vz_I) : Option (Int32 × vz_I) := if x6 = 0 then k44 x2 x3 x4 a5 x6 (x7 + (1 : Int32)) (x8 + (1 : Int32)) σ else k44 x2 x3 x4 a5 x6 x7 (x8 + (1 : Int32)) σ
set_option maxRecDepth 20000 in
set_option maxHeartbeats 1000000 in
theorem wn_X8_read_96 (z : vz_Z) (μ : vz_M) (hc : vz_C z μ cX8_read RX8 3 9) {r : Int32} {σ' : vz_I} (hret : ∀ (pc : Nat) (L : vz_L), vz_ret cX8_read (some .int) pc (some (.int r)) → vz_V z μ 0 0 pc L ((some (.int r)) : Option Value).toList vz_G0 σ' vz_N0) (k44 : Int32 → Int32 → Int32 → Nat → Int32 → Int32 → Int32 → vz_I → Option (Int32 × vz_I)) (hk44 : ∀ (x2 : Int32) (x3 : Int32) (x4 : Int32) (a5 : Nat) (x6 : Int32) (x7 : Int32) (x8 : Int32) (σ : vz_I), (vz_G0 a5).1 = 4 → k44 x2 x3 x4 a5 x6 x7 x8 σ = some (r, σ') → vz_V z μ 0 0 44 [(0, some (.ref 0)), (2, some (.int x2)), (3, some (.int x3)), (4, some (.int x4)), (5, some (.ref a5)), (6, some (.int x6)), (7, some (.int x7)), (8, some (.int x8))] [] vz_G0 σ vz_N0) (x2 : Int32) (x3 : Int32) (x4 : Int32) (a5 : Nat) (x6 : Int32) (x7 : Int32) (x8 : Int32) (σ : vz_I) (ha5 : (vz_G0 a5).1 = 4) (h : f_X8_read_96 k44 x2 x3 x4 a5 x6 x7 x8 σ = some (r, σ')) : vz_V z μ 0 0 96 [(0, some (.ref 0)), (2, some (.int x2)), (3, some (.int x3)), (4, some (.int x4)), (5, some (.ref a5)), (6, some (.int x6)), (7, some (.int x7)), (8, some (.int x8))] [] vz_G0 σ vz_N0 := by
  unfold f_X8_read_96 at h
  refine vr_iload (pc := 96) hc dX8_read_96 rfl ?_
  refine vr_if_ne (pc := 98) hc 104 dX8_read_98 (by decide) (fun hb18 => ?_) (fun hb18 => ?_)
  · rw [if_neg hb18] at h
    refine vr_iinc (pc := 104) hc dX8_read_104 (1 : Int32) (by decide) rfl (by decide) rfl ?_
    refine vr_goto (pc := 107) hc 44 dX8_read_107 (by decide) ?_
    exact vz_sub (hk44 x2 x3 x4 a5 x6 x7 (x8 + (1 : Int32)) σ ha5 h) (vz_sb1 rfl (vz_sb1 rfl (vz_sb1 rfl (vz_sb1 rfl (vz_sb1 rfl (vz_sb1 rfl (vz_sb1 rfl (vz_sb1 rfl vz_sb0))))))))
  · rw [if_pos hb18] at h
    refine vr_iinc (pc := 101) hc dX8_read_101 (1 : Int32) (by decide) rfl (by decide) rfl ?_
    refine vr_iinc (pc := 104) hc dX8_read_104 (1 : Int32) (by decide) rfl (by decide) rfl ?_
    refine vr_goto (pc := 107) hc 44 dX8_read_107 (by decide) ?_
    exact vz_sub (hk44 x2 x3 x4 a5 x6 (x7 + (1 : Int32)) (x8 + (1 : Int32)) σ ha5 h) (vz_sb1 rfl (vz_sb1 rfl (vz_sb1 rfl (vz_sb1 rfl (vz_sb1 rfl (vz_sb1 rfl (vz_sb1 rfl (vz_sb1 rfl vz_sb0))))))))
def f_X8_read_44 : Nat → Int32 → Int32 → Int32 → Nat → Int32 → Int32 → Int32 → vz_I → Option (Int32 × vz_I)
  | 0, _, _, _, _, _, _, _, _ => none
  | n + 1, x2, x3, x4, a5, x6, x7, x8, σ => if x4 ≤ x8 then f_X8_read_113 vz_fu x3 a5 x6 x7 (0 : Int32) σ else if x6 = 0 then if (f_X4_faultOfPair a5 x2 (x3 + ((2 : Int32) * x8)) σ) = 0 then vz_b1 (f_X8_canStand a5 (x3 + ((2 : Int32) * x8)) σ) (fun v20 => if v20 = 0 then some ((-20 : Int32) - x8, σ) else f_X8_read_96 (f_X8_read_44 n) x2 x3 x4 a5 (f_X4_faultOfPair a5 x2 (x3 + ((2 : Int32) * x8)) σ) x7 x8 σ) else f_X8_read_96 (f_X8_read_44 n) x2 x3 x4 a5 (f_X4_faultOfPair a5 x2 (x3 + ((2 : Int32) * x8)) σ) x7 x8 σ else f_X8_read_113 vz_fu x3 a5 x6 x7 (0 : Int32) σ
theorem f_X8_read_44_s (n : Nat) (x2 : Int32) (x3 : Int32) (x4 : Int32) (a5 : Nat) (x6 : Int32) (x7 : Int32) (x8 : Int32) (σ : vz_I) : f_X8_read_44  (n + 1) x2 x3 x4 a5 x6 x7 x8 σ = if x4 ≤ x8 then f_X8_read_113 vz_fu x3 a5 x6 x7 (0 : Int32) σ else if x6 = 0 then if (f_X4_faultOfPair a5 x2 (x3 + ((2 : Int32) * x8)) σ) = 0 then vz_b1 (f_X8_canStand a5 (x3 + ((2 : Int32) * x8)) σ) (fun v20 => if v20 = 0 then some ((-20 : Int32) - x8, σ) else f_X8_read_96 (f_X8_read_44 n) x2 x3 x4 a5 (f_X4_faultOfPair a5 x2 (x3 + ((2 : Int32) * x8)) σ) x7 x8 σ) else f_X8_read_96 (f_X8_read_44 n) x2 x3 x4 a5 (f_X4_faultOfPair a5 x2 (x3 + ((2 : Int32) * x8)) σ) x7 x8 σ else f_X8_read_113 vz_fu x3 a5 x6 x7 (0 : Int32) σ := rfl
set_option maxRecDepth 20000 in
set_option maxHeartbeats 1000000 in
theorem wn_X8_read_44 (z : vz_Z) (μ : vz_M) (hc : vz_C z μ cX8_read RX8 3 9) {r : Int32} {σ' : vz_I} (hret : ∀ (pc : Nat) (L : vz_L), vz_ret cX8_read (some .int) pc (some (.int r)) → vz_V z μ 0 0 pc L ((some (.int r)) : Option Value).toList vz_G0 σ' vz_N0) : ∀ (n : Nat) (x2 : Int32) (x3 : Int32) (x4 : Int32) (a5 : Nat) (x6 : Int32) (x7 : Int32) (x8 : Int32) (σ : vz_I) (ha5 : (vz_G0 a5).1 = 4) (h : f_X8_read_44  n x2 x3 x4 a5 x6 x7 x8 σ = some (r, σ')), vz_V z μ 0 0 44 [(0, some (.ref 0)), (2, some (.int x2)), (3, some (.int x3)), (4, some (.int x4)), (5, some (.ref a5)), (6, some (.int x6)), (7, some (.int x7)), (8, some (.int x8))] [] vz_G0 σ vz_N0 := by
  intro n
  induction n with
  | zero =>
    intro x2 x3 x4 a5 x6 x7 x8 σ ha5 h
    cases h
  | succ n ih =>
    intro x2 x3 x4 a5 x6 x7 x8 σ ha5 h
    rw [f_X8_read_44_s] at h
    refine vr_iload (pc := 44) hc dX8_read_44 rfl ?_
    refine vr_iload (pc := 46) hc dX8_read_46 rfl ?_
    refine vr_icmp_ge (pc := 48) hc 110 dX8_read_48 (by decide) (fun hb5 => ?_) (fun hb5 => ?_)
    · rw [if_pos hb5] at h
      refine vr_iconst (pc := 110) hc dX8_read_110 (0 : Int32) (by decide) ?_
      refine vr_istore (pc := 111) hc dX8_read_111 (by decide) rfl ?_
      exact vz_sub (wn_X8_read_113 z μ hc hret vz_fu x3 a5 x6 x7 (0 : Int32) σ ha5 h) (vz_sb1 rfl (vz_sb1 rfl (vz_sb1 rfl (vz_sb1 rfl (vz_sb1 rfl (vz_sb1 rfl vz_sb0))))))
    · rw [if_neg hb5] at h
      refine vr_iload (pc := 51) hc dX8_read_51 rfl ?_
      refine vr_if_ne (pc := 53) hc 110 dX8_read_53 (by decide) (fun hb16 => ?_) (fun hb16 => ?_)
      · rw [if_neg hb16] at h
        refine vr_iconst (pc := 110) hc dX8_read_110 (0 : Int32) (by decide) ?_
        refine vr_istore (pc := 111) hc dX8_read_111 (by decide) rfl ?_
        exact vz_sub (wn_X8_read_113 z μ hc hret vz_fu x3 a5 x6 x7 (0 : Int32) σ ha5 h) (vz_sb1 rfl (vz_sb1 rfl (vz_sb1 rfl (vz_sb1 rfl (vz_sb1 rfl (vz_sb1 rfl vz_sb0))))))
      · rw [if_pos hb16] at h
        refine vr_aload (pc := 56) hc dX8_read_56 rfl ?_
        refine vr_iload_n (pc := 58) hc dX8_read_58 rfl ?_
        refine vr_iload_n (pc := 59) hc dX8_read_59 rfl ?_
        refine vr_iconst (pc := 60) hc dX8_read_60 (2 : Int32) (by decide) ?_
        refine vr_iload (pc := 61) hc dX8_read_61 rfl ?_
        refine vr_imul (pc := 63) hc dX8_read_63 ?_
        refine vr_iadd (pc := 64) hc dX8_read_64 ?_
        refine vr_cVi (pc := 65) hc dX8_read_65 mt_X4_faultOfPair ml_X8_335 ha5 (w_X4_faultOfPair z μ.2.1 a5 x2 (x3 + ((2 : Int32) * x8)) σ ha5 rfl) rfl (by decide) rfl (Nat.le_of_ble_eq_true rfl) ?_
        refine vr_istore (pc := 68) hc dX8_read_68 (by decide) rfl ?_
        refine vr_iload (pc := 70) hc dX8_read_70 rfl ?_
        refine vr_if_ne (pc := 72) hc 96 dX8_read_72 (by decide) (fun hb17 => ?_) (fun hb17 => ?_)
        · rw [if_neg hb17] at h
          exact vz_sub (wn_X8_read_96 z μ hc hret (f_X8_read_44 n) ih x2 x3 x4 a5 (f_X4_faultOfPair a5 x2 (x3 + ((2 : Int32) * x8)) σ) x7 x8 σ ha5 h) (vz_sb1 rfl (vz_sb1 rfl (vz_sb1 rfl (vz_sb1 rfl (vz_sb1 rfl (vz_sb1 rfl (vz_sb1 rfl (vz_sb1 rfl vz_sb0))))))))
        · rw [if_pos hb17] at h
          refine vr_aload_n (pc := 75) hc dX8_read_75 rfl ?_
          refine vr_aload (pc := 76) hc dX8_read_76 rfl ?_
          refine vr_iload_n (pc := 78) hc dX8_read_78 rfl ?_
          refine vr_iconst (pc := 79) hc dX8_read_79 (2 : Int32) (by decide) ?_
          refine vr_iload (pc := 80) hc dX8_read_80 rfl ?_
          refine vr_imul (pc := 82) hc dX8_read_82 ?_
          refine vr_iadd (pc := 83) hc dX8_read_83 ?_
          obtain ⟨v20, he19, h⟩ := vz_b1e h
          refine vr_cVi (pc := 84) hc dX8_read_84 mt_X8_canStand ml_X8_338 gc_0 (w_X8_canStand z μ.2.1 a5 (x3 + ((2 : Int32) * x8)) σ ha5 he19) rfl (by decide) rfl (Nat.le_of_ble_eq_true rfl) ?_
          refine vr_if_ne (pc := 87) hc 96 dX8_read_87 (by decide) (fun hb22 => ?_) (fun hb22 => ?_)
          · rw [if_neg hb22] at h
            exact vz_sub (wn_X8_read_96 z μ hc hret (f_X8_read_44 n) ih x2 x3 x4 a5 (f_X4_faultOfPair a5 x2 (x3 + ((2 : Int32) * x8)) σ) x7 x8 σ ha5 h) (vz_sb1 rfl (vz_sb1 rfl (vz_sb1 rfl (vz_sb1 rfl (vz_sb1 rfl (vz_sb1 rfl (vz_sb1 rfl (vz_sb1 rfl vz_sb0))))))))
          · rw [if_pos hb22] at h
            refine vr_bipush (pc := 90) hc dX8_read_90 (-20 : Int32) (by decide) ?_
            refine vr_iload (pc := 92) hc dX8_read_92 rfl ?_
            refine vr_isub (pc := 94) hc dX8_read_94 ?_
            obtain ⟨rfl, rfl⟩ := vz_in2 h
            exact hret _ _ (vz_ret_i dX8_read_95 rfl)
def f_X8_read (x1 : Int32) (x2 : Int32) (x3 : Int32) (x4 : Int32) (σ : vz_I) : Option (Int32 × vz_I) := if (f_X8_isSheet x1) = 0 then some ((-1 : Int32), σ) else if (f_X8_isLane x2) = 0 then some ((-1 : Int32), σ) else if (f_X8_isWithin x4 (0 : Int32) (20 : Int32)) = 0 then some ((-1 : Int32), σ) else if vz_in x1 4 then f_X8_read_44 vz_fu x2 x3 x4 (100 + 2 * x1.toNatClampNeg) (0 : Int32) (0 : Int32) (0 : Int32) σ else none
set_option maxRecDepth 20000 in
set_option maxHeartbeats 1000000 in
theorem w_X8_read (z : vz_Z) (l : Launch) (x1 : Int32) (x2 : Int32) (x3 : Int32) (x4 : Int32) (σ : vz_I)  {r : Int32} {σ' : vz_I} (h : f_X8_read x1 x2 x3 x4 σ = some (r, σ')) : vz_Con z l 3 yX8_read cX8_read 9 (some .int) [.ref 0, .int x1, .int x2, .int x3, .int x4] vz_G0 σ vz_N0 (some (.int r)) vz_G0 σ' vz_N0 0 0 := by
  refine vz_con (by decide) (Nat.le_of_ble_eq_true rfl) (fun μ hc hl hcap hret => ?_)
  subst hl
  unfold f_X8_read at h
  refine vr_iload_n (pc := 0) hc dX8_read_0 rfl ?_
  refine vr_cSi (pc := 1) hc dX8_read_1 mt_X8_isSheet sx_X8_isSheet ml_X8_317  (w_X8_isSheet z μ.2.1 x1 σ rfl) rfl (by decide) rfl (Nat.le_of_ble_eq_true rfl) ?_
  refine vr_if_eq (pc := 4) hc 25 dX8_read_4 (by decide) (fun hb1 => ?_) (fun hb1 => ?_)
  · rw [if_pos hb1] at h
    refine vr_iconst (pc := 25) hc dX8_read_25 (-1 : Int32) (by decide) ?_
    obtain ⟨rfl, rfl⟩ := vz_in2 h
    exact hret _ _ (vz_ret_i dX8_read_26 rfl)
  · rw [if_neg hb1] at h
    refine vr_iload_n (pc := 7) hc dX8_read_7 rfl ?_
    refine vr_cSi (pc := 8) hc dX8_read_8 mt_X8_isLane sx_X8_isLane ml_X8_320  (w_X8_isLane z μ.2.1 x2 σ rfl) rfl (by decide) rfl (Nat.le_of_ble_eq_true rfl) ?_
    refine vr_if_eq (pc := 11) hc 25 dX8_read_11 (by decide) (fun hb2 => ?_) (fun hb2 => ?_)
    · rw [if_pos hb2] at h
      refine vr_iconst (pc := 25) hc dX8_read_25 (-1 : Int32) (by decide) ?_
      obtain ⟨rfl, rfl⟩ := vz_in2 h
      exact hret _ _ (vz_ret_i dX8_read_26 rfl)
    · rw [if_neg hb2] at h
      refine vr_iload (pc := 14) hc dX8_read_14 rfl ?_
      refine vr_iconst (pc := 16) hc dX8_read_16 (0 : Int32) (by decide) ?_
      refine vr_bipush (pc := 17) hc dX8_read_17 (20 : Int32) (by decide) ?_
      refine vr_cSi (pc := 19) hc dX8_read_19 mt_X8_isWithin sx_X8_isWithin ml_X8_70  (w_X8_isWithin z μ.2.1 x4 (0 : Int32) (20 : Int32) σ rfl) rfl (by decide) rfl (Nat.le_of_ble_eq_true rfl) ?_
      refine vr_if_ne (pc := 22) hc 27 dX8_read_22 (by decide) (fun hb3 => ?_) (fun hb3 => ?_)
      · rw [if_neg hb3] at h
        refine vr_aload_n (pc := 27) hc dX8_read_27 rfl ?_
        refine vr_getR (pc := 28) hc dX8_read_28 fl_X8_43 gc_0 (gr_8_6 gc_0).1 ?_
        refine vr_iload_n (pc := 31) hc dX8_read_31 rfl ?_
        have hb4 := vz_ifp h
        rw [if_pos hb4] at h
        refine vr_aald (pc := 32) hc 15 4 dX8_read_32 ((gr_8_6 gc_0).2.1) (by decide) (by decide) ((gr_8_6 gc_0).2.2) (vz_in_vp hb4) (ge_15 gc_0 (vz_in_lt hb4)).1 ?_
        refine vr_astore (pc := 33) hc dX8_read_33 (by decide) rfl ?_
        refine vr_iconst (pc := 35) hc dX8_read_35 (0 : Int32) (by decide) ?_
        refine vr_istore (pc := 36) hc dX8_read_36 (by decide) rfl ?_
        refine vr_iconst (pc := 38) hc dX8_read_38 (0 : Int32) (by decide) ?_
        refine vr_istore (pc := 39) hc dX8_read_39 (by decide) rfl ?_
        refine vr_iconst (pc := 41) hc dX8_read_41 (0 : Int32) (by decide) ?_
        refine vr_istore (pc := 42) hc dX8_read_42 (by decide) rfl ?_
        exact vz_sub (wn_X8_read_44 z μ hc hret vz_fu x2 x3 x4 (100 + 2 * x1.toNatClampNeg) (0 : Int32) (0 : Int32) (0 : Int32) σ ((ge_15 gc_0 (vz_in_lt hb4)).2) h) (vz_sb1 rfl (vz_sb1 rfl (vz_sb1 rfl (vz_sb1 rfl (vz_sb1 rfl (vz_sb1 rfl (vz_sb1 rfl (vz_sb1 rfl vz_sb0))))))))
      · rw [if_pos hb3] at h
        refine vr_iconst (pc := 25) hc dX8_read_25 (-1 : Int32) (by decide) ?_
        obtain ⟨rfl, rfl⟩ := vz_in2 h
        exact hret _ _ (vz_ret_i dX8_read_26 rfl)
-- X9_readMan: depth 3, effects S=True W=True P=True
def f_X9_readMan_101 (x2 : Int32) (x3 : Int32) (σ : vz_I) : Option vz_I := if vz_in ((8 : Int32) + x2) 61 then vz_let (vz_up (vz_up σ 110 ((8 : Int32) + x2).toNatClampNeg x3) 108 4 (((vz_up σ 110 ((8 : Int32) + x2).toNatClampNeg x3) 108 4) + (1 : Int32))) (fun σ14 => some σ14) else none
set_option maxRecDepth 20000 in
set_option maxHeartbeats 1000000 in
theorem wn_X9_readMan_101 (z : vz_Z) (μ : vz_M) (hc : vz_C z μ cX9_readMan RX9 3 4) {σ' : vz_I} (hret : ∀ (pc : Nat) (L : vz_L), vz_ret cX9_readMan none pc none → vz_V z μ 0 0 pc L (none : Option Value).toList vz_G0 σ' vz_N0) (x2 : Int32) (x3 : Int32) (σ : vz_I)  (h : f_X9_readMan_101  x2 x3 σ = some σ') : vz_V z μ 0 0 101 [(0, some (.ref 108)), (2, some (.int x2)), (3, some (.int x3))] [] vz_G0 σ vz_N0 := by
  unfold f_X9_readMan_101 at h
  refine vr_aload_n (pc := 101) hc dX9_readMan_101 rfl ?_
  refine vr_getR (pc := 102) hc dX9_readMan_102 fl_X9_13 gc_108 (gr_9_3 gc_108).1 ?_
  refine vr_bipush (pc := 105) hc dX9_readMan_105 (8 : Int32) (by decide) ?_
  refine vr_iload_n (pc := 107) hc dX9_readMan_107 rfl ?_
  refine vr_iadd (pc := 108) hc dX9_readMan_108 ?_
  refine vr_iload_n (pc := 109) hc dX9_readMan_109 rfl ?_
  have hb13 := vz_ifp h
  rw [if_pos hb13] at h
  refine vr_iast (pc := 110) hc 61 dX9_readMan_110 ((gr_9_3 gc_108).2.1) ((gr_9_3 gc_108).2.2) (vz_in_vp hb13) ?_
  refine vr_aload_n (pc := 111) hc dX9_readMan_111 rfl ?_
  refine vr_dup (pc := 112) hc dX9_readMan_112 rfl ?_
  refine vr_getI (pc := 113) hc dX9_readMan_113 fl_X9_100 gc_108 (gi_9_4 gc_108) ?_
  refine vr_iconst (pc := 116) hc dX9_readMan_116 (1 : Int32) (by decide) ?_
  refine vr_iadd (pc := 117) hc dX9_readMan_117 ?_
  refine vr_putI (pc := 118) hc dX9_readMan_118 fl_X9_100 gc_108 (gi_9_4 gc_108) rfl rfl ?_
  obtain ⟨σ14, hσ15⟩ : ∃ x, x = vz_up (vz_up σ 110 ((8 : Int32) + x2).toNatClampNeg x3) 108 4 (((vz_up σ 110 ((8 : Int32) + x2).toNatClampNeg x3) 108 4) + (1 : Int32)) := ⟨_, rfl⟩
  rw [← hσ15] at h ⊢
  rw [vz_let_e] at h
  obtain rfl := Option.some.inj h
  exact hret _ _ (vz_ret_v dX9_readMan_121)
def f_X9_readMan_47 : Nat → Int32 → Int32 → vz_I → Option vz_I
  | 0, _, _, _ => none
  | n + 1, x2, x3, σ => if (σ 108 10) = 0 then if (σ 108 14) = (2 : Int32) then if x3 = (4 : Int32) then f_X9_readMan_47 n x2 x3 (f_X9_fails (5 : Int32) σ) else vz_b2 (f_X9_number (0 : Int32) (7 : Int32) σ) (fun v19 σ20 => if vz_in (((12 : Int32) + ((4 : Int32) * x2)) + x3) 61 then vz_let (vz_up σ20 110 (((12 : Int32) + ((4 : Int32) * x2)) + x3).toNatClampNeg v19) (fun σ22 => f_X9_readMan_47 n x2 (x3 + (1 : Int32)) σ22) else none) else f_X9_readMan_101 x2 x3 σ else f_X9_readMan_101 x2 x3 σ
theorem f_X9_readMan_47_s (n : Nat) (x2 : Int32) (x3 : Int32) (σ : vz_I) : f_X9_readMan_47  (n + 1) x2 x3 σ = if (σ 108 10) = 0 then if (σ 108 14) = (2 : Int32) then if x3 = (4 : Int32) then f_X9_readMan_47 n x2 x3 (f_X9_fails (5 : Int32) σ) else vz_b2 (f_X9_number (0 : Int32) (7 : Int32) σ) (fun v19 σ20 => if vz_in (((12 : Int32) + ((4 : Int32) * x2)) + x3) 61 then vz_let (vz_up σ20 110 (((12 : Int32) + ((4 : Int32) * x2)) + x3).toNatClampNeg v19) (fun σ22 => f_X9_readMan_47 n x2 (x3 + (1 : Int32)) σ22) else none) else f_X9_readMan_101 x2 x3 σ else f_X9_readMan_101 x2 x3 σ := rfl
set_option maxRecDepth 20000 in
set_option maxHeartbeats 1000000 in
theorem wn_X9_readMan_47 (z : vz_Z) (μ : vz_M) (hc : vz_C z μ cX9_readMan RX9 3 4) {σ' : vz_I} (hret : ∀ (pc : Nat) (L : vz_L), vz_ret cX9_readMan none pc none → vz_V z μ 0 0 pc L (none : Option Value).toList vz_G0 σ' vz_N0) : ∀ (n : Nat) (x2 : Int32) (x3 : Int32) (σ : vz_I)  (h : f_X9_readMan_47  n x2 x3 σ = some σ'), vz_V z μ 0 0 47 [(0, some (.ref 108)), (2, some (.int x2)), (3, some (.int x3))] [] vz_G0 σ vz_N0 := by
  intro n
  induction n with
  | zero =>
    intro x2 x3 σ h
    cases h
  | succ n ih =>
    intro x2 x3 σ h
    rw [f_X9_readMan_47_s] at h
    refine vr_aload_n (pc := 47) hc dX9_readMan_47 rfl ?_
    refine vr_getI (pc := 48) hc dX9_readMan_48 fl_X9_63 gc_108 (gi_9_10 gc_108) ?_
    refine vr_if_ne (pc := 51) hc 101 dX9_readMan_51 (by decide) (fun hb12 => ?_) (fun hb12 => ?_)
    · rw [if_neg hb12] at h
      exact vz_sub (wn_X9_readMan_101 z μ hc hret x2 x3 σ h) (vz_sb1 rfl (vz_sb1 rfl (vz_sb1 rfl vz_sb0)))
    · rw [if_pos hb12] at h
      refine vr_aload_n (pc := 54) hc dX9_readMan_54 rfl ?_
      refine vr_getI (pc := 55) hc dX9_readMan_55 fl_X9_72 gc_108 (gi_9_14 gc_108) ?_
      refine vr_iconst (pc := 58) hc dX9_readMan_58 (2 : Int32) (by decide) ?_
      refine vr_icmp_ne (pc := 59) hc 101 dX9_readMan_59 (by decide) (fun hb16 => ?_) (fun hb16 => ?_)
      · rw [if_neg hb16] at h
        exact vz_sub (wn_X9_readMan_101 z μ hc hret x2 x3 σ h) (vz_sb1 rfl (vz_sb1 rfl (vz_sb1 rfl vz_sb0)))
      · rw [if_pos hb16] at h
        refine vr_iload_n (pc := 62) hc dX9_readMan_62 rfl ?_
        refine vr_iconst (pc := 63) hc dX9_readMan_63 (4 : Int32) (by decide) ?_
        refine vr_icmp_ne (pc := 64) hc 75 dX9_readMan_64 (by decide) (fun hb17 => ?_) (fun hb17 => ?_)
        · rw [if_neg hb17] at h
          refine vr_aload_n (pc := 75) hc dX9_readMan_75 rfl ?_
          refine vr_getR (pc := 76) hc dX9_readMan_76 fl_X9_13 gc_108 (gr_9_3 gc_108).1 ?_
          refine vr_bipush (pc := 79) hc dX9_readMan_79 (12 : Int32) (by decide) ?_
          refine vr_iconst (pc := 81) hc dX9_readMan_81 (4 : Int32) (by decide) ?_
          refine vr_iload_n (pc := 82) hc dX9_readMan_82 rfl ?_
          refine vr_imul (pc := 83) hc dX9_readMan_83 ?_
          refine vr_iadd (pc := 84) hc dX9_readMan_84 ?_
          refine vr_iload_n (pc := 85) hc dX9_readMan_85 rfl ?_
          refine vr_iadd (pc := 86) hc dX9_readMan_86 ?_
          refine vr_aload_n (pc := 87) hc dX9_readMan_87 rfl ?_
          refine vr_iconst (pc := 88) hc dX9_readMan_88 (0 : Int32) (by decide) ?_
          refine vr_bipush (pc := 89) hc dX9_readMan_89 (7 : Int32) (by decide) ?_
          obtain ⟨v19, σ20, he18, h⟩ := vz_b2e h
          refine vr_cVi (pc := 91) hc dX9_readMan_91 mt_X9_number ml_X9_103 gc_108 (w_X9_number z μ.2.1 (0 : Int32) (7 : Int32) σ he18) rfl (by decide) rfl (Nat.le_of_ble_eq_true rfl) ?_
          have hb21 := vz_ifp h
          rw [if_pos hb21] at h
          refine vr_iast (pc := 94) hc 61 dX9_readMan_94 ((gr_9_3 gc_108).2.1) ((gr_9_3 gc_108).2.2) (vz_in_vp hb21) ?_
          obtain ⟨σ22, hσ23⟩ : ∃ x, x = vz_up σ20 110 (((12 : Int32) + ((4 : Int32) * x2)) + x3).toNatClampNeg v19 := ⟨_, rfl⟩
          rw [← hσ23] at h ⊢
          rw [vz_let_e] at h
          refine vr_iinc (pc := 95) hc dX9_readMan_95 (1 : Int32) (by decide) rfl (by decide) rfl ?_
          refine vr_goto (pc := 98) hc 47 dX9_readMan_98 (by decide) ?_
          exact vz_sub (ih x2 (x3 + (1 : Int32)) σ22  h) (vz_sb1 rfl (vz_sb1 rfl (vz_sb1 rfl vz_sb0)))
        · rw [if_pos hb17] at h
          refine vr_aload_n (pc := 67) hc dX9_readMan_67 rfl ?_
          refine vr_iconst (pc := 68) hc dX9_readMan_68 (5 : Int32) (by decide) ?_
          refine vr_cVv (pc := 69) hc dX9_readMan_69 mt_X9_fails ml_X9_93 gc_108 (w_X9_fails z μ.2.1 (5 : Int32) σ rfl) rfl (by decide) rfl (Nat.le_of_ble_eq_true rfl) ?_
          refine vr_goto (pc := 72) hc 47 dX9_readMan_72 (by decide) ?_
          exact vz_sub (ih x2 x3 (f_X9_fails (5 : Int32) σ)  h) (vz_sb1 rfl (vz_sb1 rfl (vz_sb1 rfl vz_sb0)))
def f_X9_readMan (x1 : Int32) (σ : vz_I) : Option vz_I := if vz_in (σ 108 4) 61 then vz_b2 (f_X9_number (0 : Int32) (9 : Int32) (vz_up σ 110 (σ 108 4).toNatClampNeg x1)) (fun v3 σ4 => if vz_in ((4 : Int32) + (σ 108 4)) 61 then vz_b2 (f_X9_number (0 : Int32) (7 : Int32) (vz_up σ4 110 ((4 : Int32) + (σ 108 4)).toNatClampNeg v3)) (fun v7 σ8 => if vz_in ((12 : Int32) + ((4 : Int32) * (σ 108 4))) 61 then vz_let (vz_up σ8 110 ((12 : Int32) + ((4 : Int32) * (σ 108 4))).toNatClampNeg v7) (fun σ10 => f_X9_readMan_47 vz_fu (σ 108 4) (1 : Int32) σ10) else none) else none) else none
set_option maxRecDepth 20000 in
set_option maxHeartbeats 1000000 in
theorem w_X9_readMan (z : vz_Z) (l : Launch) (x1 : Int32) (σ : vz_I)  {σ' : vz_I} (h : f_X9_readMan x1 σ = some σ') : vz_Con z l 3 yX9_readMan cX9_readMan 4 none [.ref 108, .int x1] vz_G0 σ vz_N0 none vz_G0 σ' vz_N0 0 0 := by
  refine vz_con (by decide) (Nat.le_of_ble_eq_true rfl) (fun μ hc hl hcap hret => ?_)
  subst hl
  unfold f_X9_readMan at h
  refine vr_aload_n (pc := 0) hc dX9_readMan_0 rfl ?_
  refine vr_getI (pc := 1) hc dX9_readMan_1 fl_X9_100 gc_108 (gi_9_4 gc_108) ?_
  refine vr_istore_n (pc := 4) hc dX9_readMan_4 (by decide) rfl ?_
  refine vr_aload_n (pc := 5) hc dX9_readMan_5 rfl ?_
  refine vr_getR (pc := 6) hc dX9_readMan_6 fl_X9_13 gc_108 (gr_9_3 gc_108).1 ?_
  refine vr_iload_n (pc := 9) hc dX9_readMan_9 rfl ?_
  refine vr_iload_n (pc := 10) hc dX9_readMan_10 rfl ?_
  have hb1 := vz_ifp h
  rw [if_pos hb1] at h
  refine vr_iast (pc := 11) hc 61 dX9_readMan_11 ((gr_9_3 gc_108).2.1) ((gr_9_3 gc_108).2.2) (vz_in_vp hb1) ?_
  refine vr_aload_n (pc := 12) hc dX9_readMan_12 rfl ?_
  refine vr_getR (pc := 13) hc dX9_readMan_13 fl_X9_13 gc_108 (gr_9_3 gc_108).1 ?_
  refine vr_iconst (pc := 16) hc dX9_readMan_16 (4 : Int32) (by decide) ?_
  refine vr_iload_n (pc := 17) hc dX9_readMan_17 rfl ?_
  refine vr_iadd (pc := 18) hc dX9_readMan_18 ?_
  refine vr_aload_n (pc := 19) hc dX9_readMan_19 rfl ?_
  refine vr_iconst (pc := 20) hc dX9_readMan_20 (0 : Int32) (by decide) ?_
  refine vr_bipush (pc := 21) hc dX9_readMan_21 (9 : Int32) (by decide) ?_
  obtain ⟨v3, σ4, he2, h⟩ := vz_b2e h
  refine vr_cVi (pc := 23) hc dX9_readMan_23 mt_X9_number ml_X9_103 gc_108 (w_X9_number z μ.2.1 (0 : Int32) (9 : Int32) (vz_up σ 110 (σ 108 4).toNatClampNeg x1) he2) rfl (by decide) rfl (Nat.le_of_ble_eq_true rfl) ?_
  have hb5 := vz_ifp h
  rw [if_pos hb5] at h
  refine vr_iast (pc := 26) hc 61 dX9_readMan_26 ((gr_9_3 gc_108).2.1) ((gr_9_3 gc_108).2.2) (vz_in_vp hb5) ?_
  refine vr_aload_n (pc := 27) hc dX9_readMan_27 rfl ?_
  refine vr_getR (pc := 28) hc dX9_readMan_28 fl_X9_13 gc_108 (gr_9_3 gc_108).1 ?_
  refine vr_bipush (pc := 31) hc dX9_readMan_31 (12 : Int32) (by decide) ?_
  refine vr_iconst (pc := 33) hc dX9_readMan_33 (4 : Int32) (by decide) ?_
  refine vr_iload_n (pc := 34) hc dX9_readMan_34 rfl ?_
  refine vr_imul (pc := 35) hc dX9_readMan_35 ?_
  refine vr_iadd (pc := 36) hc dX9_readMan_36 ?_
  refine vr_aload_n (pc := 37) hc dX9_readMan_37 rfl ?_
  refine vr_iconst (pc := 38) hc dX9_readMan_38 (0 : Int32) (by decide) ?_
  refine vr_bipush (pc := 39) hc dX9_readMan_39 (7 : Int32) (by decide) ?_
  obtain ⟨v7, σ8, he6, h⟩ := vz_b2e h
  refine vr_cVi (pc := 41) hc dX9_readMan_41 mt_X9_number ml_X9_103 gc_108 (w_X9_number z μ.2.1 (0 : Int32) (7 : Int32) (vz_up σ4 110 ((4 : Int32) + (σ 108 4)).toNatClampNeg v3) he6) rfl (by decide) rfl (Nat.le_of_ble_eq_true rfl) ?_
  have hb9 := vz_ifp h
  rw [if_pos hb9] at h
  refine vr_iast (pc := 44) hc 61 dX9_readMan_44 ((gr_9_3 gc_108).2.1) ((gr_9_3 gc_108).2.2) (vz_in_vp hb9) ?_
  obtain ⟨σ10, hσ11⟩ : ∃ x, x = vz_up σ8 110 ((12 : Int32) + ((4 : Int32) * (σ 108 4))).toNatClampNeg v7 := ⟨_, rfl⟩
  rw [← hσ11] at h ⊢
  rw [vz_let_e] at h
  refine vr_iconst (pc := 45) hc dX9_readMan_45 (1 : Int32) (by decide) ?_
  refine vr_istore_n (pc := 46) hc dX9_readMan_46 (by decide) rfl ?_
  exact vz_sub (wn_X9_readMan_47 z μ hc hret vz_fu (σ 108 4) (1 : Int32) σ10 h) (vz_sb1 rfl (vz_sb1 rfl (vz_sb1 rfl vz_sb0)))
-- X9_readStreet: depth 3, effects S=True W=True P=True
def f_X9_readStreet_44 (x1 : Int32) (x2 : Int32) (σ : vz_I) : Option vz_I := if vz_in ((43 : Int32) + x1) 61 then vz_b2 (f_X9_number (0 : Int32) (7 : Int32) (vz_up σ 110 ((43 : Int32) + x1).toNatClampNeg x2)) (fun v8 σ9 => if vz_in ((52 : Int32) + x1) 61 then if vz_in (42 : Int32) 61 then if vz_in (42 : Int32) 61 then vz_let (vz_up (vz_up σ9 110 ((52 : Int32) + x1).toNatClampNeg v8) 110 (42 : Int32).toNatClampNeg (((vz_up σ9 110 ((52 : Int32) + x1).toNatClampNeg v8) 110 (42 : Int32).toNatClampNeg) + (1 : Int32))) (fun σ13 => some σ13) else none else none else none) else none
set_option maxRecDepth 20000 in
set_option maxHeartbeats 1000000 in
theorem wn_X9_readStreet_44 (z : vz_Z) (μ : vz_M) (hc : vz_C z μ cX9_readStreet RX9 3 3) {σ' : vz_I} (hret : ∀ (pc : Nat) (L : vz_L), vz_ret cX9_readStreet none pc none → vz_V z μ 0 0 pc L (none : Option Value).toList vz_G0 σ' vz_N0) (x1 : Int32) (x2 : Int32) (σ : vz_I)  (h : f_X9_readStreet_44  x1 x2 σ = some σ') : vz_V z μ 0 0 44 [(0, some (.ref 108)), (1, some (.int x1)), (2, some (.int x2))] [] vz_G0 σ vz_N0 := by
  unfold f_X9_readStreet_44 at h
  refine vr_aload_n (pc := 44) hc dX9_readStreet_44 rfl ?_
  refine vr_getR (pc := 45) hc dX9_readStreet_45 fl_X9_13 gc_108 (gr_9_3 gc_108).1 ?_
  refine vr_bipush (pc := 48) hc dX9_readStreet_48 (43 : Int32) (by decide) ?_
  refine vr_iload_n (pc := 50) hc dX9_readStreet_50 rfl ?_
  refine vr_iadd (pc := 51) hc dX9_readStreet_51 ?_
  refine vr_iload_n (pc := 52) hc dX9_readStreet_52 rfl ?_
  have hb6 := vz_ifp h
  rw [if_pos hb6] at h
  refine vr_iast (pc := 53) hc 61 dX9_readStreet_53 ((gr_9_3 gc_108).2.1) ((gr_9_3 gc_108).2.2) (vz_in_vp hb6) ?_
  refine vr_aload_n (pc := 54) hc dX9_readStreet_54 rfl ?_
  refine vr_getR (pc := 55) hc dX9_readStreet_55 fl_X9_13 gc_108 (gr_9_3 gc_108).1 ?_
  refine vr_bipush (pc := 58) hc dX9_readStreet_58 (52 : Int32) (by decide) ?_
  refine vr_iload_n (pc := 60) hc dX9_readStreet_60 rfl ?_
  refine vr_iadd (pc := 61) hc dX9_readStreet_61 ?_
  refine vr_aload_n (pc := 62) hc dX9_readStreet_62 rfl ?_
  refine vr_iconst (pc := 63) hc dX9_readStreet_63 (0 : Int32) (by decide) ?_
  refine vr_bipush (pc := 64) hc dX9_readStreet_64 (7 : Int32) (by decide) ?_
  obtain ⟨v8, σ9, he7, h⟩ := vz_b2e h
  refine vr_cVi (pc := 66) hc dX9_readStreet_66 mt_X9_number ml_X9_103 gc_108 (w_X9_number z μ.2.1 (0 : Int32) (7 : Int32) (vz_up σ 110 ((43 : Int32) + x1).toNatClampNeg x2) he7) rfl (by decide) rfl (Nat.le_of_ble_eq_true rfl) ?_
  have hb10 := vz_ifp h
  rw [if_pos hb10] at h
  refine vr_iast (pc := 69) hc 61 dX9_readStreet_69 ((gr_9_3 gc_108).2.1) ((gr_9_3 gc_108).2.2) (vz_in_vp hb10) ?_
  refine vr_aload_n (pc := 70) hc dX9_readStreet_70 rfl ?_
  refine vr_getR (pc := 71) hc dX9_readStreet_71 fl_X9_13 gc_108 (gr_9_3 gc_108).1 ?_
  refine vr_bipush (pc := 74) hc dX9_readStreet_74 (42 : Int32) (by decide) ?_
  refine vr_dup2 (pc := 76) hc dX9_readStreet_76 rfl rfl ?_
  have hb11 := vz_ifp h
  rw [if_pos hb11] at h
  refine vr_iald (pc := 77) hc 61 dX9_readStreet_77 ((gr_9_3 gc_108).2.1) ((gr_9_3 gc_108).2.2) (vz_in_vp hb11) ?_
  refine vr_iconst (pc := 78) hc dX9_readStreet_78 (1 : Int32) (by decide) ?_
  refine vr_iadd (pc := 79) hc dX9_readStreet_79 ?_
  have hb12 := vz_ifp h
  rw [if_pos hb12] at h
  refine vr_iast (pc := 80) hc 61 dX9_readStreet_80 ((gr_9_3 gc_108).2.1) ((gr_9_3 gc_108).2.2) (vz_in_vp hb12) ?_
  obtain ⟨σ13, hσ14⟩ : ∃ x, x = vz_up (vz_up σ9 110 ((52 : Int32) + x1).toNatClampNeg v8) 110 (42 : Int32).toNatClampNeg (((vz_up σ9 110 ((52 : Int32) + x1).toNatClampNeg v8) 110 (42 : Int32).toNatClampNeg) + (1 : Int32)) := ⟨_, rfl⟩
  rw [← hσ14] at h ⊢
  rw [vz_let_e] at h
  obtain rfl := Option.some.inj h
  exact hret _ _ (vz_ret_v dX9_readStreet_81)
def f_X9_readStreet  (σ : vz_I) : Option vz_I := if vz_in (42 : Int32) 61 then vz_b2 (f_X9_number (0 : Int32) (7 : Int32) σ) (fun v3 σ4 => if (σ4 108 10) = 0 then if (σ4 108 14) = (2 : Int32) then if (σ4 108 15) = v3 then f_X9_readStreet_44 (σ 110 (42 : Int32).toNatClampNeg) v3 (f_X9_fails (3 : Int32) σ4) else f_X9_readStreet_44 (σ 110 (42 : Int32).toNatClampNeg) v3 σ4 else f_X9_readStreet_44 (σ 110 (42 : Int32).toNatClampNeg) v3 σ4 else f_X9_readStreet_44 (σ 110 (42 : Int32).toNatClampNeg) v3 σ4) else none
set_option maxRecDepth 20000 in
set_option maxHeartbeats 1000000 in
theorem w_X9_readStreet (z : vz_Z) (l : Launch)  (σ : vz_I)  {σ' : vz_I} (h : f_X9_readStreet  σ = some σ') : vz_Con z l 3 yX9_readStreet cX9_readStreet 3 none [.ref 108] vz_G0 σ vz_N0 none vz_G0 σ' vz_N0 0 0 := by
  refine vz_con (by decide) (Nat.le_of_ble_eq_true rfl) (fun μ hc hl hcap hret => ?_)
  subst hl
  unfold f_X9_readStreet at h
  refine vr_aload_n (pc := 0) hc dX9_readStreet_0 rfl ?_
  refine vr_getR (pc := 1) hc dX9_readStreet_1 fl_X9_13 gc_108 (gr_9_3 gc_108).1 ?_
  refine vr_bipush (pc := 4) hc dX9_readStreet_4 (42 : Int32) (by decide) ?_
  have hb1 := vz_ifp h
  rw [if_pos hb1] at h
  refine vr_iald (pc := 6) hc 61 dX9_readStreet_6 ((gr_9_3 gc_108).2.1) ((gr_9_3 gc_108).2.2) (vz_in_vp hb1) ?_
  refine vr_istore_n (pc := 7) hc dX9_readStreet_7 (by decide) rfl ?_
  refine vr_aload_n (pc := 8) hc dX9_readStreet_8 rfl ?_
  refine vr_iconst (pc := 9) hc dX9_readStreet_9 (0 : Int32) (by decide) ?_
  refine vr_bipush (pc := 10) hc dX9_readStreet_10 (7 : Int32) (by decide) ?_
  obtain ⟨v3, σ4, he2, h⟩ := vz_b2e h
  refine vr_cVi (pc := 12) hc dX9_readStreet_12 mt_X9_number ml_X9_103 gc_108 (w_X9_number z μ.2.1 (0 : Int32) (7 : Int32) σ he2) rfl (by decide) rfl (Nat.le_of_ble_eq_true rfl) ?_
  refine vr_istore_n (pc := 15) hc dX9_readStreet_15 (by decide) rfl ?_
  refine vr_aload_n (pc := 16) hc dX9_readStreet_16 rfl ?_
  refine vr_getI (pc := 17) hc dX9_readStreet_17 fl_X9_63 gc_108 (gi_9_10 gc_108) ?_
  refine vr_if_ne (pc := 20) hc 44 dX9_readStreet_20 (by decide) (fun hb5 => ?_) (fun hb5 => ?_)
  · rw [if_neg hb5] at h
    exact vz_sub (wn_X9_readStreet_44 z μ hc hret (σ 110 (42 : Int32).toNatClampNeg) v3 σ4 h) (vz_sb1 rfl (vz_sb1 rfl (vz_sb1 rfl vz_sb0)))
  · rw [if_pos hb5] at h
    refine vr_aload_n (pc := 23) hc dX9_readStreet_23 rfl ?_
    refine vr_getI (pc := 24) hc dX9_readStreet_24 fl_X9_72 gc_108 (gi_9_14 gc_108) ?_
    refine vr_iconst (pc := 27) hc dX9_readStreet_27 (2 : Int32) (by decide) ?_
    refine vr_icmp_ne (pc := 28) hc 44 dX9_readStreet_28 (by decide) (fun hb15 => ?_) (fun hb15 => ?_)
    · rw [if_neg hb15] at h
      exact vz_sub (wn_X9_readStreet_44 z μ hc hret (σ 110 (42 : Int32).toNatClampNeg) v3 σ4 h) (vz_sb1 rfl (vz_sb1 rfl (vz_sb1 rfl vz_sb0)))
    · rw [if_pos hb15] at h
      refine vr_aload_n (pc := 31) hc dX9_readStreet_31 rfl ?_
      refine vr_getI (pc := 32) hc dX9_readStreet_32 fl_X9_82 gc_108 (gi_9_15 gc_108) ?_
      refine vr_iload_n (pc := 35) hc dX9_readStreet_35 rfl ?_
      refine vr_icmp_ne (pc := 36) hc 44 dX9_readStreet_36 (by decide) (fun hb16 => ?_) (fun hb16 => ?_)
      · rw [if_neg hb16] at h
        exact vz_sub (wn_X9_readStreet_44 z μ hc hret (σ 110 (42 : Int32).toNatClampNeg) v3 σ4 h) (vz_sb1 rfl (vz_sb1 rfl (vz_sb1 rfl vz_sb0)))
      · rw [if_pos hb16] at h
        refine vr_aload_n (pc := 39) hc dX9_readStreet_39 rfl ?_
        refine vr_iconst (pc := 40) hc dX9_readStreet_40 (3 : Int32) (by decide) ?_
        refine vr_cVv (pc := 41) hc dX9_readStreet_41 mt_X9_fails ml_X9_93 gc_108 (w_X9_fails z μ.2.1 (3 : Int32) σ4 rfl) rfl (by decide) rfl (Nat.le_of_ble_eq_true rfl) ?_
        exact vz_sub (wn_X9_readStreet_44 z μ hc hret (σ 110 (42 : Int32).toNatClampNeg) v3 (f_X9_fails (3 : Int32) σ4) h) (vz_sb1 rfl (vz_sb1 rfl (vz_sb1 rfl vz_sb0)))
-- X9_readReader: depth 3, effects S=True W=True P=True
def f_X9_readReader  (σ : vz_I) : Option vz_I := vz_b2 (f_X9_number (0 : Int32) (7 : Int32) σ) (fun v2 σ3 => if vz_in ((28 : Int32) + (σ 108 5)) 61 then vz_b2 (f_X9_number (0 : Int32) (59 : Int32) (vz_up σ3 110 ((28 : Int32) + (σ 108 5)).toNatClampNeg v2)) (fun v6 σ7 => if vz_in ((32 : Int32) + (σ 108 5)) 61 then if vz_in ((32 : Int32) + (σ 108 5)) 61 then vz_b2 (f_X9_number ((vz_up σ7 110 ((32 : Int32) + (σ 108 5)).toNatClampNeg v6) 110 ((32 : Int32) + (σ 108 5)).toNatClampNeg) (59 : Int32) (vz_up σ7 110 ((32 : Int32) + (σ 108 5)).toNatClampNeg v6)) (fun v11 σ12 => if vz_in ((36 : Int32) + (σ 108 5)) 61 then vz_let (vz_up (vz_up σ12 110 ((36 : Int32) + (σ 108 5)).toNatClampNeg v11) 108 5 (((vz_up σ12 110 ((36 : Int32) + (σ 108 5)).toNatClampNeg v11) 108 5) + (1 : Int32))) (fun σ14 => some σ14) else none) else none else none) else none)
set_option maxRecDepth 20000 in
set_option maxHeartbeats 1000000 in
theorem w_X9_readReader (z : vz_Z) (l : Launch)  (σ : vz_I)  {σ' : vz_I} (h : f_X9_readReader  σ = some σ') : vz_Con z l 3 yX9_readReader cX9_readReader 2 none [.ref 108] vz_G0 σ vz_N0 none vz_G0 σ' vz_N0 0 0 := by
  refine vz_con (by decide) (Nat.le_of_ble_eq_true rfl) (fun μ hc hl hcap hret => ?_)
  subst hl
  unfold f_X9_readReader at h
  refine vr_aload_n (pc := 0) hc dX9_readReader_0 rfl ?_
  refine vr_getI (pc := 1) hc dX9_readReader_1 fl_X9_107 gc_108 (gi_9_5 gc_108) ?_
  refine vr_istore_n (pc := 4) hc dX9_readReader_4 (by decide) rfl ?_
  refine vr_aload_n (pc := 5) hc dX9_readReader_5 rfl ?_
  refine vr_getR (pc := 6) hc dX9_readReader_6 fl_X9_13 gc_108 (gr_9_3 gc_108).1 ?_
  refine vr_bipush (pc := 9) hc dX9_readReader_9 (28 : Int32) (by decide) ?_
  refine vr_iload_n (pc := 11) hc dX9_readReader_11 rfl ?_
  refine vr_iadd (pc := 12) hc dX9_readReader_12 ?_
  refine vr_aload_n (pc := 13) hc dX9_readReader_13 rfl ?_
  refine vr_iconst (pc := 14) hc dX9_readReader_14 (0 : Int32) (by decide) ?_
  refine vr_bipush (pc := 15) hc dX9_readReader_15 (7 : Int32) (by decide) ?_
  obtain ⟨v2, σ3, he1, h⟩ := vz_b2e h
  refine vr_cVi (pc := 17) hc dX9_readReader_17 mt_X9_number ml_X9_103 gc_108 (w_X9_number z μ.2.1 (0 : Int32) (7 : Int32) σ he1) rfl (by decide) rfl (Nat.le_of_ble_eq_true rfl) ?_
  have hb4 := vz_ifp h
  rw [if_pos hb4] at h
  refine vr_iast (pc := 20) hc 61 dX9_readReader_20 ((gr_9_3 gc_108).2.1) ((gr_9_3 gc_108).2.2) (vz_in_vp hb4) ?_
  refine vr_aload_n (pc := 21) hc dX9_readReader_21 rfl ?_
  refine vr_getR (pc := 22) hc dX9_readReader_22 fl_X9_13 gc_108 (gr_9_3 gc_108).1 ?_
  refine vr_bipush (pc := 25) hc dX9_readReader_25 (32 : Int32) (by decide) ?_
  refine vr_iload_n (pc := 27) hc dX9_readReader_27 rfl ?_
  refine vr_iadd (pc := 28) hc dX9_readReader_28 ?_
  refine vr_aload_n (pc := 29) hc dX9_readReader_29 rfl ?_
  refine vr_iconst (pc := 30) hc dX9_readReader_30 (0 : Int32) (by decide) ?_
  refine vr_bipush (pc := 31) hc dX9_readReader_31 (59 : Int32) (by decide) ?_
  obtain ⟨v6, σ7, he5, h⟩ := vz_b2e h
  refine vr_cVi (pc := 33) hc dX9_readReader_33 mt_X9_number ml_X9_103 gc_108 (w_X9_number z μ.2.1 (0 : Int32) (59 : Int32) (vz_up σ3 110 ((28 : Int32) + (σ 108 5)).toNatClampNeg v2) he5) rfl (by decide) rfl (Nat.le_of_ble_eq_true rfl) ?_
  have hb8 := vz_ifp h
  rw [if_pos hb8] at h
  refine vr_iast (pc := 36) hc 61 dX9_readReader_36 ((gr_9_3 gc_108).2.1) ((gr_9_3 gc_108).2.2) (vz_in_vp hb8) ?_
  refine vr_aload_n (pc := 37) hc dX9_readReader_37 rfl ?_
  refine vr_getR (pc := 38) hc dX9_readReader_38 fl_X9_13 gc_108 (gr_9_3 gc_108).1 ?_
  refine vr_bipush (pc := 41) hc dX9_readReader_41 (36 : Int32) (by decide) ?_
  refine vr_iload_n (pc := 43) hc dX9_readReader_43 rfl ?_
  refine vr_iadd (pc := 44) hc dX9_readReader_44 ?_
  refine vr_aload_n (pc := 45) hc dX9_readReader_45 rfl ?_
  refine vr_aload_n (pc := 46) hc dX9_readReader_46 rfl ?_
  refine vr_getR (pc := 47) hc dX9_readReader_47 fl_X9_13 gc_108 (gr_9_3 gc_108).1 ?_
  refine vr_bipush (pc := 50) hc dX9_readReader_50 (32 : Int32) (by decide) ?_
  refine vr_iload_n (pc := 52) hc dX9_readReader_52 rfl ?_
  refine vr_iadd (pc := 53) hc dX9_readReader_53 ?_
  have hb9 := vz_ifp h
  rw [if_pos hb9] at h
  refine vr_iald (pc := 54) hc 61 dX9_readReader_54 ((gr_9_3 gc_108).2.1) ((gr_9_3 gc_108).2.2) (vz_in_vp hb9) ?_
  refine vr_bipush (pc := 55) hc dX9_readReader_55 (59 : Int32) (by decide) ?_
  obtain ⟨v11, σ12, he10, h⟩ := vz_b2e h
  refine vr_cVi (pc := 57) hc dX9_readReader_57 mt_X9_number ml_X9_103 gc_108 (w_X9_number z μ.2.1 ((vz_up σ7 110 ((32 : Int32) + (σ 108 5)).toNatClampNeg v6) 110 ((32 : Int32) + (σ 108 5)).toNatClampNeg) (59 : Int32) (vz_up σ7 110 ((32 : Int32) + (σ 108 5)).toNatClampNeg v6) he10) rfl (by decide) rfl (Nat.le_of_ble_eq_true rfl) ?_
  have hb13 := vz_ifp h
  rw [if_pos hb13] at h
  refine vr_iast (pc := 60) hc 61 dX9_readReader_60 ((gr_9_3 gc_108).2.1) ((gr_9_3 gc_108).2.2) (vz_in_vp hb13) ?_
  refine vr_aload_n (pc := 61) hc dX9_readReader_61 rfl ?_
  refine vr_dup (pc := 62) hc dX9_readReader_62 rfl ?_
  refine vr_getI (pc := 63) hc dX9_readReader_63 fl_X9_107 gc_108 (gi_9_5 gc_108) ?_
  refine vr_iconst (pc := 66) hc dX9_readReader_66 (1 : Int32) (by decide) ?_
  refine vr_iadd (pc := 67) hc dX9_readReader_67 ?_
  refine vr_putI (pc := 68) hc dX9_readReader_68 fl_X9_107 gc_108 (gi_9_5 gc_108) rfl rfl ?_
  obtain ⟨σ14, hσ15⟩ : ∃ x, x = vz_up (vz_up σ12 110 ((36 : Int32) + (σ 108 5)).toNatClampNeg v11) 108 5 (((vz_up σ12 110 ((36 : Int32) + (σ 108 5)).toNatClampNeg v11) 108 5) + (1 : Int32)) := ⟨_, rfl⟩
  rw [← hσ15] at h ⊢
  rw [vz_let_e] at h
  obtain rfl := Option.some.inj h
  exact hret _ _ (vz_ret_v dX9_readReader_71)
-- X9_learnsOn: depth 3, effects S=True W=True P=True
def f_X9_learnsOn_52 (k35 : Int32 → Int32 → vz_I → Option vz_I) (k41 : Int32 → Int32 → Int32 → vz_I → Option vz_I) : Nat → Int32 → Int32 → Int32 → Int32 → vz_I → Option vz_I
  | 0, _, _, _, _, _ => none
  | n + 1, x1, x2, x3, x4, σ => if (σ 108 2) ≤ x4 then k41 x1 x2 (x3 + (1 : Int32)) σ else if vz_in ((x1 + (4 : Int32)) + x3) 305 then vz_b1 (f_X9_readsOn x1 x4 x3 x2 (0 : Int32) σ) (fun v7 => if v7 = 0 then if vz_in (((10 : Int32) * x4) + (σ 109 ((x1 + (4 : Int32)) + x3).toNatClampNeg)) 40 then if vz_in (((10 : Int32) * x4) + (σ 109 ((x1 + (4 : Int32)) + x3).toNatClampNeg)) 40 then vz_let (vz_up σ 114 (((10 : Int32) * x4) + (σ 109 ((x1 + (4 : Int32)) + x3).toNatClampNeg)).toNatClampNeg (σ 114 (((10 : Int32) * x4) + (σ 109 ((x1 + (4 : Int32)) + x3).toNatClampNeg)).toNatClampNeg)) (fun σ12 => vz_b1 (f_X9_readsOn x1 x4 x3 x2 (1 : Int32) σ12) (fun v15 => if v15 = 0 then if vz_in (((10 : Int32) * x4) + (σ 109 ((x1 + (4 : Int32)) + x3).toNatClampNeg)) 40 then if vz_in (((10 : Int32) * x4) + (σ 109 ((x1 + (4 : Int32)) + x3).toNatClampNeg)) 40 then vz_let (vz_up σ12 115 (((10 : Int32) * x4) + (σ 109 ((x1 + (4 : Int32)) + x3).toNatClampNeg)).toNatClampNeg (σ12 115 (((10 : Int32) * x4) + (σ 109 ((x1 + (4 : Int32)) + x3).toNatClampNeg)).toNatClampNeg)) (fun σ20 => f_X9_learnsOn_52 k35 k41 n x1 x2 x3 (x4 + (1 : Int32)) σ20) else none else none else if vz_in (((10 : Int32) * x4) + (σ 109 ((x1 + (4 : Int32)) + x3).toNatClampNeg)) 40 then vz_let (vz_up σ12 115 (((10 : Int32) * x4) + (σ 109 ((x1 + (4 : Int32)) + x3).toNatClampNeg)).toNatClampNeg x2) (fun σ23 => f_X9_learnsOn_52 k35 k41 n x1 x2 x3 (x4 + (1 : Int32)) σ23) else none)) else none else none else if vz_in (((10 : Int32) * x4) + (σ 109 ((x1 + (4 : Int32)) + x3).toNatClampNeg)) 40 then vz_let (vz_up σ 114 (((10 : Int32) * x4) + (σ 109 ((x1 + (4 : Int32)) + x3).toNatClampNeg)).toNatClampNeg x2) (fun σ26 => vz_b1 (f_X9_readsOn x1 x4 x3 x2 (1 : Int32) σ26) (fun v29 => if v29 = 0 then if vz_in (((10 : Int32) * x4) + (σ 109 ((x1 + (4 : Int32)) + x3).toNatClampNeg)) 40 then if vz_in (((10 : Int32) * x4) + (σ 109 ((x1 + (4 : Int32)) + x3).toNatClampNeg)) 40 then vz_let (vz_up σ26 115 (((10 : Int32) * x4) + (σ 109 ((x1 + (4 : Int32)) + x3).toNatClampNeg)).toNatClampNeg (σ26 115 (((10 : Int32) * x4) + (σ 109 ((x1 + (4 : Int32)) + x3).toNatClampNeg)).toNatClampNeg)) (fun σ34 => f_X9_learnsOn_52 k35 k41 n x1 x2 x3 (x4 + (1 : Int32)) σ34) else none else none else if vz_in (((10 : Int32) * x4) + (σ 109 ((x1 + (4 : Int32)) + x3).toNatClampNeg)) 40 then vz_let (vz_up σ26 115 (((10 : Int32) * x4) + (σ 109 ((x1 + (4 : Int32)) + x3).toNatClampNeg)).toNatClampNeg x2) (fun σ37 => f_X9_learnsOn_52 k35 k41 n x1 x2 x3 (x4 + (1 : Int32)) σ37) else none)) else none) else none
theorem f_X9_learnsOn_52_s (k35 : Int32 → Int32 → vz_I → Option vz_I) (k41 : Int32 → Int32 → Int32 → vz_I → Option vz_I) (n : Nat) (x1 : Int32) (x2 : Int32) (x3 : Int32) (x4 : Int32) (σ : vz_I) : f_X9_learnsOn_52 k35 k41 (n + 1) x1 x2 x3 x4 σ = if (σ 108 2) ≤ x4 then k41 x1 x2 (x3 + (1 : Int32)) σ else if vz_in ((x1 + (4 : Int32)) + x3) 305 then vz_b1 (f_X9_readsOn x1 x4 x3 x2 (0 : Int32) σ) (fun v7 => if v7 = 0 then if vz_in (((10 : Int32) * x4) + (σ 109 ((x1 + (4 : Int32)) + x3).toNatClampNeg)) 40 then if vz_in (((10 : Int32) * x4) + (σ 109 ((x1 + (4 : Int32)) + x3).toNatClampNeg)) 40 then vz_let (vz_up σ 114 (((10 : Int32) * x4) + (σ 109 ((x1 + (4 : Int32)) + x3).toNatClampNeg)).toNatClampNeg (σ 114 (((10 : Int32) * x4) + (σ 109 ((x1 + (4 : Int32)) + x3).toNatClampNeg)).toNatClampNeg)) (fun σ12 => vz_b1 (f_X9_readsOn x1 x4 x3 x2 (1 : Int32) σ12) (fun v15 => if v15 = 0 then if vz_in (((10 : Int32) * x4) + (σ 109 ((x1 + (4 : Int32)) + x3).toNatClampNeg)) 40 then if vz_in (((10 : Int32) * x4) + (σ 109 ((x1 + (4 : Int32)) + x3).toNatClampNeg)) 40 then vz_let (vz_up σ12 115 (((10 : Int32) * x4) + (σ 109 ((x1 + (4 : Int32)) + x3).toNatClampNeg)).toNatClampNeg (σ12 115 (((10 : Int32) * x4) + (σ 109 ((x1 + (4 : Int32)) + x3).toNatClampNeg)).toNatClampNeg)) (fun σ20 => f_X9_learnsOn_52 k35 k41 n x1 x2 x3 (x4 + (1 : Int32)) σ20) else none else none else if vz_in (((10 : Int32) * x4) + (σ 109 ((x1 + (4 : Int32)) + x3).toNatClampNeg)) 40 then vz_let (vz_up σ12 115 (((10 : Int32) * x4) + (σ 109 ((x1 + (4 : Int32)) + x3).toNatClampNeg)).toNatClampNeg x2) (fun σ23 => f_X9_learnsOn_52 k35 k41 n x1 x2 x3 (x4 + (1 : Int32)) σ23) else none)) else none else none else if vz_in (((10 : Int32) * x4) + (σ 109 ((x1 + (4 : Int32)) + x3).toNatClampNeg)) 40 then vz_let (vz_up σ 114 (((10 : Int32) * x4) + (σ 109 ((x1 + (4 : Int32)) + x3).toNatClampNeg)).toNatClampNeg x2) (fun σ26 => vz_b1 (f_X9_readsOn x1 x4 x3 x2 (1 : Int32) σ26) (fun v29 => if v29 = 0 then if vz_in (((10 : Int32) * x4) + (σ 109 ((x1 + (4 : Int32)) + x3).toNatClampNeg)) 40 then if vz_in (((10 : Int32) * x4) + (σ 109 ((x1 + (4 : Int32)) + x3).toNatClampNeg)) 40 then vz_let (vz_up σ26 115 (((10 : Int32) * x4) + (σ 109 ((x1 + (4 : Int32)) + x3).toNatClampNeg)).toNatClampNeg (σ26 115 (((10 : Int32) * x4) + (σ 109 ((x1 + (4 : Int32)) + x3).toNatClampNeg)).toNatClampNeg)) (fun σ34 => f_X9_learnsOn_52 k35 k41 n x1 x2 x3 (x4 + (1 : Int32)) σ34) else none else none else if vz_in (((10 : Int32) * x4) + (σ 109 ((x1 + (4 : Int32)) + x3).toNatClampNeg)) 40 then vz_let (vz_up σ26 115 (((10 : Int32) * x4) + (σ 109 ((x1 + (4 : Int32)) + x3).toNatClampNeg)).toNatClampNeg x2) (fun σ37 => f_X9_learnsOn_52 k35 k41 n x1 x2 x3 (x4 + (1 : Int32)) σ37) else none)) else none) else none := rfl
set_option maxRecDepth 20000 in
set_option maxHeartbeats 1000000 in
theorem wn_X9_learnsOn_52 (z : vz_Z) (μ : vz_M) (hc : vz_C z μ cX9_learnsOn RX9 3 6) {σ' : vz_I} (hret : ∀ (pc : Nat) (L : vz_L), vz_ret cX9_learnsOn none pc none → vz_V z μ 0 0 pc L (none : Option Value).toList vz_G0 σ' vz_N0) (k35 : Int32 → Int32 → vz_I → Option vz_I) (k41 : Int32 → Int32 → Int32 → vz_I → Option vz_I) (hk35 : ∀ (x1 : Int32) (x2 : Int32) (σ : vz_I), k35 x1 x2 σ = some σ' → vz_V z μ 0 0 35 [(0, some (.ref 108)), (1, some (.int x1)), (2, some (.int x2))] [] vz_G0 σ vz_N0) (hk41 : ∀ (x1 : Int32) (x2 : Int32) (x3 : Int32) (σ : vz_I), k41 x1 x2 x3 σ = some σ' → vz_V z μ 0 0 41 [(0, some (.ref 108)), (1, some (.int x1)), (2, some (.int x2)), (3, some (.int x3))] [] vz_G0 σ vz_N0) : ∀ (n : Nat) (x1 : Int32) (x2 : Int32) (x3 : Int32) (x4 : Int32) (σ : vz_I)  (h : f_X9_learnsOn_52 k35 k41 n x1 x2 x3 x4 σ = some σ'), vz_V z μ 0 0 52 [(0, some (.ref 108)), (1, some (.int x1)), (2, some (.int x2)), (3, some (.int x3)), (4, some (.int x4))] [] vz_G0 σ vz_N0 := by
  intro n
  induction n with
  | zero =>
    intro x1 x2 x3 x4 σ h
    cases h
  | succ n ih =>
    intro x1 x2 x3 x4 σ h
    rw [f_X9_learnsOn_52_s] at h
    refine vr_iload (pc := 52) hc dX9_learnsOn_52 rfl ?_
    refine vr_aload_n (pc := 54) hc dX9_learnsOn_54 rfl ?_
    refine vr_getI (pc := 55) hc dX9_learnsOn_55 fl_X9_153 gc_108 (gi_9_2 gc_108) ?_
    refine vr_icmp_ge (pc := 58) hc 147 dX9_learnsOn_58 (by decide) (fun hb4 => ?_) (fun hb4 => ?_)
    · rw [if_pos hb4] at h
      refine vr_iinc (pc := 147) hc dX9_learnsOn_147 (1 : Int32) (by decide) rfl (by decide) rfl ?_
      refine vr_goto (pc := 150) hc 41 dX9_learnsOn_150 (by decide) ?_
      exact vz_sub (hk41 x1 x2 (x3 + (1 : Int32)) σ  h) (vz_sb1 rfl (vz_sb1 rfl (vz_sb1 rfl (vz_sb1 rfl vz_sb0))))
    · rw [if_neg hb4] at h
      refine vr_bipush (pc := 61) hc dX9_learnsOn_61 (10 : Int32) (by decide) ?_
      refine vr_iload (pc := 63) hc dX9_learnsOn_63 rfl ?_
      refine vr_imul (pc := 65) hc dX9_learnsOn_65 ?_
      refine vr_aload_n (pc := 66) hc dX9_learnsOn_66 rfl ?_
      refine vr_getR (pc := 67) hc dX9_learnsOn_67 fl_X9_7 gc_108 (gr_9_0 gc_108).1 ?_
      refine vr_iload_n (pc := 70) hc dX9_learnsOn_70 rfl ?_
      refine vr_iconst (pc := 71) hc dX9_learnsOn_71 (4 : Int32) (by decide) ?_
      refine vr_iadd (pc := 72) hc dX9_learnsOn_72 ?_
      refine vr_iload_n (pc := 73) hc dX9_learnsOn_73 rfl ?_
      refine vr_iadd (pc := 74) hc dX9_learnsOn_74 ?_
      have hb5 := vz_ifp h
      rw [if_pos hb5] at h
      refine vr_iald (pc := 75) hc 305 dX9_learnsOn_75 ((gr_9_0 gc_108).2.1) ((gr_9_0 gc_108).2.2) (vz_in_vp hb5) ?_
      refine vr_iadd (pc := 76) hc dX9_learnsOn_76 ?_
      refine vr_istore (pc := 77) hc dX9_learnsOn_77 (by decide) rfl ?_
      refine vr_aload_n (pc := 79) hc dX9_learnsOn_79 rfl ?_
      refine vr_getR (pc := 80) hc dX9_learnsOn_80 fl_X9_25 gc_108 (gr_9_19 gc_108).1 ?_
      refine vr_iload (pc := 83) hc dX9_learnsOn_83 rfl ?_
      refine vr_aload_n (pc := 85) hc dX9_learnsOn_85 rfl ?_
      refine vr_iload_n (pc := 86) hc dX9_learnsOn_86 rfl ?_
      refine vr_iload (pc := 87) hc dX9_learnsOn_87 rfl ?_
      refine vr_iload_n (pc := 89) hc dX9_learnsOn_89 rfl ?_
      refine vr_iload_n (pc := 90) hc dX9_learnsOn_90 rfl ?_
      refine vr_iconst (pc := 91) hc dX9_learnsOn_91 (0 : Int32) (by decide) ?_
      obtain ⟨v7, he6, h⟩ := vz_b1e h
      refine vr_cVi (pc := 92) hc dX9_learnsOn_92 mt_X9_readsOn ml_X9_182 gc_108 (w_X9_readsOn z μ.2.1 x1 x4 x3 x2 (0 : Int32) σ he6) rfl (by decide) rfl (Nat.le_of_ble_eq_true rfl) ?_
      refine vr_if_eq (pc := 95) hc 102 dX9_learnsOn_95 (by decide) (fun hb9 => ?_) (fun hb9 => ?_)
      · rw [if_pos hb9] at h
        refine vr_aload_n (pc := 102) hc dX9_learnsOn_102 rfl ?_
        refine vr_getR (pc := 103) hc dX9_learnsOn_103 fl_X9_25 gc_108 (gr_9_19 gc_108).1 ?_
        refine vr_iload (pc := 106) hc dX9_learnsOn_106 rfl ?_
        have hb10 := vz_ifp h
        rw [if_pos hb10] at h
        refine vr_iald (pc := 108) hc 40 dX9_learnsOn_108 ((gr_9_19 gc_108).2.1) ((gr_9_19 gc_108).2.2) (vz_in_vp hb10) ?_
        have hb11 := vz_ifp h
        rw [if_pos hb11] at h
        refine vr_iast (pc := 109) hc 40 dX9_learnsOn_109 ((gr_9_19 gc_108).2.1) ((gr_9_19 gc_108).2.2) (vz_in_vp hb11) ?_
        obtain ⟨σ12, hσ13⟩ : ∃ x, x = vz_up σ 114 (((10 : Int32) * x4) + (σ 109 ((x1 + (4 : Int32)) + x3).toNatClampNeg)).toNatClampNeg (σ 114 (((10 : Int32) * x4) + (σ 109 ((x1 + (4 : Int32)) + x3).toNatClampNeg)).toNatClampNeg) := ⟨_, rfl⟩
        rw [← hσ13] at h ⊢
        rw [vz_let_e] at h
        refine vr_aload_n (pc := 110) hc dX9_learnsOn_110 rfl ?_
        refine vr_getR (pc := 111) hc dX9_learnsOn_111 fl_X9_28 gc_108 (gr_9_20 gc_108).1 ?_
        refine vr_iload (pc := 114) hc dX9_learnsOn_114 rfl ?_
        refine vr_aload_n (pc := 116) hc dX9_learnsOn_116 rfl ?_
        refine vr_iload_n (pc := 117) hc dX9_learnsOn_117 rfl ?_
        refine vr_iload (pc := 118) hc dX9_learnsOn_118 rfl ?_
        refine vr_iload_n (pc := 120) hc dX9_learnsOn_120 rfl ?_
        refine vr_iload_n (pc := 121) hc dX9_learnsOn_121 rfl ?_
        refine vr_iconst (pc := 122) hc dX9_learnsOn_122 (1 : Int32) (by decide) ?_
        obtain ⟨v15, he14, h⟩ := vz_b1e h
        refine vr_cVi (pc := 123) hc dX9_learnsOn_123 mt_X9_readsOn ml_X9_182 gc_108 (w_X9_readsOn z μ.2.1 x1 x4 x3 x2 (1 : Int32) σ12 he14) rfl (by decide) rfl (Nat.le_of_ble_eq_true rfl) ?_
        refine vr_if_eq (pc := 126) hc 133 dX9_learnsOn_126 (by decide) (fun hb17 => ?_) (fun hb17 => ?_)
        · rw [if_pos hb17] at h
          refine vr_aload_n (pc := 133) hc dX9_learnsOn_133 rfl ?_
          refine vr_getR (pc := 134) hc dX9_learnsOn_134 fl_X9_28 gc_108 (gr_9_20 gc_108).1 ?_
          refine vr_iload (pc := 137) hc dX9_learnsOn_137 rfl ?_
          have hb18 := vz_ifp h
          rw [if_pos hb18] at h
          refine vr_iald (pc := 139) hc 40 dX9_learnsOn_139 ((gr_9_20 gc_108).2.1) ((gr_9_20 gc_108).2.2) (vz_in_vp hb18) ?_
          have hb19 := vz_ifp h
          rw [if_pos hb19] at h
          refine vr_iast (pc := 140) hc 40 dX9_learnsOn_140 ((gr_9_20 gc_108).2.1) ((gr_9_20 gc_108).2.2) (vz_in_vp hb19) ?_
          obtain ⟨σ20, hσ21⟩ : ∃ x, x = vz_up σ12 115 (((10 : Int32) * x4) + (σ 109 ((x1 + (4 : Int32)) + x3).toNatClampNeg)).toNatClampNeg (σ12 115 (((10 : Int32) * x4) + (σ 109 ((x1 + (4 : Int32)) + x3).toNatClampNeg)).toNatClampNeg) := ⟨_, rfl⟩
          rw [← hσ21] at h ⊢
          rw [vz_let_e] at h
          refine vr_iinc (pc := 141) hc dX9_learnsOn_141 (1 : Int32) (by decide) rfl (by decide) rfl ?_
          refine vr_goto (pc := 144) hc 52 dX9_learnsOn_144 (by decide) ?_
          exact vz_sub (ih x1 x2 x3 (x4 + (1 : Int32)) σ20  h) (vz_sb1 rfl (vz_sb1 rfl (vz_sb1 rfl (vz_sb1 rfl (vz_sb1 rfl vz_sb0)))))
        · rw [if_neg hb17] at h
          refine vr_iload_n (pc := 129) hc dX9_learnsOn_129 rfl ?_
          refine vr_goto (pc := 130) hc 140 dX9_learnsOn_130 (by decide) ?_
          have hb22 := vz_ifp h
          rw [if_pos hb22] at h
          refine vr_iast (pc := 140) hc 40 dX9_learnsOn_140 ((gr_9_20 gc_108).2.1) ((gr_9_20 gc_108).2.2) (vz_in_vp hb22) ?_
          obtain ⟨σ23, hσ24⟩ : ∃ x, x = vz_up σ12 115 (((10 : Int32) * x4) + (σ 109 ((x1 + (4 : Int32)) + x3).toNatClampNeg)).toNatClampNeg x2 := ⟨_, rfl⟩
          rw [← hσ24] at h ⊢
          rw [vz_let_e] at h
          refine vr_iinc (pc := 141) hc dX9_learnsOn_141 (1 : Int32) (by decide) rfl (by decide) rfl ?_
          refine vr_goto (pc := 144) hc 52 dX9_learnsOn_144 (by decide) ?_
          exact vz_sub (ih x1 x2 x3 (x4 + (1 : Int32)) σ23  h) (vz_sb1 rfl (vz_sb1 rfl (vz_sb1 rfl (vz_sb1 rfl (vz_sb1 rfl vz_sb0)))))
      · rw [if_neg hb9] at h
        refine vr_iload_n (pc := 98) hc dX9_learnsOn_98 rfl ?_
        refine vr_goto (pc := 99) hc 109 dX9_learnsOn_99 (by decide) ?_
        have hb25 := vz_ifp h
        rw [if_pos hb25] at h
        refine vr_iast (pc := 109) hc 40 dX9_learnsOn_109 ((gr_9_19 gc_108).2.1) ((gr_9_19 gc_108).2.2) (vz_in_vp hb25) ?_
        obtain ⟨σ26, hσ27⟩ : ∃ x, x = vz_up σ 114 (((10 : Int32) * x4) + (σ 109 ((x1 + (4 : Int32)) + x3).toNatClampNeg)).toNatClampNeg x2 := ⟨_, rfl⟩
        rw [← hσ27] at h ⊢
        rw [vz_let_e] at h
        refine vr_aload_n (pc := 110) hc dX9_learnsOn_110 rfl ?_
        refine vr_getR (pc := 111) hc dX9_learnsOn_111 fl_X9_28 gc_108 (gr_9_20 gc_108).1 ?_
        refine vr_iload (pc := 114) hc dX9_learnsOn_114 rfl ?_
        refine vr_aload_n (pc := 116) hc dX9_learnsOn_116 rfl ?_
        refine vr_iload_n (pc := 117) hc dX9_learnsOn_117 rfl ?_
        refine vr_iload (pc := 118) hc dX9_learnsOn_118 rfl ?_
        refine vr_iload_n (pc := 120) hc dX9_learnsOn_120 rfl ?_
        refine vr_iload_n (pc := 121) hc dX9_learnsOn_121 rfl ?_
        refine vr_iconst (pc := 122) hc dX9_learnsOn_122 (1 : Int32) (by decide) ?_
        obtain ⟨v29, he28, h⟩ := vz_b1e h
        refine vr_cVi (pc := 123) hc dX9_learnsOn_123 mt_X9_readsOn ml_X9_182 gc_108 (w_X9_readsOn z μ.2.1 x1 x4 x3 x2 (1 : Int32) σ26 he28) rfl (by decide) rfl (Nat.le_of_ble_eq_true rfl) ?_
        refine vr_if_eq (pc := 126) hc 133 dX9_learnsOn_126 (by decide) (fun hb31 => ?_) (fun hb31 => ?_)
        · rw [if_pos hb31] at h
          refine vr_aload_n (pc := 133) hc dX9_learnsOn_133 rfl ?_
          refine vr_getR (pc := 134) hc dX9_learnsOn_134 fl_X9_28 gc_108 (gr_9_20 gc_108).1 ?_
          refine vr_iload (pc := 137) hc dX9_learnsOn_137 rfl ?_
          have hb32 := vz_ifp h
          rw [if_pos hb32] at h
          refine vr_iald (pc := 139) hc 40 dX9_learnsOn_139 ((gr_9_20 gc_108).2.1) ((gr_9_20 gc_108).2.2) (vz_in_vp hb32) ?_
          have hb33 := vz_ifp h
          rw [if_pos hb33] at h
          refine vr_iast (pc := 140) hc 40 dX9_learnsOn_140 ((gr_9_20 gc_108).2.1) ((gr_9_20 gc_108).2.2) (vz_in_vp hb33) ?_
          obtain ⟨σ34, hσ35⟩ : ∃ x, x = vz_up σ26 115 (((10 : Int32) * x4) + (σ 109 ((x1 + (4 : Int32)) + x3).toNatClampNeg)).toNatClampNeg (σ26 115 (((10 : Int32) * x4) + (σ 109 ((x1 + (4 : Int32)) + x3).toNatClampNeg)).toNatClampNeg) := ⟨_, rfl⟩
          rw [← hσ35] at h ⊢
          rw [vz_let_e] at h
          refine vr_iinc (pc := 141) hc dX9_learnsOn_141 (1 : Int32) (by decide) rfl (by decide) rfl ?_
          refine vr_goto (pc := 144) hc 52 dX9_learnsOn_144 (by decide) ?_
          exact vz_sub (ih x1 x2 x3 (x4 + (1 : Int32)) σ34  h) (vz_sb1 rfl (vz_sb1 rfl (vz_sb1 rfl (vz_sb1 rfl (vz_sb1 rfl vz_sb0)))))
        · rw [if_neg hb31] at h
          refine vr_iload_n (pc := 129) hc dX9_learnsOn_129 rfl ?_
          refine vr_goto (pc := 130) hc 140 dX9_learnsOn_130 (by decide) ?_
          have hb36 := vz_ifp h
          rw [if_pos hb36] at h
          refine vr_iast (pc := 140) hc 40 dX9_learnsOn_140 ((gr_9_20 gc_108).2.1) ((gr_9_20 gc_108).2.2) (vz_in_vp hb36) ?_
          obtain ⟨σ37, hσ38⟩ : ∃ x, x = vz_up σ26 115 (((10 : Int32) * x4) + (σ 109 ((x1 + (4 : Int32)) + x3).toNatClampNeg)).toNatClampNeg x2 := ⟨_, rfl⟩
          rw [← hσ38] at h ⊢
          rw [vz_let_e] at h
          refine vr_iinc (pc := 141) hc dX9_learnsOn_141 (1 : Int32) (by decide) rfl (by decide) rfl ?_
          refine vr_goto (pc := 144) hc 52 dX9_learnsOn_144 (by decide) ?_
          exact vz_sub (ih x1 x2 x3 (x4 + (1 : Int32)) σ37  h) (vz_sb1 rfl (vz_sb1 rfl (vz_sb1 rfl (vz_sb1 rfl (vz_sb1 rfl vz_sb0)))))
def f_X9_learnsOn_41 (k35 : Int32 → Int32 → vz_I → Option vz_I) : Nat → Int32 → Int32 → Int32 → vz_I → Option vz_I
  | 0, _, _, _, _ => none
  | n + 1, x1, x2, x3, σ => if (σ 108 1) ≤ x3 then k35 x1 (x2 + (-1 : Int32)) σ else f_X9_learnsOn_52 k35 (f_X9_learnsOn_41 k35 n) vz_fu x1 x2 x3 (0 : Int32) σ
theorem f_X9_learnsOn_41_s (k35 : Int32 → Int32 → vz_I → Option vz_I) (n : Nat) (x1 : Int32) (x2 : Int32) (x3 : Int32) (σ : vz_I) : f_X9_learnsOn_41 k35 (n + 1) x1 x2 x3 σ = if (σ 108 1) ≤ x3 then k35 x1 (x2 + (-1 : Int32)) σ else f_X9_learnsOn_52 k35 (f_X9_learnsOn_41 k35 n) vz_fu x1 x2 x3 (0 : Int32) σ := rfl
set_option maxRecDepth 20000 in
set_option maxHeartbeats 1000000 in
theorem wn_X9_learnsOn_41 (z : vz_Z) (μ : vz_M) (hc : vz_C z μ cX9_learnsOn RX9 3 6) {σ' : vz_I} (hret : ∀ (pc : Nat) (L : vz_L), vz_ret cX9_learnsOn none pc none → vz_V z μ 0 0 pc L (none : Option Value).toList vz_G0 σ' vz_N0) (k35 : Int32 → Int32 → vz_I → Option vz_I) (hk35 : ∀ (x1 : Int32) (x2 : Int32) (σ : vz_I), k35 x1 x2 σ = some σ' → vz_V z μ 0 0 35 [(0, some (.ref 108)), (1, some (.int x1)), (2, some (.int x2))] [] vz_G0 σ vz_N0) : ∀ (n : Nat) (x1 : Int32) (x2 : Int32) (x3 : Int32) (σ : vz_I)  (h : f_X9_learnsOn_41 k35 n x1 x2 x3 σ = some σ'), vz_V z μ 0 0 41 [(0, some (.ref 108)), (1, some (.int x1)), (2, some (.int x2)), (3, some (.int x3))] [] vz_G0 σ vz_N0 := by
  intro n
  induction n with
  | zero =>
    intro x1 x2 x3 σ h
    cases h
  | succ n ih =>
    intro x1 x2 x3 σ h
    rw [f_X9_learnsOn_41_s] at h
    refine vr_iload_n (pc := 41) hc dX9_learnsOn_41 rfl ?_
    refine vr_aload_n (pc := 42) hc dX9_learnsOn_42 rfl ?_
    refine vr_getI (pc := 43) hc dX9_learnsOn_43 fl_X9_150 gc_108 (gi_9_1 gc_108) ?_
    refine vr_icmp_ge (pc := 46) hc 153 dX9_learnsOn_46 (by decide) (fun hb3 => ?_) (fun hb3 => ?_)
    · rw [if_pos hb3] at h
      refine vr_iinc (pc := 153) hc dX9_learnsOn_153 (-1 : Int32) (by decide) rfl (by decide) rfl ?_
      refine vr_goto (pc := 156) hc 35 dX9_learnsOn_156 (by decide) ?_
      exact vz_sub (hk35 x1 (x2 + (-1 : Int32)) σ  h) (vz_sb1 rfl (vz_sb1 rfl (vz_sb1 rfl vz_sb0)))
    · rw [if_neg hb3] at h
      refine vr_iconst (pc := 49) hc dX9_learnsOn_49 (0 : Int32) (by decide) ?_
      refine vr_istore (pc := 50) hc dX9_learnsOn_50 (by decide) rfl ?_
      exact vz_sub (wn_X9_learnsOn_52 z μ hc hret k35 (f_X9_learnsOn_41 k35 n) hk35 ih vz_fu x1 x2 x3 (0 : Int32) σ h) (vz_sb1 rfl (vz_sb1 rfl (vz_sb1 rfl (vz_sb1 rfl (vz_sb1 rfl vz_sb0)))))
def f_X9_learnsOn_35 : Nat → Int32 → Int32 → vz_I → Option vz_I
  | 0, _, _, _ => none
  | n + 1, x1, x2, σ => if x2 < 0 then some σ else f_X9_learnsOn_41 (f_X9_learnsOn_35 n) vz_fu x1 x2 (0 : Int32) σ
theorem f_X9_learnsOn_35_s (n : Nat) (x1 : Int32) (x2 : Int32) (σ : vz_I) : f_X9_learnsOn_35  (n + 1) x1 x2 σ = if x2 < 0 then some σ else f_X9_learnsOn_41 (f_X9_learnsOn_35 n) vz_fu x1 x2 (0 : Int32) σ := rfl
set_option maxRecDepth 20000 in
set_option maxHeartbeats 1000000 in
theorem wn_X9_learnsOn_35 (z : vz_Z) (μ : vz_M) (hc : vz_C z μ cX9_learnsOn RX9 3 6) {σ' : vz_I} (hret : ∀ (pc : Nat) (L : vz_L), vz_ret cX9_learnsOn none pc none → vz_V z μ 0 0 pc L (none : Option Value).toList vz_G0 σ' vz_N0) : ∀ (n : Nat) (x1 : Int32) (x2 : Int32) (σ : vz_I)  (h : f_X9_learnsOn_35  n x1 x2 σ = some σ'), vz_V z μ 0 0 35 [(0, some (.ref 108)), (1, some (.int x1)), (2, some (.int x2))] [] vz_G0 σ vz_N0 := by
  intro n
  induction n with
  | zero =>
    intro x1 x2 σ h
    cases h
  | succ n ih =>
    intro x1 x2 σ h
    rw [f_X9_learnsOn_35_s] at h
    refine vr_iload_n (pc := 35) hc dX9_learnsOn_35 rfl ?_
    refine vr_if_lt (pc := 36) hc 159 dX9_learnsOn_36 (by decide) (fun hb2 => ?_) (fun hb2 => ?_)
    · rw [if_pos hb2] at h
      obtain rfl := Option.some.inj h
      exact hret _ _ (vz_ret_v dX9_learnsOn_159)
    · rw [if_neg hb2] at h
      refine vr_iconst (pc := 39) hc dX9_learnsOn_39 (0 : Int32) (by decide) ?_
      refine vr_istore_n (pc := 40) hc dX9_learnsOn_40 (by decide) rfl ?_
      exact vz_sub (wn_X9_learnsOn_41 z μ hc hret (f_X9_learnsOn_35 n) ih vz_fu x1 x2 (0 : Int32) σ h) (vz_sb1 rfl (vz_sb1 rfl (vz_sb1 rfl (vz_sb1 rfl vz_sb0))))
def f_X9_learnsOn_2 : Nat → Int32 → Int32 → vz_I → Option vz_I
  | 0, _, _, _ => none
  | n + 1, x1, x2, σ => if (40 : Int32) ≤ x2 then f_X9_learnsOn_35 vz_fu x1 (59 : Int32) σ else if vz_in x2 40 then if vz_in x2 40 then vz_let (vz_up (vz_up σ 114 x2.toNatClampNeg (1000 : Int32)) 115 x2.toNatClampNeg (1000 : Int32)) (fun σ41 => f_X9_learnsOn_2 n x1 (x2 + (1 : Int32)) σ41) else none else none
theorem f_X9_learnsOn_2_s (n : Nat) (x1 : Int32) (x2 : Int32) (σ : vz_I) : f_X9_learnsOn_2  (n + 1) x1 x2 σ = if (40 : Int32) ≤ x2 then f_X9_learnsOn_35 vz_fu x1 (59 : Int32) σ else if vz_in x2 40 then if vz_in x2 40 then vz_let (vz_up (vz_up σ 114 x2.toNatClampNeg (1000 : Int32)) 115 x2.toNatClampNeg (1000 : Int32)) (fun σ41 => f_X9_learnsOn_2 n x1 (x2 + (1 : Int32)) σ41) else none else none := rfl
set_option maxRecDepth 20000 in
set_option maxHeartbeats 1000000 in
theorem wn_X9_learnsOn_2 (z : vz_Z) (μ : vz_M) (hc : vz_C z μ cX9_learnsOn RX9 3 6) {σ' : vz_I} (hret : ∀ (pc : Nat) (L : vz_L), vz_ret cX9_learnsOn none pc none → vz_V z μ 0 0 pc L (none : Option Value).toList vz_G0 σ' vz_N0) : ∀ (n : Nat) (x1 : Int32) (x2 : Int32) (σ : vz_I)  (h : f_X9_learnsOn_2  n x1 x2 σ = some σ'), vz_V z μ 0 0 2 [(0, some (.ref 108)), (1, some (.int x1)), (2, some (.int x2))] [] vz_G0 σ vz_N0 := by
  intro n
  induction n with
  | zero =>
    intro x1 x2 σ h
    cases h
  | succ n ih =>
    intro x1 x2 σ h
    rw [f_X9_learnsOn_2_s] at h
    refine vr_iload_n (pc := 2) hc dX9_learnsOn_2 rfl ?_
    refine vr_bipush (pc := 3) hc dX9_learnsOn_3 (40 : Int32) (by decide) ?_
    refine vr_icmp_ge (pc := 5) hc 32 dX9_learnsOn_5 (by decide) (fun hb1 => ?_) (fun hb1 => ?_)
    · rw [if_pos hb1] at h
      refine vr_bipush (pc := 32) hc dX9_learnsOn_32 (59 : Int32) (by decide) ?_
      refine vr_istore_n (pc := 34) hc dX9_learnsOn_34 (by decide) rfl ?_
      exact vz_sub (wn_X9_learnsOn_35 z μ hc hret vz_fu x1 (59 : Int32) σ h) (vz_sb1 rfl (vz_sb1 rfl (vz_sb1 rfl vz_sb0)))
    · rw [if_neg hb1] at h
      refine vr_aload_n (pc := 8) hc dX9_learnsOn_8 rfl ?_
      refine vr_getR (pc := 9) hc dX9_learnsOn_9 fl_X9_25 gc_108 (gr_9_19 gc_108).1 ?_
      refine vr_iload_n (pc := 12) hc dX9_learnsOn_12 rfl ?_
      refine vr_sipush (pc := 13) hc dX9_learnsOn_13 (1000 : Int32) (by decide) ?_
      have hb39 := vz_ifp h
      rw [if_pos hb39] at h
      refine vr_iast (pc := 16) hc 40 dX9_learnsOn_16 ((gr_9_19 gc_108).2.1) ((gr_9_19 gc_108).2.2) (vz_in_vp hb39) ?_
      refine vr_aload_n (pc := 17) hc dX9_learnsOn_17 rfl ?_
      refine vr_getR (pc := 18) hc dX9_learnsOn_18 fl_X9_28 gc_108 (gr_9_20 gc_108).1 ?_
      refine vr_iload_n (pc := 21) hc dX9_learnsOn_21 rfl ?_
      refine vr_sipush (pc := 22) hc dX9_learnsOn_22 (1000 : Int32) (by decide) ?_
      have hb40 := vz_ifp h
      rw [if_pos hb40] at h
      refine vr_iast (pc := 25) hc 40 dX9_learnsOn_25 ((gr_9_20 gc_108).2.1) ((gr_9_20 gc_108).2.2) (vz_in_vp hb40) ?_
      obtain ⟨σ41, hσ42⟩ : ∃ x, x = vz_up (vz_up σ 114 x2.toNatClampNeg (1000 : Int32)) 115 x2.toNatClampNeg (1000 : Int32) := ⟨_, rfl⟩
      rw [← hσ42] at h ⊢
      rw [vz_let_e] at h
      refine vr_iinc (pc := 26) hc dX9_learnsOn_26 (1 : Int32) (by decide) rfl (by decide) rfl ?_
      refine vr_goto (pc := 29) hc 2 dX9_learnsOn_29 (by decide) ?_
      exact vz_sub (ih x1 (x2 + (1 : Int32)) σ41  h) (vz_sb1 rfl (vz_sb1 rfl (vz_sb1 rfl vz_sb0)))
def f_X9_learnsOn (x1 : Int32) (σ : vz_I) : Option vz_I := f_X9_learnsOn_2 vz_fu x1 (0 : Int32) σ
set_option maxRecDepth 20000 in
set_option maxHeartbeats 1000000 in
theorem w_X9_learnsOn (z : vz_Z) (l : Launch) (x1 : Int32) (σ : vz_I)  {σ' : vz_I} (h : f_X9_learnsOn x1 σ = some σ') : vz_Con z l 3 yX9_learnsOn cX9_learnsOn 6 none [.ref 108, .int x1] vz_G0 σ vz_N0 none vz_G0 σ' vz_N0 0 0 := by
  refine vz_con (by decide) (Nat.le_of_ble_eq_true rfl) (fun μ hc hl hcap hret => ?_)
  subst hl
  unfold f_X9_learnsOn at h
  refine vr_iconst (pc := 0) hc dX9_learnsOn_0 (0 : Int32) (by decide) ?_
  refine vr_istore_n (pc := 1) hc dX9_learnsOn_1 (by decide) rfl ?_
  exact vz_sub (wn_X9_learnsOn_2 z μ hc hret vz_fu x1 (0 : Int32) σ h) (vz_sb1 rfl (vz_sb1 rfl (vz_sb1 rfl vz_sb0)))
-- X9_walk: depth 3, effects S=True W=False P=True
def f_X9_walk (x1 : Int32) (x2 : Int32) (σ : vz_I) : Option Int32 := vz_b1 (f_X9_isPlace x1 x2 σ) (fun v2 => if v2 = 0 then some (-1 : Int32) else if vz_in (((12 : Int32) + ((4 : Int32) * x1)) + x2) 305 then some (σ 109 (((12 : Int32) + ((4 : Int32) * x1)) + x2).toNatClampNeg) else none)
set_option maxRecDepth 20000 in
set_option maxHeartbeats 1000000 in
theorem w_X9_walk (z : vz_Z) (l : Launch) (x1 : Int32) (x2 : Int32) (σ : vz_I)  {r : Int32} (h : f_X9_walk x1 x2 σ = some r) : vz_Con z l 3 yX9_walk cX9_walk 3 (some .int) [.ref 108, .int x1, .int x2] vz_G0 σ vz_N0 (some (.int r)) vz_G0 σ vz_N0 0 0 := by
  refine vz_con (by decide) (Nat.le_of_ble_eq_true rfl) (fun μ hc hl hcap hret => ?_)
  subst hl
  unfold f_X9_walk at h
  refine vr_aload_n (pc := 0) hc dX9_walk_0 rfl ?_
  refine vr_iload_n (pc := 1) hc dX9_walk_1 rfl ?_
  refine vr_iload_n (pc := 2) hc dX9_walk_2 rfl ?_
  obtain ⟨v2, he1, h⟩ := vz_b1e h
  refine vr_cVi (pc := 3) hc dX9_walk_3 mt_X9_isPlace ml_X9_201 gc_108 (w_X9_isPlace z μ.2.1 x1 x2 σ he1) rfl (by decide) rfl (Nat.le_of_ble_eq_true rfl) ?_
  refine vr_if_eq (pc := 6) hc 25 dX9_walk_6 (by decide) (fun hb4 => ?_) (fun hb4 => ?_)
  · rw [if_pos hb4] at h
    refine vr_iconst (pc := 25) hc dX9_walk_25 (-1 : Int32) (by decide) ?_
    obtain rfl := Option.some.inj h
    exact hret _ _ (vz_ret_i dX9_walk_26 rfl)
  · rw [if_neg hb4] at h
    refine vr_aload_n (pc := 9) hc dX9_walk_9 rfl ?_
    refine vr_getR (pc := 10) hc dX9_walk_10 fl_X9_7 gc_108 (gr_9_0 gc_108).1 ?_
    refine vr_bipush (pc := 13) hc dX9_walk_13 (12 : Int32) (by decide) ?_
    refine vr_iconst (pc := 15) hc dX9_walk_15 (4 : Int32) (by decide) ?_
    refine vr_iload_n (pc := 16) hc dX9_walk_16 rfl ?_
    refine vr_imul (pc := 17) hc dX9_walk_17 ?_
    refine vr_iadd (pc := 18) hc dX9_walk_18 ?_
    refine vr_iload_n (pc := 19) hc dX9_walk_19 rfl ?_
    refine vr_iadd (pc := 20) hc dX9_walk_20 ?_
    have hb5 := vz_ifp h
    rw [if_pos hb5] at h
    refine vr_iald (pc := 21) hc 305 dX9_walk_21 ((gr_9_0 gc_108).2.1) ((gr_9_0 gc_108).2.2) (vz_in_vp hb5) ?_
    refine vr_goto (pc := 22) hc 26 dX9_walk_22 (by decide) ?_
    obtain rfl := Option.some.inj h
    exact hret _ _ (vz_ret_i dX9_walk_26 rfl)
-- X9_detour: depth 3, effects S=True W=True P=True
def f_X9_detour (x1 : Int32) (x2 : Int32) (x3 : Int32) (σ : vz_I) : Option (Int32 × vz_I) := vz_b1 (f_X9_isPlace x1 x2 σ) (fun v2 => if v2 = 0 then some ((-1 : Int32), σ) else if (f_X9_isCorner x3) = 0 then some ((-1 : Int32), σ) else if vz_in (((12 : Int32) + ((4 : Int32) * x1)) + x2) 305 then if vz_in (((12 : Int32) + ((4 : Int32) * x1)) + x2) 305 then vz_let (vz_up σ 109 (((12 : Int32) + ((4 : Int32) * x1)) + x2).toNatClampNeg x3) (fun σ8 => vz_b1 (f_X9_isWalkOn (0 : Int32) x1 σ8) (fun v11 => if v11 = 0 then if vz_in (((12 : Int32) + ((4 : Int32) * x1)) + x2) 305 then vz_let (vz_up σ8 109 (((12 : Int32) + ((4 : Int32) * x1)) + x2).toNatClampNeg (σ 109 (((12 : Int32) + ((4 : Int32) * x1)) + x2).toNatClampNeg)) (fun σ15 => some ((-2 : Int32), σ15)) else none else some (σ 109 (((12 : Int32) + ((4 : Int32) * x1)) + x2).toNatClampNeg, σ8))) else none else none)
set_option maxRecDepth 20000 in
set_option maxHeartbeats 1000000 in
theorem w_X9_detour (z : vz_Z) (l : Launch) (x1 : Int32) (x2 : Int32) (x3 : Int32) (σ : vz_I)  {r : Int32} {σ' : vz_I} (h : f_X9_detour x1 x2 x3 σ = some (r, σ')) : vz_Con z l 3 yX9_detour cX9_detour 5 (some .int) [.ref 108, .int x1, .int x2, .int x3] vz_G0 σ vz_N0 (some (.int r)) vz_G0 σ' vz_N0 0 0 := by
  refine vz_con (by decide) (Nat.le_of_ble_eq_true rfl) (fun μ hc hl hcap hret => ?_)
  subst hl
  unfold f_X9_detour at h
  refine vr_aload_n (pc := 0) hc dX9_detour_0 rfl ?_
  refine vr_iload_n (pc := 1) hc dX9_detour_1 rfl ?_
  refine vr_iload_n (pc := 2) hc dX9_detour_2 rfl ?_
  obtain ⟨v2, he1, h⟩ := vz_b1e h
  refine vr_cVi (pc := 3) hc dX9_detour_3 mt_X9_isPlace ml_X9_201 gc_108 (w_X9_isPlace z μ.2.1 x1 x2 σ he1) rfl (by decide) rfl (Nat.le_of_ble_eq_true rfl) ?_
  refine vr_if_eq (pc := 6) hc 16 dX9_detour_6 (by decide) (fun hb4 => ?_) (fun hb4 => ?_)
  · rw [if_pos hb4] at h
    refine vr_iconst (pc := 16) hc dX9_detour_16 (-1 : Int32) (by decide) ?_
    obtain ⟨rfl, rfl⟩ := vz_in2 h
    exact hret _ _ (vz_ret_i dX9_detour_17 rfl)
  · rw [if_neg hb4] at h
    refine vr_iload_n (pc := 9) hc dX9_detour_9 rfl ?_
    refine vr_cSi (pc := 10) hc dX9_detour_10 mt_X9_isCorner sx_X9_isCorner ml_X9_215  (w_X9_isCorner z μ.2.1 x3 σ rfl) rfl (by decide) rfl (Nat.le_of_ble_eq_true rfl) ?_
    refine vr_if_ne (pc := 13) hc 18 dX9_detour_13 (by decide) (fun hb5 => ?_) (fun hb5 => ?_)
    · rw [if_neg hb5] at h
      refine vr_aload_n (pc := 18) hc dX9_detour_18 rfl ?_
      refine vr_getR (pc := 19) hc dX9_detour_19 fl_X9_7 gc_108 (gr_9_0 gc_108).1 ?_
      refine vr_bipush (pc := 22) hc dX9_detour_22 (12 : Int32) (by decide) ?_
      refine vr_iconst (pc := 24) hc dX9_detour_24 (4 : Int32) (by decide) ?_
      refine vr_iload_n (pc := 25) hc dX9_detour_25 rfl ?_
      refine vr_imul (pc := 26) hc dX9_detour_26 ?_
      refine vr_iadd (pc := 27) hc dX9_detour_27 ?_
      refine vr_iload_n (pc := 28) hc dX9_detour_28 rfl ?_
      refine vr_iadd (pc := 29) hc dX9_detour_29 ?_
      have hb6 := vz_ifp h
      rw [if_pos hb6] at h
      refine vr_iald (pc := 30) hc 305 dX9_detour_30 ((gr_9_0 gc_108).2.1) ((gr_9_0 gc_108).2.2) (vz_in_vp hb6) ?_
      refine vr_istore (pc := 31) hc dX9_detour_31 (by decide) rfl ?_
      refine vr_aload_n (pc := 33) hc dX9_detour_33 rfl ?_
      refine vr_getR (pc := 34) hc dX9_detour_34 fl_X9_7 gc_108 (gr_9_0 gc_108).1 ?_
      refine vr_bipush (pc := 37) hc dX9_detour_37 (12 : Int32) (by decide) ?_
      refine vr_iconst (pc := 39) hc dX9_detour_39 (4 : Int32) (by decide) ?_
      refine vr_iload_n (pc := 40) hc dX9_detour_40 rfl ?_
      refine vr_imul (pc := 41) hc dX9_detour_41 ?_
      refine vr_iadd (pc := 42) hc dX9_detour_42 ?_
      refine vr_iload_n (pc := 43) hc dX9_detour_43 rfl ?_
      refine vr_iadd (pc := 44) hc dX9_detour_44 ?_
      refine vr_iload_n (pc := 45) hc dX9_detour_45 rfl ?_
      have hb7 := vz_ifp h
      rw [if_pos hb7] at h
      refine vr_iast (pc := 46) hc 305 dX9_detour_46 ((gr_9_0 gc_108).2.1) ((gr_9_0 gc_108).2.2) (vz_in_vp hb7) ?_
      obtain ⟨σ8, hσ9⟩ : ∃ x, x = vz_up σ 109 (((12 : Int32) + ((4 : Int32) * x1)) + x2).toNatClampNeg x3 := ⟨_, rfl⟩
      rw [← hσ9] at h ⊢
      rw [vz_let_e] at h
      refine vr_aload_n (pc := 47) hc dX9_detour_47 rfl ?_
      refine vr_iconst (pc := 48) hc dX9_detour_48 (0 : Int32) (by decide) ?_
      refine vr_iload_n (pc := 49) hc dX9_detour_49 rfl ?_
      obtain ⟨v11, he10, h⟩ := vz_b1e h
      refine vr_cVi (pc := 50) hc dX9_detour_50 mt_X9_isWalkOn ml_X9_136 gc_108 (w_X9_isWalkOn z μ.2.1 (0 : Int32) x1 σ8 he10) rfl (by decide) rfl (Nat.le_of_ble_eq_true rfl) ?_
      refine vr_if_ne (pc := 53) hc 74 dX9_detour_53 (by decide) (fun hb13 => ?_) (fun hb13 => ?_)
      · rw [if_neg hb13] at h
        refine vr_iload (pc := 74) hc dX9_detour_74 rfl ?_
        obtain ⟨rfl, rfl⟩ := vz_in2 h
        exact hret _ _ (vz_ret_i dX9_detour_76 rfl)
      · rw [if_pos hb13] at h
        refine vr_aload_n (pc := 56) hc dX9_detour_56 rfl ?_
        refine vr_getR (pc := 57) hc dX9_detour_57 fl_X9_7 gc_108 (gr_9_0 gc_108).1 ?_
        refine vr_bipush (pc := 60) hc dX9_detour_60 (12 : Int32) (by decide) ?_
        refine vr_iconst (pc := 62) hc dX9_detour_62 (4 : Int32) (by decide) ?_
        refine vr_iload_n (pc := 63) hc dX9_detour_63 rfl ?_
        refine vr_imul (pc := 64) hc dX9_detour_64 ?_
        refine vr_iadd (pc := 65) hc dX9_detour_65 ?_
        refine vr_iload_n (pc := 66) hc dX9_detour_66 rfl ?_
        refine vr_iadd (pc := 67) hc dX9_detour_67 ?_
        refine vr_iload (pc := 68) hc dX9_detour_68 rfl ?_
        have hb14 := vz_ifp h
        rw [if_pos hb14] at h
        refine vr_iast (pc := 70) hc 305 dX9_detour_70 ((gr_9_0 gc_108).2.1) ((gr_9_0 gc_108).2.2) (vz_in_vp hb14) ?_
        obtain ⟨σ15, hσ16⟩ : ∃ x, x = vz_up σ8 109 (((12 : Int32) + ((4 : Int32) * x1)) + x2).toNatClampNeg (σ 109 (((12 : Int32) + ((4 : Int32) * x1)) + x2).toNatClampNeg) := ⟨_, rfl⟩
        rw [← hσ16] at h ⊢
        rw [vz_let_e] at h
        refine vr_bipush (pc := 71) hc dX9_detour_71 (-2 : Int32) (by decide) ?_
        obtain ⟨rfl, rfl⟩ := vz_in2 h
        exact hret _ _ (vz_ret_i dX9_detour_73 rfl)
    · rw [if_pos hb5] at h
      refine vr_iconst (pc := 16) hc dX9_detour_16 (-1 : Int32) (by decide) ?_
      obtain ⟨rfl, rfl⟩ := vz_in2 h
      exact hret _ _ (vz_ret_i dX9_detour_17 rfl)
-- X9_shift: depth 3, effects S=True W=True P=True
def f_X9_shift (x1 : Int32) (x2 : Int32) (σ : vz_I) : Option (Int32 × vz_I) := vz_b1 (f_X9_isPlace x1 x2 σ) (fun v2 => if v2 = 0 then some ((-1 : Int32), σ) else if vz_in ((12 : Int32) + ((4 : Int32) * x1)) 305 then vz_b1 (f_X9_shiftsOn (0 : Int32) x1 x2 σ) (fun σ8 => some (σ 109 ((12 : Int32) + ((4 : Int32) * x1)).toNatClampNeg, σ8)) else none)
set_option maxRecDepth 20000 in
set_option maxHeartbeats 1000000 in
theorem w_X9_shift (z : vz_Z) (l : Launch) (x1 : Int32) (x2 : Int32) (σ : vz_I)  {r : Int32} {σ' : vz_I} (h : f_X9_shift x1 x2 σ = some (r, σ')) : vz_Con z l 3 yX9_shift cX9_shift 4 (some .int) [.ref 108, .int x1, .int x2] vz_G0 σ vz_N0 (some (.int r)) vz_G0 σ' vz_N0 0 0 := by
  refine vz_con (by decide) (Nat.le_of_ble_eq_true rfl) (fun μ hc hl hcap hret => ?_)
  subst hl
  unfold f_X9_shift at h
  refine vr_aload_n (pc := 0) hc dX9_shift_0 rfl ?_
  refine vr_iload_n (pc := 1) hc dX9_shift_1 rfl ?_
  refine vr_iload_n (pc := 2) hc dX9_shift_2 rfl ?_
  obtain ⟨v2, he1, h⟩ := vz_b1e h
  refine vr_cVi (pc := 3) hc dX9_shift_3 mt_X9_isPlace ml_X9_201 gc_108 (w_X9_isPlace z μ.2.1 x1 x2 σ he1) rfl (by decide) rfl (Nat.le_of_ble_eq_true rfl) ?_
  refine vr_if_ne (pc := 6) hc 11 dX9_shift_6 (by decide) (fun hb4 => ?_) (fun hb4 => ?_)
  · rw [if_neg hb4] at h
    refine vr_aload_n (pc := 11) hc dX9_shift_11 rfl ?_
    refine vr_getR (pc := 12) hc dX9_shift_12 fl_X9_7 gc_108 (gr_9_0 gc_108).1 ?_
    refine vr_bipush (pc := 15) hc dX9_shift_15 (12 : Int32) (by decide) ?_
    refine vr_iconst (pc := 17) hc dX9_shift_17 (4 : Int32) (by decide) ?_
    refine vr_iload_n (pc := 18) hc dX9_shift_18 rfl ?_
    refine vr_imul (pc := 19) hc dX9_shift_19 ?_
    refine vr_iadd (pc := 20) hc dX9_shift_20 ?_
    have hb5 := vz_ifp h
    rw [if_pos hb5] at h
    refine vr_iald (pc := 21) hc 305 dX9_shift_21 ((gr_9_0 gc_108).2.1) ((gr_9_0 gc_108).2.2) (vz_in_vp hb5) ?_
    refine vr_istore_n (pc := 22) hc dX9_shift_22 (by decide) rfl ?_
    refine vr_aload_n (pc := 23) hc dX9_shift_23 rfl ?_
    refine vr_iconst (pc := 24) hc dX9_shift_24 (0 : Int32) (by decide) ?_
    refine vr_iload_n (pc := 25) hc dX9_shift_25 rfl ?_
    refine vr_iload_n (pc := 26) hc dX9_shift_26 rfl ?_
    obtain ⟨σ8, he6, h⟩ := vz_b1e h
    refine vr_cVv (pc := 27) hc dX9_shift_27 mt_X9_shiftsOn ml_X9_218 gc_108 (w_X9_shiftsOn z μ.2.1 (0 : Int32) x1 x2 σ he6) rfl (by decide) rfl (Nat.le_of_ble_eq_true rfl) ?_
    refine vr_iload_n (pc := 30) hc dX9_shift_30 rfl ?_
    obtain ⟨rfl, rfl⟩ := vz_in2 h
    exact hret _ _ (vz_ret_i dX9_shift_31 rfl)
  · rw [if_pos hb4] at h
    refine vr_iconst (pc := 9) hc dX9_shift_9 (-1 : Int32) (by decide) ?_
    obtain ⟨rfl, rfl⟩ := vz_in2 h
    exact hret _ _ (vz_ret_i dX9_shift_10 rfl)
-- X9_stand: depth 3, effects S=True W=True P=True
def f_X9_stand (x1 : Int32) (x2 : Int32) (x3 : Int32) (σ : vz_I) : Option (Int32 × vz_I) := vz_b2 (f_X9_stands x1 x2 x3 σ) (fun v2 σ3 => some (v2, σ3))
set_option maxRecDepth 20000 in
set_option maxHeartbeats 1000000 in
theorem w_X9_stand (z : vz_Z) (l : Launch) (x1 : Int32) (x2 : Int32) (x3 : Int32) (σ : vz_I)  {r : Int32} {σ' : vz_I} (h : f_X9_stand x1 x2 x3 σ = some (r, σ')) : vz_Con z l 3 yX9_stand cX9_stand 4 (some .int) [.ref 108, .int x1, .int x2, .int x3] vz_G0 σ vz_N0 (some (.int r)) vz_G0 σ' vz_N0 0 0 := by
  refine vz_con (by decide) (Nat.le_of_ble_eq_true rfl) (fun μ hc hl hcap hret => ?_)
  subst hl
  unfold f_X9_stand at h
  refine vr_aload_n (pc := 0) hc dX9_stand_0 rfl ?_
  refine vr_iload_n (pc := 1) hc dX9_stand_1 rfl ?_
  refine vr_iload_n (pc := 2) hc dX9_stand_2 rfl ?_
  refine vr_iload_n (pc := 3) hc dX9_stand_3 rfl ?_
  obtain ⟨v2, σ3, he1, h⟩ := vz_b2e h
  refine vr_cVi (pc := 4) hc dX9_stand_4 mt_X9_stands ml_X9_225 gc_108 (w_X9_stands z μ.2.1 x1 x2 x3 σ he1) rfl (by decide) rfl (Nat.le_of_ble_eq_true rfl) ?_
  obtain ⟨rfl, rfl⟩ := vz_in2 h
  exact hret _ _ (vz_ret_i dX9_stand_7 rfl)
-- X9_reads: depth 3, effects S=True W=False P=True
def f_X9_reads_33 : Nat → Int32 → Int32 → Int32 → Int32 → Int32 → vz_I → Option Int32
  | 0, _, _, _, _, _, _ => none
  | n + 1, x1, x2, x3, x4, x5, σ => if (σ 108 1) ≤ x5 then some x4 else if x3 = (1 : Int32) then vz_b1 (f_X9_readsOn (0 : Int32) x1 x5 x2 (1 : Int32) σ) (fun v11 => if v11 = 0 then f_X9_reads_33 n x1 x2 x3 (x4 ||| (0 : Int32)) (x5 + (1 : Int32)) σ else f_X9_reads_33 n x1 x2 x3 (x4 ||| ((1 : Int32) <<< (x5 &&& 31))) (x5 + (1 : Int32)) σ) else vz_b1 (f_X9_readsOn (0 : Int32) x1 x5 x2 (0 : Int32) σ) (fun v7 => if v7 = 0 then f_X9_reads_33 n x1 x2 x3 (x4 ||| (0 : Int32)) (x5 + (1 : Int32)) σ else f_X9_reads_33 n x1 x2 x3 (x4 ||| ((1 : Int32) <<< (x5 &&& 31))) (x5 + (1 : Int32)) σ)
theorem f_X9_reads_33_s (n : Nat) (x1 : Int32) (x2 : Int32) (x3 : Int32) (x4 : Int32) (x5 : Int32) (σ : vz_I) : f_X9_reads_33  (n + 1) x1 x2 x3 x4 x5 σ = if (σ 108 1) ≤ x5 then some x4 else if x3 = (1 : Int32) then vz_b1 (f_X9_readsOn (0 : Int32) x1 x5 x2 (1 : Int32) σ) (fun v11 => if v11 = 0 then f_X9_reads_33 n x1 x2 x3 (x4 ||| (0 : Int32)) (x5 + (1 : Int32)) σ else f_X9_reads_33 n x1 x2 x3 (x4 ||| ((1 : Int32) <<< (x5 &&& 31))) (x5 + (1 : Int32)) σ) else vz_b1 (f_X9_readsOn (0 : Int32) x1 x5 x2 (0 : Int32) σ) (fun v7 => if v7 = 0 then f_X9_reads_33 n x1 x2 x3 (x4 ||| (0 : Int32)) (x5 + (1 : Int32)) σ else f_X9_reads_33 n x1 x2 x3 (x4 ||| ((1 : Int32) <<< (x5 &&& 31))) (x5 + (1 : Int32)) σ) := rfl
set_option maxRecDepth 20000 in
set_option maxHeartbeats 1000000 in
theorem wn_X9_reads_33 (z : vz_Z) (μ : vz_M) (hc : vz_C z μ cX9_reads RX9 3 6) {r : Int32} (σ : vz_I) (hret : ∀ (pc : Nat) (L : vz_L), vz_ret cX9_reads (some .int) pc (some (.int r)) → vz_V z μ 0 0 pc L ((some (.int r)) : Option Value).toList vz_G0 σ vz_N0) : ∀ (n : Nat) (x1 : Int32) (x2 : Int32) (x3 : Int32) (x4 : Int32) (x5 : Int32)  (h : f_X9_reads_33  n x1 x2 x3 x4 x5 σ = some r), vz_V z μ 0 0 33 [(0, some (.ref 108)), (1, some (.int x1)), (2, some (.int x2)), (3, some (.int x3)), (4, some (.int x4)), (5, some (.int x5))] [] vz_G0 σ vz_N0 := by
  intro n
  induction n with
  | zero =>
    intro x1 x2 x3 x4 x5 h
    cases h
  | succ n ih =>
    intro x1 x2 x3 x4 x5 h
    rw [f_X9_reads_33_s] at h
    refine vr_iload (pc := 33) hc dX9_reads_33 rfl ?_
    refine vr_aload_n (pc := 35) hc dX9_reads_35 rfl ?_
    refine vr_getI (pc := 36) hc dX9_reads_36 fl_X9_150 gc_108 (gi_9_1 gc_108) ?_
    refine vr_icmp_ge (pc := 39) hc 83 dX9_reads_39 (by decide) (fun hb4 => ?_) (fun hb4 => ?_)
    · rw [if_pos hb4] at h
      refine vr_iload (pc := 83) hc dX9_reads_83 rfl ?_
      obtain rfl := Option.some.inj h
      exact hret _ _ (vz_ret_i dX9_reads_85 rfl)
    · rw [if_neg hb4] at h
      refine vr_iload (pc := 42) hc dX9_reads_42 rfl ?_
      refine vr_aload_n (pc := 44) hc dX9_reads_44 rfl ?_
      refine vr_iconst (pc := 45) hc dX9_reads_45 (0 : Int32) (by decide) ?_
      refine vr_iload_n (pc := 46) hc dX9_reads_46 rfl ?_
      refine vr_iload (pc := 47) hc dX9_reads_47 rfl ?_
      refine vr_iload_n (pc := 49) hc dX9_reads_49 rfl ?_
      refine vr_iload_n (pc := 50) hc dX9_reads_50 rfl ?_
      refine vr_iconst (pc := 51) hc dX9_reads_51 (1 : Int32) (by decide) ?_
      refine vr_icmp_ne (pc := 52) hc 59 dX9_reads_52 (by decide) (fun hb5 => ?_) (fun hb5 => ?_)
      · rw [if_neg hb5] at h
        refine vr_iconst (pc := 59) hc dX9_reads_59 (0 : Int32) (by decide) ?_
        obtain ⟨v7, he6, h⟩ := vz_b1e h
        refine vr_cVi (pc := 60) hc dX9_reads_60 mt_X9_readsOn ml_X9_182 gc_108 (w_X9_readsOn z μ.2.1 (0 : Int32) x1 x5 x2 (0 : Int32) σ he6) rfl (by decide) rfl (Nat.le_of_ble_eq_true rfl) ?_
        refine vr_if_eq (pc := 63) hc 73 dX9_reads_63 (by decide) (fun hb9 => ?_) (fun hb9 => ?_)
        · rw [if_pos hb9] at h
          refine vr_iconst (pc := 73) hc dX9_reads_73 (0 : Int32) (by decide) ?_
          refine vr_ior (pc := 74) hc dX9_reads_74 ?_
          refine vr_istore (pc := 75) hc dX9_reads_75 (by decide) rfl ?_
          refine vr_iinc (pc := 77) hc dX9_reads_77 (1 : Int32) (by decide) rfl (by decide) rfl ?_
          refine vr_goto (pc := 80) hc 33 dX9_reads_80 (by decide) ?_
          exact vz_sub (ih x1 x2 x3 (x4 ||| (0 : Int32)) (x5 + (1 : Int32))   h) (vz_sb1 rfl (vz_sb1 rfl (vz_sb1 rfl (vz_sb1 rfl (vz_sb1 rfl (vz_sb1 rfl vz_sb0))))))
        · rw [if_neg hb9] at h
          refine vr_iconst (pc := 66) hc dX9_reads_66 (1 : Int32) (by decide) ?_
          refine vr_iload (pc := 67) hc dX9_reads_67 rfl ?_
          refine vr_ishl (pc := 69) hc dX9_reads_69 ?_
          refine vr_goto (pc := 70) hc 74 dX9_reads_70 (by decide) ?_
          refine vr_ior (pc := 74) hc dX9_reads_74 ?_
          refine vr_istore (pc := 75) hc dX9_reads_75 (by decide) rfl ?_
          refine vr_iinc (pc := 77) hc dX9_reads_77 (1 : Int32) (by decide) rfl (by decide) rfl ?_
          refine vr_goto (pc := 80) hc 33 dX9_reads_80 (by decide) ?_
          exact vz_sub (ih x1 x2 x3 (x4 ||| ((1 : Int32) <<< (x5 &&& 31))) (x5 + (1 : Int32))   h) (vz_sb1 rfl (vz_sb1 rfl (vz_sb1 rfl (vz_sb1 rfl (vz_sb1 rfl (vz_sb1 rfl vz_sb0))))))
      · rw [if_pos hb5] at h
        refine vr_iconst (pc := 55) hc dX9_reads_55 (1 : Int32) (by decide) ?_
        refine vr_goto (pc := 56) hc 60 dX9_reads_56 (by decide) ?_
        obtain ⟨v11, he10, h⟩ := vz_b1e h
        refine vr_cVi (pc := 60) hc dX9_reads_60 mt_X9_readsOn ml_X9_182 gc_108 (w_X9_readsOn z μ.2.1 (0 : Int32) x1 x5 x2 (1 : Int32) σ he10) rfl (by decide) rfl (Nat.le_of_ble_eq_true rfl) ?_
        refine vr_if_eq (pc := 63) hc 73 dX9_reads_63 (by decide) (fun hb13 => ?_) (fun hb13 => ?_)
        · rw [if_pos hb13] at h
          refine vr_iconst (pc := 73) hc dX9_reads_73 (0 : Int32) (by decide) ?_
          refine vr_ior (pc := 74) hc dX9_reads_74 ?_
          refine vr_istore (pc := 75) hc dX9_reads_75 (by decide) rfl ?_
          refine vr_iinc (pc := 77) hc dX9_reads_77 (1 : Int32) (by decide) rfl (by decide) rfl ?_
          refine vr_goto (pc := 80) hc 33 dX9_reads_80 (by decide) ?_
          exact vz_sub (ih x1 x2 x3 (x4 ||| (0 : Int32)) (x5 + (1 : Int32))   h) (vz_sb1 rfl (vz_sb1 rfl (vz_sb1 rfl (vz_sb1 rfl (vz_sb1 rfl (vz_sb1 rfl vz_sb0))))))
        · rw [if_neg hb13] at h
          refine vr_iconst (pc := 66) hc dX9_reads_66 (1 : Int32) (by decide) ?_
          refine vr_iload (pc := 67) hc dX9_reads_67 rfl ?_
          refine vr_ishl (pc := 69) hc dX9_reads_69 ?_
          refine vr_goto (pc := 70) hc 74 dX9_reads_70 (by decide) ?_
          refine vr_ior (pc := 74) hc dX9_reads_74 ?_
          refine vr_istore (pc := 75) hc dX9_reads_75 (by decide) rfl ?_
          refine vr_iinc (pc := 77) hc dX9_reads_77 (1 : Int32) (by decide) rfl (by decide) rfl ?_
          refine vr_goto (pc := 80) hc 33 dX9_reads_80 (by decide) ?_
          exact vz_sub (ih x1 x2 x3 (x4 ||| ((1 : Int32) <<< (x5 &&& 31))) (x5 + (1 : Int32))   h) (vz_sb1 rfl (vz_sb1 rfl (vz_sb1 rfl (vz_sb1 rfl (vz_sb1 rfl (vz_sb1 rfl vz_sb0))))))
def f_X9_reads (x1 : Int32) (x2 : Int32) (x3 : Int32) (σ : vz_I) : Option Int32 := if (f_X9_isReader x1 σ) = 0 then some (-1 : Int32) else if (f_X9_isMinute x2) = 0 then some (-1 : Int32) else if (f_X9_in x3.toInt64 (0 : Int64) (1 : Int64)) = 0 then some (-1 : Int32) else f_X9_reads_33 vz_fu x1 x2 x3 (0 : Int32) (0 : Int32) σ
set_option maxRecDepth 20000 in
set_option maxHeartbeats 1000000 in
theorem w_X9_reads (z : vz_Z) (l : Launch) (x1 : Int32) (x2 : Int32) (x3 : Int32) (σ : vz_I)  {r : Int32} (h : f_X9_reads x1 x2 x3 σ = some r) : vz_Con z l 3 yX9_reads cX9_reads 6 (some .int) [.ref 108, .int x1, .int x2, .int x3] vz_G0 σ vz_N0 (some (.int r)) vz_G0 σ vz_N0 0 0 := by
  refine vz_con (by decide) (Nat.le_of_ble_eq_true rfl) (fun μ hc hl hcap hret => ?_)
  subst hl
  unfold f_X9_reads at h
  refine vr_aload_n (pc := 0) hc dX9_reads_0 rfl ?_
  refine vr_iload_n (pc := 1) hc dX9_reads_1 rfl ?_
  refine vr_cVi (pc := 2) hc dX9_reads_2 mt_X9_isReader ml_X9_204 gc_108 (w_X9_isReader z μ.2.1 x1 σ rfl) rfl (by decide) rfl (Nat.le_of_ble_eq_true rfl) ?_
  refine vr_if_eq (pc := 5) hc 25 dX9_reads_5 (by decide) (fun hb1 => ?_) (fun hb1 => ?_)
  · rw [if_pos hb1] at h
    refine vr_iconst (pc := 25) hc dX9_reads_25 (-1 : Int32) (by decide) ?_
    obtain rfl := Option.some.inj h
    exact hret _ _ (vz_ret_i dX9_reads_26 rfl)
  · rw [if_neg hb1] at h
    refine vr_iload_n (pc := 8) hc dX9_reads_8 rfl ?_
    refine vr_cSi (pc := 9) hc dX9_reads_9 mt_X9_isMinute sx_X9_isMinute ml_X9_222  (w_X9_isMinute z μ.2.1 x2 σ rfl) rfl (by decide) rfl (Nat.le_of_ble_eq_true rfl) ?_
    refine vr_if_eq (pc := 12) hc 25 dX9_reads_12 (by decide) (fun hb2 => ?_) (fun hb2 => ?_)
    · rw [if_pos hb2] at h
      refine vr_iconst (pc := 25) hc dX9_reads_25 (-1 : Int32) (by decide) ?_
      obtain rfl := Option.some.inj h
      exact hret _ _ (vz_ret_i dX9_reads_26 rfl)
    · rw [if_neg hb2] at h
      refine vr_iload_n (pc := 15) hc dX9_reads_15 rfl ?_
      refine vr_i2l (pc := 16) hc dX9_reads_16 ?_
      refine vr_lconst (pc := 17) hc dX9_reads_17 (0 : Int64) (by decide) ?_
      refine vr_lconst (pc := 18) hc dX9_reads_18 (1 : Int64) (by decide) ?_
      refine vr_cSi (pc := 19) hc dX9_reads_19 mt_X9_in sx_X9_in ml_X9_55  (w_X9_in z μ.2.1 x3.toInt64 (0 : Int64) (1 : Int64) σ rfl) rfl (by decide) rfl (Nat.le_of_ble_eq_true rfl) ?_
      refine vr_if_ne (pc := 22) hc 27 dX9_reads_22 (by decide) (fun hb3 => ?_) (fun hb3 => ?_)
      · rw [if_neg hb3] at h
        refine vr_iconst (pc := 27) hc dX9_reads_27 (0 : Int32) (by decide) ?_
        refine vr_istore (pc := 28) hc dX9_reads_28 (by decide) rfl ?_
        refine vr_iconst (pc := 30) hc dX9_reads_30 (0 : Int32) (by decide) ?_
        refine vr_istore (pc := 31) hc dX9_reads_31 (by decide) rfl ?_
        exact vz_sub (wn_X9_reads_33 z μ hc σ hret vz_fu x1 x2 x3 (0 : Int32) (0 : Int32) h) (vz_sb1 rfl (vz_sb1 rfl (vz_sb1 rfl (vz_sb1 rfl (vz_sb1 rfl (vz_sb1 rfl vz_sb0))))))
      · rw [if_pos hb3] at h
        refine vr_iconst (pc := 25) hc dX9_reads_25 (-1 : Int32) (by decide) ?_
        obtain rfl := Option.some.inj h
        exact hret _ _ (vz_ret_i dX9_reads_26 rfl)
-- X9_read: depth 3, effects S=True W=True P=True
def f_X9_read_199 (x5 : Int32) (x6 : Int32) (σ : vz_I) : Option (Int32 × vz_I) := some (x6, vz_up σ 108 30 x5)
set_option maxRecDepth 20000 in
set_option maxHeartbeats 1000000 in
theorem wn_X9_read_199 (z : vz_Z) (μ : vz_M) (hc : vz_C z μ cX9_read RX9 3 9) {r : Int32} {σ' : vz_I} (hret : ∀ (pc : Nat) (L : vz_L), vz_ret cX9_read (some .int) pc (some (.int r)) → vz_V z μ 0 0 pc L ((some (.int r)) : Option Value).toList vz_G0 σ' vz_N0) (x5 : Int32) (x6 : Int32) (σ : vz_I)  (h : f_X9_read_199  x5 x6 σ = some (r, σ')) : vz_V z μ 0 0 199 [(0, some (.ref 108)), (5, some (.int x5)), (6, some (.int x6))] [] vz_G0 σ vz_N0 := by
  unfold f_X9_read_199 at h
  refine vr_aload_n (pc := 199) hc dX9_read_199 rfl ?_
  refine vr_iload (pc := 200) hc dX9_read_200 rfl ?_
  refine vr_putI (pc := 202) hc dX9_read_202 fl_X9_265 gc_108 (gi_9_30 gc_108) rfl rfl ?_
  refine vr_iload (pc := 205) hc dX9_read_205 rfl ?_
  obtain ⟨rfl, rfl⟩ := vz_in2 h
  exact hret _ _ (vz_ret_i dX9_read_207 rfl)
def f_X9_read_126 (k56 : Int32 → Int32 → Int32 → Int32 → Int32 → Int32 → Int32 → vz_I → Option (Int32 × vz_I)) (x1 : Int32) (x2 : Int32) (x3 : Int32) (x4 : Int32) (x6 : Int32) (x7 : Int32) (xs0 : Int32) (σ : vz_I) : Option (Int32 × vz_I) := if xs0 = 0 then if (x7 - x7 / (2 : Int32) * (2 : Int32)) = (1 : Int32) then if vz_in (((((40 : Int32) * x1) + x3) + x7) - (1 : Int32)) 160 then if vz_in ((((40 : Int32) * x1) + x3) + x7) 160 then vz_b2 (f_X9_stands (σ 122 (((((40 : Int32) * x1) + x3) + x7) - (1 : Int32)).toNatClampNeg) (0 : Int32) (σ 122 ((((40 : Int32) * x1) + x3) + x7).toNatClampNeg) σ) (fun v20 σ21 => if 0 ≤ v20 then k56 x1 x2 x3 x4 xs0 (x6 + (1 : Int32)) (x7 + (1 : Int32)) σ21 else vz_b1 (f_X9_copies (183 : Int32) (0 : Int32) σ21) (fun σ25 => some ((-20 : Int32) - x6, σ25))) else none else none else k56 x1 x2 x3 x4 xs0 x6 (x7 + (1 : Int32)) σ else k56 x1 x2 x3 x4 xs0 x6 (x7 + (1 : Int32)) σ
set_option maxRecDepth 20000 in
set_option maxHeartbeats 1000000 in
theorem wn_X9_read_126 (z : vz_Z) (μ : vz_M) (hc : vz_C z μ cX9_read RX9 3 9) {r : Int32} {σ' : vz_I} (hret : ∀ (pc : Nat) (L : vz_L), vz_ret cX9_read (some .int) pc (some (.int r)) → vz_V z μ 0 0 pc L ((some (.int r)) : Option Value).toList vz_G0 σ' vz_N0) (k56 : Int32 → Int32 → Int32 → Int32 → Int32 → Int32 → Int32 → vz_I → Option (Int32 × vz_I)) (hk56 : ∀ (x1 : Int32) (x2 : Int32) (x3 : Int32) (x4 : Int32) (x5 : Int32) (x6 : Int32) (x7 : Int32) (σ : vz_I), k56 x1 x2 x3 x4 x5 x6 x7 σ = some (r, σ') → vz_V z μ 0 0 56 [(0, some (.ref 108)), (1, some (.int x1)), (2, some (.int x2)), (3, some (.int x3)), (4, some (.int x4)), (5, some (.int x5)), (6, some (.int x6)), (7, some (.int x7))] [] vz_G0 σ vz_N0) (x1 : Int32) (x2 : Int32) (x3 : Int32) (x4 : Int32) (x6 : Int32) (x7 : Int32) (xs0 : Int32) (σ : vz_I)  (h : f_X9_read_126 k56 x1 x2 x3 x4 x6 x7 xs0 σ = some (r, σ')) : vz_V z μ 0 0 126 [(0, some (.ref 108)), (1, some (.int x1)), (2, some (.int x2)), (3, some (.int x3)), (4, some (.int x4)), (6, some (.int x6)), (7, some (.int x7))] [.int xs0] vz_G0 σ vz_N0 := by
  unfold f_X9_read_126 at h
  refine vr_istore (pc := 126) hc dX9_read_126 (by decide) rfl ?_
  refine vr_iload (pc := 128) hc dX9_read_128 rfl ?_
  refine vr_if_ne (pc := 130) hc 193 dX9_read_130 (by decide) (fun hb15 => ?_) (fun hb15 => ?_)
  · rw [if_neg hb15] at h
    refine vr_iinc (pc := 193) hc dX9_read_193 (1 : Int32) (by decide) rfl (by decide) rfl ?_
    refine vr_goto (pc := 196) hc 56 dX9_read_196 (by decide) ?_
    exact vz_sub (hk56 x1 x2 x3 x4 xs0 x6 (x7 + (1 : Int32)) σ  h) (vz_sb1 rfl (vz_sb1 rfl (vz_sb1 rfl (vz_sb1 rfl (vz_sb1 rfl (vz_sb1 rfl (vz_sb1 rfl (vz_sb1 rfl vz_sb0))))))))
  · rw [if_pos hb15] at h
    refine vr_iload (pc := 133) hc dX9_read_133 rfl ?_
    refine vr_iconst (pc := 135) hc dX9_read_135 (2 : Int32) (by decide) ?_
    refine vr_irem (pc := 136) hc dX9_read_136 (by decide) ?_
    refine vr_iconst (pc := 137) hc dX9_read_137 (1 : Int32) (by decide) ?_
    refine vr_icmp_ne (pc := 138) hc 193 dX9_read_138 (by decide) (fun hb16 => ?_) (fun hb16 => ?_)
    · rw [if_neg hb16] at h
      refine vr_iinc (pc := 193) hc dX9_read_193 (1 : Int32) (by decide) rfl (by decide) rfl ?_
      refine vr_goto (pc := 196) hc 56 dX9_read_196 (by decide) ?_
      exact vz_sub (hk56 x1 x2 x3 x4 xs0 x6 (x7 + (1 : Int32)) σ  h) (vz_sb1 rfl (vz_sb1 rfl (vz_sb1 rfl (vz_sb1 rfl (vz_sb1 rfl (vz_sb1 rfl (vz_sb1 rfl (vz_sb1 rfl vz_sb0))))))))
    · rw [if_pos hb16] at h
      refine vr_bipush (pc := 141) hc dX9_read_141 (40 : Int32) (by decide) ?_
      refine vr_iload_n (pc := 143) hc dX9_read_143 rfl ?_
      refine vr_imul (pc := 144) hc dX9_read_144 ?_
      refine vr_iload_n (pc := 145) hc dX9_read_145 rfl ?_
      refine vr_iadd (pc := 146) hc dX9_read_146 ?_
      refine vr_iload (pc := 147) hc dX9_read_147 rfl ?_
      refine vr_iadd (pc := 149) hc dX9_read_149 ?_
      refine vr_istore (pc := 150) hc dX9_read_150 (by decide) rfl ?_
      refine vr_aload_n (pc := 152) hc dX9_read_152 rfl ?_
      refine vr_aload_n (pc := 153) hc dX9_read_153 rfl ?_
      refine vr_getR (pc := 154) hc dX9_read_154 fl_X9_50 gc_108 (gr_9_29 gc_108).1 ?_
      refine vr_iload (pc := 157) hc dX9_read_157 rfl ?_
      refine vr_iconst (pc := 159) hc dX9_read_159 (1 : Int32) (by decide) ?_
      refine vr_isub (pc := 160) hc dX9_read_160 ?_
      have hb17 := vz_ifp h
      rw [if_pos hb17] at h
      refine vr_iald (pc := 161) hc 160 dX9_read_161 ((gr_9_29 gc_108).2.1) ((gr_9_29 gc_108).2.2) (vz_in_vp hb17) ?_
      refine vr_iconst (pc := 162) hc dX9_read_162 (0 : Int32) (by decide) ?_
      refine vr_aload_n (pc := 163) hc dX9_read_163 rfl ?_
      refine vr_getR (pc := 164) hc dX9_read_164 fl_X9_50 gc_108 (gr_9_29 gc_108).1 ?_
      refine vr_iload (pc := 167) hc dX9_read_167 rfl ?_
      have hb18 := vz_ifp h
      rw [if_pos hb18] at h
      refine vr_iald (pc := 169) hc 160 dX9_read_169 ((gr_9_29 gc_108).2.1) ((gr_9_29 gc_108).2.2) (vz_in_vp hb18) ?_
      obtain ⟨v20, σ21, he19, h⟩ := vz_b2e h
      refine vr_cVi (pc := 170) hc dX9_read_170 mt_X9_stands ml_X9_225 gc_108 (w_X9_stands z μ.2.1 (σ 122 (((((40 : Int32) * x1) + x3) + x7) - (1 : Int32)).toNatClampNeg) (0 : Int32) (σ 122 ((((40 : Int32) * x1) + x3) + x7).toNatClampNeg) σ he19) rfl (by decide) rfl (Nat.le_of_ble_eq_true rfl) ?_
      refine vr_if_ge (pc := 173) hc 190 dX9_read_173 (by decide) (fun hb22 => ?_) (fun hb22 => ?_)
      · rw [if_pos hb22] at h
        refine vr_iinc (pc := 190) hc dX9_read_190 (1 : Int32) (by decide) rfl (by decide) rfl ?_
        refine vr_iinc (pc := 193) hc dX9_read_193 (1 : Int32) (by decide) rfl (by decide) rfl ?_
        refine vr_goto (pc := 196) hc 56 dX9_read_196 (by decide) ?_
        exact vz_sub (hk56 x1 x2 x3 x4 xs0 (x6 + (1 : Int32)) (x7 + (1 : Int32)) σ21  h) (vz_sb1 rfl (vz_sb1 rfl (vz_sb1 rfl (vz_sb1 rfl (vz_sb1 rfl (vz_sb1 rfl (vz_sb1 rfl (vz_sb1 rfl vz_sb0))))))))
      · rw [if_neg hb22] at h
        refine vr_aload_n (pc := 176) hc dX9_read_176 rfl ?_
        refine vr_sipush (pc := 177) hc dX9_read_177 (183 : Int32) (by decide) ?_
        refine vr_iconst (pc := 180) hc dX9_read_180 (0 : Int32) (by decide) ?_
        obtain ⟨σ25, he23, h⟩ := vz_b1e h
        refine vr_cVv (pc := 181) hc dX9_read_181 mt_X9_copies ml_X9_235 gc_108 (w_X9_copies z μ.2.1 (183 : Int32) (0 : Int32) σ21 he23) rfl (by decide) rfl (Nat.le_of_ble_eq_true rfl) ?_
        refine vr_bipush (pc := 184) hc dX9_read_184 (-20 : Int32) (by decide) ?_
        refine vr_iload (pc := 186) hc dX9_read_186 rfl ?_
        refine vr_isub (pc := 188) hc dX9_read_188 ?_
        obtain ⟨rfl, rfl⟩ := vz_in2 h
        exact hret _ _ (vz_ret_i dX9_read_189 rfl)
def f_X9_read_56 : Nat → Int32 → Int32 → Int32 → Int32 → Int32 → Int32 → Int32 → vz_I → Option (Int32 × vz_I)
  | 0, _, _, _, _, _, _, _, _ => none
  | n + 1, x1, x2, x3, x4, x5, x6, x7, σ => if ((2 : Int32) * x4) ≤ x7 then f_X9_read_199 x5 x6 σ else if x5 = 0 then if vz_in x1 4 then if (σ 120 x1.toNatClampNeg) = (-4 : Int32) then f_X9_read_126 (f_X9_read_56 n) x1 x2 x3 x4 x6 x7 (1 : Int32) σ else if vz_in x1 4 then if (σ 120 x1.toNatClampNeg) = x2 then if vz_in x1 4 then if (f_X9_in (x3.toInt64 + x7.toInt64) (0 : Int64) (((σ 121 x1.toNatClampNeg) - (1 : Int32)).toInt64)) = 0 then f_X9_read_126 (f_X9_read_56 n) x1 x2 x3 x4 x6 x7 (2 : Int32) σ else f_X9_read_126 (f_X9_read_56 n) x1 x2 x3 x4 x6 x7 (0 : Int32) σ else none else f_X9_read_126 (f_X9_read_56 n) x1 x2 x3 x4 x6 x7 (3 : Int32) σ else none else none else f_X9_read_199 x5 x6 σ
theorem f_X9_read_56_s (n : Nat) (x1 : Int32) (x2 : Int32) (x3 : Int32) (x4 : Int32) (x5 : Int32) (x6 : Int32) (x7 : Int32) (σ : vz_I) : f_X9_read_56  (n + 1) x1 x2 x3 x4 x5 x6 x7 σ = if ((2 : Int32) * x4) ≤ x7 then f_X9_read_199 x5 x6 σ else if x5 = 0 then if vz_in x1 4 then if (σ 120 x1.toNatClampNeg) = (-4 : Int32) then f_X9_read_126 (f_X9_read_56 n) x1 x2 x3 x4 x6 x7 (1 : Int32) σ else if vz_in x1 4 then if (σ 120 x1.toNatClampNeg) = x2 then if vz_in x1 4 then if (f_X9_in (x3.toInt64 + x7.toInt64) (0 : Int64) (((σ 121 x1.toNatClampNeg) - (1 : Int32)).toInt64)) = 0 then f_X9_read_126 (f_X9_read_56 n) x1 x2 x3 x4 x6 x7 (2 : Int32) σ else f_X9_read_126 (f_X9_read_56 n) x1 x2 x3 x4 x6 x7 (0 : Int32) σ else none else f_X9_read_126 (f_X9_read_56 n) x1 x2 x3 x4 x6 x7 (3 : Int32) σ else none else none else f_X9_read_199 x5 x6 σ := rfl
set_option maxRecDepth 20000 in
set_option maxHeartbeats 1000000 in
theorem wn_X9_read_56 (z : vz_Z) (μ : vz_M) (hc : vz_C z μ cX9_read RX9 3 9) {r : Int32} {σ' : vz_I} (hret : ∀ (pc : Nat) (L : vz_L), vz_ret cX9_read (some .int) pc (some (.int r)) → vz_V z μ 0 0 pc L ((some (.int r)) : Option Value).toList vz_G0 σ' vz_N0) : ∀ (n : Nat) (x1 : Int32) (x2 : Int32) (x3 : Int32) (x4 : Int32) (x5 : Int32) (x6 : Int32) (x7 : Int32) (σ : vz_I)  (h : f_X9_read_56  n x1 x2 x3 x4 x5 x6 x7 σ = some (r, σ')), vz_V z μ 0 0 56 [(0, some (.ref 108)), (1, some (.int x1)), (2, some (.int x2)), (3, some (.int x3)), (4, some (.int x4)), (5, some (.int x5)), (6, some (.int x6)), (7, some (.int x7))] [] vz_G0 σ vz_N0 := by
  intro n
  induction n with
  | zero =>
    intro x1 x2 x3 x4 x5 x6 x7 σ h
    cases h
  | succ n ih =>
    intro x1 x2 x3 x4 x5 x6 x7 σ h
    rw [f_X9_read_56_s] at h
    refine vr_iload (pc := 56) hc dX9_read_56 rfl ?_
    refine vr_iconst (pc := 58) hc dX9_read_58 (2 : Int32) (by decide) ?_
    refine vr_iload (pc := 59) hc dX9_read_59 rfl ?_
    refine vr_imul (pc := 61) hc dX9_read_61 ?_
    refine vr_icmp_ge (pc := 62) hc 199 dX9_read_62 (by decide) (fun hb7 => ?_) (fun hb7 => ?_)
    · rw [if_pos hb7] at h
      exact vz_sub (wn_X9_read_199 z μ hc hret x5 x6 σ h) (vz_sb1 rfl (vz_sb1 rfl (vz_sb1 rfl vz_sb0)))
    · rw [if_neg hb7] at h
      refine vr_iload (pc := 65) hc dX9_read_65 rfl ?_
      refine vr_if_ne (pc := 67) hc 199 dX9_read_67 (by decide) (fun hb8 => ?_) (fun hb8 => ?_)
      · rw [if_neg hb8] at h
        exact vz_sub (wn_X9_read_199 z μ hc hret x5 x6 σ h) (vz_sb1 rfl (vz_sb1 rfl (vz_sb1 rfl vz_sb0)))
      · rw [if_pos hb8] at h
        refine vr_aload_n (pc := 70) hc dX9_read_70 rfl ?_
        refine vr_getR (pc := 71) hc dX9_read_71 fl_X9_44 gc_108 (gr_9_27 gc_108).1 ?_
        refine vr_iload_n (pc := 74) hc dX9_read_74 rfl ?_
        have hb9 := vz_ifp h
        rw [if_pos hb9] at h
        refine vr_iald (pc := 75) hc 4 dX9_read_75 ((gr_9_27 gc_108).2.1) ((gr_9_27 gc_108).2.2) (vz_in_vp hb9) ?_
        refine vr_bipush (pc := 76) hc dX9_read_76 (-4 : Int32) (by decide) ?_
        refine vr_icmp_ne (pc := 78) hc 85 dX9_read_78 (by decide) (fun hb10 => ?_) (fun hb10 => ?_)
        · rw [if_neg hb10] at h
          refine vr_aload_n (pc := 85) hc dX9_read_85 rfl ?_
          refine vr_getR (pc := 86) hc dX9_read_86 fl_X9_44 gc_108 (gr_9_27 gc_108).1 ?_
          refine vr_iload_n (pc := 89) hc dX9_read_89 rfl ?_
          have hb11 := vz_ifp h
          rw [if_pos hb11] at h
          refine vr_iald (pc := 90) hc 4 dX9_read_90 ((gr_9_27 gc_108).2.1) ((gr_9_27 gc_108).2.2) (vz_in_vp hb11) ?_
          refine vr_iload_n (pc := 91) hc dX9_read_91 rfl ?_
          refine vr_icmp_eq (pc := 92) hc 99 dX9_read_92 (by decide) (fun hb12 => ?_) (fun hb12 => ?_)
          · rw [if_pos hb12] at h
            refine vr_iload_n (pc := 99) hc dX9_read_99 rfl ?_
            refine vr_i2l (pc := 100) hc dX9_read_100 ?_
            refine vr_iload (pc := 101) hc dX9_read_101 rfl ?_
            refine vr_i2l (pc := 103) hc dX9_read_103 ?_
            refine vr_ladd (pc := 104) hc dX9_read_104 ?_
            refine vr_lconst (pc := 105) hc dX9_read_105 (0 : Int64) (by decide) ?_
            refine vr_aload_n (pc := 106) hc dX9_read_106 rfl ?_
            refine vr_getR (pc := 107) hc dX9_read_107 fl_X9_47 gc_108 (gr_9_28 gc_108).1 ?_
            refine vr_iload_n (pc := 110) hc dX9_read_110 rfl ?_
            have hb13 := vz_ifp h
            rw [if_pos hb13] at h
            refine vr_iald (pc := 111) hc 4 dX9_read_111 ((gr_9_28 gc_108).2.1) ((gr_9_28 gc_108).2.2) (vz_in_vp hb13) ?_
            refine vr_iconst (pc := 112) hc dX9_read_112 (1 : Int32) (by decide) ?_
            refine vr_isub (pc := 113) hc dX9_read_113 ?_
            refine vr_i2l (pc := 114) hc dX9_read_114 ?_
            refine vr_cSi (pc := 115) hc dX9_read_115 mt_X9_in sx_X9_in ml_X9_55  (w_X9_in z μ.2.1 (x3.toInt64 + x7.toInt64) (0 : Int64) (((σ 121 x1.toNatClampNeg) - (1 : Int32)).toInt64) σ rfl) rfl (by decide) rfl (Nat.le_of_ble_eq_true rfl) ?_
            refine vr_if_ne (pc := 118) hc 125 dX9_read_118 (by decide) (fun hb14 => ?_) (fun hb14 => ?_)
            · rw [if_neg hb14] at h
              refine vr_iconst (pc := 125) hc dX9_read_125 (0 : Int32) (by decide) ?_
              exact vz_sub (wn_X9_read_126 z μ hc hret (f_X9_read_56 n) ih x1 x2 x3 x4 x6 x7 (0 : Int32) σ h) (vz_sb1 rfl (vz_sb1 rfl (vz_sb1 rfl (vz_sb1 rfl (vz_sb1 rfl (vz_sb1 rfl (vz_sb1 rfl vz_sb0)))))))
            · rw [if_pos hb14] at h
              refine vr_iconst (pc := 121) hc dX9_read_121 (2 : Int32) (by decide) ?_
              refine vr_goto (pc := 122) hc 126 dX9_read_122 (by decide) ?_
              exact vz_sub (wn_X9_read_126 z μ hc hret (f_X9_read_56 n) ih x1 x2 x3 x4 x6 x7 (2 : Int32) σ h) (vz_sb1 rfl (vz_sb1 rfl (vz_sb1 rfl (vz_sb1 rfl (vz_sb1 rfl (vz_sb1 rfl (vz_sb1 rfl vz_sb0)))))))
          · rw [if_neg hb12] at h
            refine vr_iconst (pc := 95) hc dX9_read_95 (3 : Int32) (by decide) ?_
            refine vr_goto (pc := 96) hc 126 dX9_read_96 (by decide) ?_
            exact vz_sub (wn_X9_read_126 z μ hc hret (f_X9_read_56 n) ih x1 x2 x3 x4 x6 x7 (3 : Int32) σ h) (vz_sb1 rfl (vz_sb1 rfl (vz_sb1 rfl (vz_sb1 rfl (vz_sb1 rfl (vz_sb1 rfl (vz_sb1 rfl vz_sb0)))))))
        · rw [if_pos hb10] at h
          refine vr_iconst (pc := 81) hc dX9_read_81 (1 : Int32) (by decide) ?_
          refine vr_goto (pc := 82) hc 126 dX9_read_82 (by decide) ?_
          exact vz_sub (wn_X9_read_126 z μ hc hret (f_X9_read_56 n) ih x1 x2 x3 x4 x6 x7 (1 : Int32) σ h) (vz_sb1 rfl (vz_sb1 rfl (vz_sb1 rfl (vz_sb1 rfl (vz_sb1 rfl (vz_sb1 rfl (vz_sb1 rfl vz_sb0)))))))
def f_X9_read (x1 : Int32) (x2 : Int32) (x3 : Int32) (x4 : Int32) (σ : vz_I) : Option (Int32 × vz_I) := if (f_X9_in x1.toInt64 (0 : Int64) (3 : Int64)) = 0 then some ((-1 : Int32), σ) else if (f_X9_in x2.toInt64 (0 : Int64) (2 : Int64)) = 0 then some ((-1 : Int32), σ) else if (f_X9_in x4.toInt64 (0 : Int64) (20 : Int64)) = 0 then some ((-1 : Int32), σ) else vz_b1 (f_X9_copies (0 : Int32) (183 : Int32) σ) (fun σ6 => f_X9_read_56 vz_fu x1 x2 x3 x4 (0 : Int32) (0 : Int32) (0 : Int32) σ6)
set_option maxRecDepth 20000 in
set_option maxHeartbeats 1000000 in
theorem w_X9_read (z : vz_Z) (l : Launch) (x1 : Int32) (x2 : Int32) (x3 : Int32) (x4 : Int32) (σ : vz_I)  {r : Int32} {σ' : vz_I} (h : f_X9_read x1 x2 x3 x4 σ = some (r, σ')) : vz_Con z l 3 yX9_read cX9_read 9 (some .int) [.ref 108, .int x1, .int x2, .int x3, .int x4] vz_G0 σ vz_N0 (some (.int r)) vz_G0 σ' vz_N0 0 0 := by
  refine vz_con (by decide) (Nat.le_of_ble_eq_true rfl) (fun μ hc hl hcap hret => ?_)
  subst hl
  unfold f_X9_read at h
  refine vr_iload_n (pc := 0) hc dX9_read_0 rfl ?_
  refine vr_i2l (pc := 1) hc dX9_read_1 ?_
  refine vr_lconst (pc := 2) hc dX9_read_2 (0 : Int64) (by decide) ?_
  refine vr_ldc2 (pc := 3) hc dX9_read_3 (3 : Int64) cl_X9_209 ?_
  refine vr_cSi (pc := 6) hc dX9_read_6 mt_X9_in sx_X9_in ml_X9_55  (w_X9_in z μ.2.1 x1.toInt64 (0 : Int64) (3 : Int64) σ rfl) rfl (by decide) rfl (Nat.le_of_ble_eq_true rfl) ?_
  refine vr_if_eq (pc := 9) hc 37 dX9_read_9 (by decide) (fun hb1 => ?_) (fun hb1 => ?_)
  · rw [if_pos hb1] at h
    refine vr_iconst (pc := 37) hc dX9_read_37 (-1 : Int32) (by decide) ?_
    obtain ⟨rfl, rfl⟩ := vz_in2 h
    exact hret _ _ (vz_ret_i dX9_read_38 rfl)
  · rw [if_neg hb1] at h
    refine vr_iload_n (pc := 12) hc dX9_read_12 rfl ?_
    refine vr_i2l (pc := 13) hc dX9_read_13 ?_
    refine vr_lconst (pc := 14) hc dX9_read_14 (0 : Int64) (by decide) ?_
    refine vr_ldc2 (pc := 15) hc dX9_read_15 (2 : Int64) cl_X9_207 ?_
    refine vr_cSi (pc := 18) hc dX9_read_18 mt_X9_in sx_X9_in ml_X9_55  (w_X9_in z μ.2.1 x2.toInt64 (0 : Int64) (2 : Int64) σ rfl) rfl (by decide) rfl (Nat.le_of_ble_eq_true rfl) ?_
    refine vr_if_eq (pc := 21) hc 37 dX9_read_21 (by decide) (fun hb2 => ?_) (fun hb2 => ?_)
    · rw [if_pos hb2] at h
      refine vr_iconst (pc := 37) hc dX9_read_37 (-1 : Int32) (by decide) ?_
      obtain ⟨rfl, rfl⟩ := vz_in2 h
      exact hret _ _ (vz_ret_i dX9_read_38 rfl)
    · rw [if_neg hb2] at h
      refine vr_iload (pc := 24) hc dX9_read_24 rfl ?_
      refine vr_i2l (pc := 26) hc dX9_read_26 ?_
      refine vr_lconst (pc := 27) hc dX9_read_27 (0 : Int64) (by decide) ?_
      refine vr_ldc2 (pc := 28) hc dX9_read_28 (20 : Int64) cl_X9_263 ?_
      refine vr_cSi (pc := 31) hc dX9_read_31 mt_X9_in sx_X9_in ml_X9_55  (w_X9_in z μ.2.1 x4.toInt64 (0 : Int64) (20 : Int64) σ rfl) rfl (by decide) rfl (Nat.le_of_ble_eq_true rfl) ?_
      refine vr_if_ne (pc := 34) hc 39 dX9_read_34 (by decide) (fun hb3 => ?_) (fun hb3 => ?_)
      · rw [if_neg hb3] at h
        refine vr_aload_n (pc := 39) hc dX9_read_39 rfl ?_
        refine vr_iconst (pc := 40) hc dX9_read_40 (0 : Int32) (by decide) ?_
        refine vr_sipush (pc := 41) hc dX9_read_41 (183 : Int32) (by decide) ?_
        obtain ⟨σ6, he4, h⟩ := vz_b1e h
        refine vr_cVv (pc := 44) hc dX9_read_44 mt_X9_copies ml_X9_235 gc_108 (w_X9_copies z μ.2.1 (0 : Int32) (183 : Int32) σ he4) rfl (by decide) rfl (Nat.le_of_ble_eq_true rfl) ?_
        refine vr_iconst (pc := 47) hc dX9_read_47 (0 : Int32) (by decide) ?_
        refine vr_istore (pc := 48) hc dX9_read_48 (by decide) rfl ?_
        refine vr_iconst (pc := 50) hc dX9_read_50 (0 : Int32) (by decide) ?_
        refine vr_istore (pc := 51) hc dX9_read_51 (by decide) rfl ?_
        refine vr_iconst (pc := 53) hc dX9_read_53 (0 : Int32) (by decide) ?_
        refine vr_istore (pc := 54) hc dX9_read_54 (by decide) rfl ?_
        exact vz_sub (wn_X9_read_56 z μ hc hret vz_fu x1 x2 x3 x4 (0 : Int32) (0 : Int32) (0 : Int32) σ6 h) (vz_sb1 rfl (vz_sb1 rfl (vz_sb1 rfl (vz_sb1 rfl (vz_sb1 rfl (vz_sb1 rfl (vz_sb1 rfl (vz_sb1 rfl vz_sb0))))))))
      · rw [if_pos hb3] at h
        refine vr_iconst (pc := 37) hc dX9_read_37 (-1 : Int32) (by decide) ?_
        obtain ⟨rfl, rfl⟩ := vz_in2 h
        exact hret _ _ (vz_ret_i dX9_read_38 rfl)
