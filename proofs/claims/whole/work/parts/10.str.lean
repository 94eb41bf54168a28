/-! String constants: length and charAt, out of the JDK's code -/
def vz_slen (q : Nat) : Int32 := nI (vz_sl.getD q 0)
def vz_sch (q : Nat) (i : Int32) : Int32 := (vz_sb8.getD q []).getD i.toNatClampNeg 0
theorem vs_byte : ∀ q, q < 7 → ∀ j, j < vz_sl.getD q 0 → (vz_sb8.getD q []).getD j 0 &&& 255 = (vz_sb8.getD q []).getD j 0 := by decide +kernel
theorem st_J0_length_8abf5 : vz_MS yJ0_length_8abf5 cJ0_length_8abf5 1 (some .int) 0 ∧ Cond.instanceMethod yJ0_length_8abf5 ∈ vz_tbl ∧ Cond.selects yJ0_length_8abf5.cls yJ0_length_8abf5 yJ0_length_8abf5 ∈ vz_tbl := ⟨⟨vz_tb (tb2 (List.mem_of_getElem? (i := 100) rfl)) rfl, vz_tb (tb1 (List.mem_of_getElem? (i := 11) rfl)) rfl, by decide, by decide +kernel, by decide +kernel, by decide +kernel⟩, vz_tb (tb2 (List.mem_of_getElem? (i := 98) rfl)) rfl, vz_tb (tb2 (List.mem_of_getElem? (i := 99) rfl)) rfl⟩
theorem st_J0_charAt_5068e : vz_MS yJ0_charAt_5068e cJ0_charAt_5068e 2 (some .char) 1 ∧ Cond.instanceMethod yJ0_charAt_5068e ∈ vz_tbl ∧ Cond.selects yJ0_charAt_5068e.cls yJ0_charAt_5068e yJ0_charAt_5068e ∈ vz_tbl := ⟨⟨vz_tb (tb2 (List.mem_of_getElem? (i := 110) rfl)) rfl, vz_tb (tb1 (List.mem_of_getElem? (i := 11) rfl)) rfl, by decide, by decide +kernel, by decide +kernel, by decide +kernel⟩, vz_tb (tb2 (List.mem_of_getElem? (i := 108) rfl)) rfl, vz_tb (tb2 (List.mem_of_getElem? (i := 109) rfl)) rfl⟩
theorem st_J0_coder_7d493 : vz_MS yJ0_coder_7d493 cJ0_coder_7d493 1 (some .byte) 0 ∧ Cond.instanceMethod yJ0_coder_7d493 ∈ vz_tbl ∧ Cond.selects yJ0_coder_7d493.cls yJ0_coder_7d493 yJ0_coder_7d493 ∈ vz_tbl := ⟨⟨vz_tb (tb2 (List.mem_of_getElem? (i := 104) rfl)) rfl, vz_tb (tb1 (List.mem_of_getElem? (i := 11) rfl)) rfl, by decide, by decide +kernel, by decide +kernel, by decide +kernel⟩, vz_tb (tb2 (List.mem_of_getElem? (i := 102) rfl)) rfl, vz_tb (tb2 (List.mem_of_getElem? (i := 103) rfl)) rfl⟩
theorem st_J0_isLatin1_aae02 : vz_MS yJ0_isLatin1_aae02 cJ0_isLatin1_aae02 1 (some .boolean) 0 ∧ Cond.instanceMethod yJ0_isLatin1_aae02 ∈ vz_tbl ∧ Cond.selects yJ0_isLatin1_aae02.cls yJ0_isLatin1_aae02 yJ0_isLatin1_aae02 ∈ vz_tbl := ⟨⟨vz_tb (tb2 (List.mem_of_getElem? (i := 114) rfl)) rfl, vz_tb (tb1 (List.mem_of_getElem? (i := 11) rfl)) rfl, by decide, by decide +kernel, by decide +kernel, by decide +kernel⟩, vz_tb (tb2 (List.mem_of_getElem? (i := 112) rfl)) rfl, vz_tb (tb2 (List.mem_of_getElem? (i := 113) rfl)) rfl⟩
theorem mt_J1_charAt_3b067 : vz_MS yJ1_charAt_3b067 cJ1_charAt_3b067 2 (some .char) 2 := ⟨vz_tb (tb2 (List.mem_of_getElem? (i := 117) rfl)) rfl, vz_tb (tb1 (List.mem_of_getElem? (i := 12) rfl)) rfl, by decide, by decide +kernel, by decide +kernel, by decide +kernel⟩
theorem sx_J1_charAt_3b067 : Cond.static yJ1_charAt_3b067 ∈ vz_tbl := vz_tb (tb2 (List.mem_of_getElem? (i := 116) rfl)) rfl
theorem mt_J0_checkIndex_df160 : vz_MS yJ0_checkIndex_df160 cJ0_checkIndex_df160 2 none 2 := ⟨vz_tb (tb2 (List.mem_of_getElem? (i := 120) rfl)) rfl, vz_tb (tb1 (List.mem_of_getElem? (i := 11) rfl)) rfl, by decide, by decide +kernel, by decide +kernel, by decide +kernel⟩
theorem sx_J0_checkIndex_df160 : Cond.static yJ0_checkIndex_df160 ∈ vz_tbl := vz_tb (tb2 (List.mem_of_getElem? (i := 119) rfl)) rfl
theorem mt_J3_checkIndex_8e157 : vz_MS yJ3_checkIndex_8e157 cJ3_checkIndex_8e157 3 (some .int) 3 := ⟨vz_tb (tb2 (List.mem_of_getElem? (i := 125) rfl)) rfl, vz_tb (tb1 (List.mem_of_getElem? (i := 13) rfl)) rfl, by decide, by decide +kernel, by decide +kernel, by decide +kernel⟩
theorem sx_J3_checkIndex_8e157 : Cond.static yJ3_checkIndex_8e157 ∈ vz_tbl := vz_tb (tb2 (List.mem_of_getElem? (i := 124) rfl)) rfl
theorem ml_J0_335 : Cond.methodLink RJ0 335 yJ0_coder_7d493 ∈ vz_tbl := vz_tb (tb2 (List.mem_of_getElem? (i := 101) rfl)) rfl
theorem ml_J0_492 : Cond.methodLink RJ0 492 yJ0_isLatin1_aae02 ∈ vz_tbl := vz_tb (tb2 (List.mem_of_getElem? (i := 111) rfl)) rfl
theorem ml_J0_495 : Cond.methodLink RJ0 495 yJ1_charAt_3b067 ∈ vz_tbl := vz_tb (tb2 (List.mem_of_getElem? (i := 115) rfl)) rfl
theorem ml_J1_9 : Cond.methodLink RJ1 9 yJ0_checkIndex_df160 ∈ vz_tbl := vz_tb (tb2 (List.mem_of_getElem? (i := 118) rfl)) rfl
theorem ml_J0_1059 : Cond.methodLink RJ0 1059 yJ3_checkIndex_8e157 ∈ vz_tbl := vz_tb (tb2 (List.mem_of_getElem? (i := 123) rfl)) rfl
theorem lk_J0_9 : Cond.fieldLink RJ0 9 "java/lang/String" "value" "[B" ∈ vz_tbl := vz_tb (tb6 (List.mem_of_getElem? (i := 95) rfl)) rfl
theorem lk_J0_15 : Cond.fieldLink RJ0 15 "java/lang/String" "coder" "B" ∈ vz_tbl := vz_tb (tb6 (List.mem_of_getElem? (i := 96) rfl)) rfl
theorem lk_J0_38 : Cond.fieldLink RJ0 38 "java/lang/String" "COMPACT_STRINGS" "Z" ∈ vz_tbl := vz_tb (tb2 (List.mem_of_getElem? (i := 105) rfl)) rfl
theorem lk_J0_1053 : Cond.fieldLink RJ0 1053 "jdk/internal/util/Preconditions" "SIOOBE_FORMATTER" "Ljava/util/function/BiFunction;" ∈ vz_tbl := vz_tb (tb2 (List.mem_of_getElem? (i := 121) rfl)) rfl
section VZS
variable {z : vz_Z} {μ : vz_M} {cc : ByteArray} {own : String} {dp nL pc N : Nat} {L : vz_L} {st rest : List Value} {G : vz_G} {σ : vz_I}
theorem vs_adK {q : Nat} (hq : q < 7) : vz_cv z (.ref (1048576 + q)) = .ref (z.2.2.2.1 q) := by
  simp only [vz_cv, vz_ad]
  rw [if_neg (by omega), if_pos (by omega), Nat.add_sub_cancel_left]
theorem vs_adV {q : Nat} : vz_cv z (.ref (2097152 + q)) = .ref (z.2.2.2.2 q) := by
  simp only [vz_cv, vz_ad]
  rw [if_neg (by omega), if_neg (by omega), Nat.add_sub_cancel_left]
theorem vr_ldcS (hc : vz_C z μ cc own dp nL) {k idx : Nat} {tx : String} (hd : decode cc pc = .ok (.ldc idx, 2)) (hx : vz_sx[k]? = some (idx, tx)) (ho : own = RX6) (h : vz_V z μ 0 0 (pc + 2) L (.ref (1048576 + k) :: rest) G σ N) : vz_V z μ 0 0 pc L rest G σ N := by
  intro H locs ls hP hS hL
  subst ho
  have hk7 : k < 7 := (List.getElem?_eq_some_iff.mp hx).1
  have hk := h H locs ls hP hS hL
  rw [show (Value.ref (1048576 + k) :: rest).map (vz_cv z) = .ref (z.2.2.2.1 k) :: rest.map (vz_cv z) by rw [← vs_adK hk7]; rfl] at hk
  exact va_ldcS hc.1 hc.2.1 hc.2.2.2.1 (hc.2.2.2.2.2.1.2.2.1 k _ hx) hd hk
theorem vs_getC (hc : vz_C z μ cc RJ0 dp nL) {q : Nat} (hq : q < 7) (hd : decode cc pc = .ok (.getfield 15, 3)) (h : vz_V z μ 0 0 (pc + 3) L (.int 0 :: st) G σ N) : vz_V z μ 0 0 pc L (.ref (1048576 + q) :: st) G σ N := by
  intro H locs ls hP hS hL
  have hk := h H locs ls hP hS hL
  rw [show (Value.ref (1048576 + q) :: st).map (vz_cv z) = .ref (z.2.2.2.1 q) :: st.map (vz_cv z) by rw [← vs_adK hq]; rfl]
  exact vk_getf hc.1 hc.2.1 (hc.2.2.2.2.2.1.2.2.2.1.1 q hq).2.1 hS hc.2.2.2.1 (hc.2.2.2.2.1 _ lk_J0_15) (fun _ e => e) hd hk
theorem vs_getV (hc : vz_C z μ cc RJ0 dp nL) {q : Nat} (hq : q < 7) (hd : decode cc pc = .ok (.getfield 9, 3)) (h : vz_V z μ 0 0 (pc + 3) L (.ref (2097152 + q) :: st) G σ N) : vz_V z μ 0 0 pc L (.ref (1048576 + q) :: st) G σ N := by
  intro H locs ls hP hS hL
  have hk := h H locs ls hP hS hL
  rw [show (Value.ref (1048576 + q) :: st).map (vz_cv z) = .ref (z.2.2.2.1 q) :: st.map (vz_cv z) by rw [← vs_adK hq]; rfl]
  rw [show (Value.ref (2097152 + q) :: st).map (vz_cv z) = .ref (z.2.2.2.2 q) :: st.map (vz_cv z) by rw [← vs_adV]; rfl] at hk
  exact vk_getf hc.1 hc.2.1 (hc.2.2.2.2.2.1.2.2.2.1.1 q hq).2.2.1 hS hc.2.2.2.1 (hc.2.2.2.2.1 _ lk_J0_9) (fun _ e => e) hd hk
theorem vs_alen (hc : vz_C z μ cc own dp nL) {q : Nat} (hq : q < 7) (hd : decode cc pc = .ok (.arraylength, 1)) (h : vz_V z μ 0 0 (pc + 1) L (.int (vz_slen q) :: st) G σ N) : vz_V z μ 0 0 pc L (.ref (2097152 + q) :: st) G σ N := by
  intro H locs ls hP hS hL
  have hk := h H locs ls hP hS hL
  rw [show (Value.ref (2097152 + q) :: st).map (vz_cv z) = .ref (z.2.2.2.2 q) :: st.map (vz_cv z) by rw [← vs_adV]; rfl]
  exact va_tlen (v := vz_slen q) hc.1 hc.2.1 (hc.2.2.2.2.2.1.2.2.2.1.1 q hq).2.2.2 hS rfl hd hk
theorem vs_bald (hc : vz_C z μ cc own dp nL) {q : Nat} {i : Int32} (hq : q < 7) (hi : vz_in i (vz_sl.getD q 0)) (hd : decode cc pc = .ok (.baload, 1)) (h : vz_V z μ 0 0 (pc + 1) L (.int (vz_sch q i) :: st) G σ N) : vz_V z μ 0 0 pc L (.int i :: .ref (2097152 + q) :: st) G σ N := by
  intro H locs ls hP hS hL
  have hk := h H locs ls hP hS hL
  rw [show (Value.int i :: .ref (2097152 + q) :: st).map (vz_cv z) = .int i :: .ref (z.2.2.2.2 q) :: st.map (vz_cv z) by rw [← vs_adV]; rfl]
  exact va_tb (v := .int (vz_sch q i)) hc.1 hc.2.1 (hc.2.2.2.2.2.1.2.2.2.1.1 q hq).2.2.2 hS (vz_in_vp hi) rfl hd hk
theorem vs_gets (hc : vz_C z μ cc RJ0 dp nL) (hd : decode cc pc = .ok (.getstatic 38, 3)) (h : vz_V z μ 0 0 (pc + 3) L (.int 1 :: st) G σ N) : vz_V z μ 0 0 pc L st G σ N := by
  intro H locs ls hP hS hL
  exact va_gets hc.1 hc.2.1 hc.2.2.2.2.2.1.2.2.2.2.1 hS hc.2.2.2.1 (hc.2.2.2.2.1 _ lk_J0_38) (fun _ e => e) hd (h H locs ls hP hS hL)
theorem vs_getF (hc : vz_C z μ cc RJ0 dp nL) (hd : decode cc pc = .ok (.getstatic 1053, 3)) (h1 : vz_V z μ 0 0 (pc + 3) L (.null :: st) G σ N) (h2 : vz_V z μ 0 0 (pc + 3) L (.ref (2097152 + 7) :: st) G σ N) : vz_V z μ 0 0 pc L st G σ N := by
  intro H locs ls hP hS hL
  rcases hc.2.2.2.2.2.1.2.2.2.2.2.1 with hZ | hZ
  · exact va_gets hc.1 hc.2.1 hZ hS hc.2.2.2.1 (hc.2.2.2.2.1 _ lk_J0_1053) (fun _ e => e) hd (h1 H locs ls hP hS hL)
  · have hk := h2 H locs ls hP hS hL
    rw [show (Value.ref (2097152 + 7) :: st).map (vz_cv z) = .ref (z.2.2.2.2 7) :: st.map (vz_cv z) by rw [← vs_adV]; rfl] at hk
    exact va_gets hc.1 hc.2.1 hZ hS hc.2.2.2.1 (hc.2.2.2.2.1 _ lk_J0_1053) (fun _ e => e) hd hk
theorem vr_i2c (hc : vz_C z μ cc own dp nL) {x : Int32} (hd : decode cc pc = .ok (.i2c, 1)) (h : vz_V z μ 0 0 (pc + 1) L (.int (x.toUInt32 % 65536).toInt32 :: st) G σ N) : vz_V z μ 0 0 pc L (.int x :: st) G σ N :=
  fun H locs ls hP hS hL => lv_i2c hc.1 hc.2.1 hd rfl (h H locs ls hP hS hL)
theorem vs_callV (hc : vz_C z μ cc own dp nL) {idx dq maxL q n : Nat} {y : MethodName} {bytes : ByteArray} {ret : Option FieldType} {As : List Value} {v : Value} (hq7 : q < 7) (hy : y.cls = "java/lang/String") (hd : decode cc pc = .ok (.invokevirtual idx, 3)) (hm : vz_MS y bytes maxL ret n ∧ Cond.instanceMethod y ∈ vz_tbl ∧ Cond.selects y.cls y y ∈ vz_tbl) (hl : Cond.methodLink own idx y ∈ vz_tbl) (hM : vz_Con z μ.2.1 dq y bytes maxL ret (.ref (1048576 + q) :: As) G σ N (some v) G σ N 0 0) (hn : As.length = n) (hq : dq < dp) (hst : st = As.reverse ++ .ref (1048576 + q) :: rest) (hr : (rest.map fun v => v.category).sum ≤ 8) (h : vz_V z μ 0 0 (pc + 3) L (v :: rest) G σ N) : vz_V z μ 0 0 pc L st G σ N := by
  intro H locs ls hP hS hL
  subst hst
  obtain ⟨⟨m1, m2, m3, m4⟩, m5, m6⟩ := hm
  refine vz_after (v := some v) (va_runV (As := As.map (vz_cv z)) (rest := rest.map (vz_cv z)) (b := z.2.2.2.1 q) (C := y.cls) (Ts := vz_tbl) (g := F0 μ.2.2.2.2.2.1 pc ls _) ⟨hc.1, hc.2.1, hc.2.2.1, hc.2.2.2.1, hc.2.2.2.2.1⟩ hM ⟨callB_of (ws' := vz_tbl) n hc.2.2.2.2.1 (vz_good m1) rfl rfl rfl (hc.2.2.2.2.1 _ m2) (hc.2.2.2.2.1 _ hl) m4 ⟨?_, ?_⟩, hc.2.2.2.2.1 _ m5, hc.2.2.2.2.1 _ m6⟩ ⟨vz_blind (z := z) (G := G) (σ := σ) (N := N) (As := .ref (1048576 + q) :: As), ?_, fun U hU hW => ⟨?_, vz_K_call hc.2.2.2.2.2.1 hS hU hW, ?_, ?_⟩⟩ rfl (by rw [List.length_map]; exact hn) hL.1.1 ?_ (lv_room (by rw [vz_cat]; exact hr)) hd ⟨Nat.zero_le _, Nat.zero_le _⟩) hS hL h
  · have := hc.2.2.2.2.2.2.2.1
    show dq + 1 ≤ _
    omega
  · have := hc.2.2.2.2.2.2.2.2.1
    show 8 + (maxL + 11) + 35 * dq ≤ _
    omega
  · rw [hy]
    exact vk_recv hc.2.2.2.2.2.1.2.2.2.1 hq7 hS
  · rw [← vs_adK hq7]; rfl
  · rw [hU]; exact Nat.le_trans hc.2.2.2.2.2.2.1 hS.1
  · rw [hU]; exact hP
  · show (As.reverse ++ .ref (1048576 + q) :: rest).map (vz_cv z) = _
    rw [vz_stk, ← vs_adK hq7]
    rfl
theorem k_coder (z : vz_Z) (l : Launch) {q : Nat} (hq : q < 7) : vz_Con z l 0 yJ0_coder_7d493 cJ0_coder_7d493 1 (some .byte) [.ref (1048576 + q)] G σ N (some (.int 0)) G σ N 0 0 := by
  refine vz_con (by decide) (Nat.le_of_ble_eq_true rfl) (fun μ hc hl hcap hret => ?_)
  refine vs_gets (pc := 0) hc dJ0_coder_7d493_0 ?_
  refine vr_if_eq (pc := 3) hc 13 dJ0_coder_7d493_3 (by decide) (fun e => absurd e (by decide)) (fun _ => ?_)
  refine vr_aload_n (pc := 6) hc dJ0_coder_7d493_6 rfl ?_
  refine vs_getC (pc := 7) hc hq dJ0_coder_7d493_7 ?_
  refine vr_goto (pc := 10) hc 14 dJ0_coder_7d493_10 (by decide) ?_
  exact hret _ _ (vz_ret_i dJ0_coder_7d493_14 rfl)
theorem k_isLatin1 (z : vz_Z) (l : Launch) {q : Nat} (hq : q < 7) : vz_Con z l 0 yJ0_isLatin1_aae02 cJ0_isLatin1_aae02 1 (some .boolean) [.ref (1048576 + q)] G σ N (some (.int 1)) G σ N 0 0 := by
  refine vz_con (by decide) (Nat.le_of_ble_eq_true rfl) (fun μ hc hl hcap hret => ?_)
  refine vs_gets (pc := 0) hc dJ0_isLatin1_aae02_0 ?_
  refine vr_if_eq (pc := 3) hc 17 dJ0_isLatin1_aae02_3 (by decide) (fun e => absurd e (by decide)) (fun _ => ?_)
  refine vr_aload_n (pc := 6) hc dJ0_isLatin1_aae02_6 rfl ?_
  refine vs_getC (pc := 7) hc hq dJ0_isLatin1_aae02_7 ?_
  refine vr_if_ne (pc := 10) hc 17 dJ0_isLatin1_aae02_10 (by decide) (fun e => absurd rfl e) (fun _ => ?_)
  refine vr_iconst (pc := 13) hc dJ0_isLatin1_aae02_13 (1 : Int32) (by decide) ?_
  refine vr_goto (pc := 14) hc 18 dJ0_isLatin1_aae02_14 (by decide) ?_
  exact hret _ _ (vz_ret_i dJ0_isLatin1_aae02_18 rfl)
theorem k_length (z : vz_Z) (l : Launch) {q : Nat} (hq : q < 7) : vz_Con z l 1 yJ0_length_8abf5 cJ0_length_8abf5 1 (some .int) [.ref (1048576 + q)] G σ N (some (.int (vz_slen q))) G σ N 0 0 := by
  refine vz_con (by decide) (Nat.le_of_ble_eq_true rfl) (fun μ hc hl hcap hret => ?_)
  refine vr_aload_n (pc := 0) hc dJ0_length_8abf5_0 rfl ?_
  refine vs_getV (pc := 1) hc hq dJ0_length_8abf5_1 ?_
  refine vs_alen (pc := 4) hc hq dJ0_length_8abf5_4 ?_
  refine vr_aload_n (pc := 5) hc dJ0_length_8abf5_5 rfl ?_
  refine vs_callV (pc := 6) hc hq rfl dJ0_length_8abf5_6 st_J0_coder_7d493 ml_J0_335 (k_coder z _ hq) rfl (by decide) rfl (Nat.le_of_ble_eq_true rfl) ?_
  refine vr_ishr (pc := 9) hc dJ0_length_8abf5_9 ?_
  rw [sb_shr0]
  exact hret _ _ (vz_ret_i dJ0_length_8abf5_10 rfl)
theorem k_pre (z : vz_Z) (l : Launch) {i n : Int32} {w : Value} (hw : w = .null ∨ ∃ a, w = .ref a) (h0 : ¬ i < 0) (h1 : i < n) : vz_Con z l 0 yJ3_checkIndex_8e157 cJ3_checkIndex_8e157 3 (some .int) [.int i, .int n, w] G σ N (some (.int i)) G σ N 0 0 := by
  refine vz_con (by decide) (by rcases hw with rfl | ⟨a, rfl⟩ <;> exact Nat.le_of_ble_eq_true rfl) (fun μ hc hl hcap hret => ?_)
  refine vr_iload_n (pc := 0) hc dJ3_checkIndex_8e157_0 rfl ?_
  refine vr_if_lt (pc := 1) hc 9 dJ3_checkIndex_8e157_1 (by decide) (fun e => absurd e h0) (fun _ => ?_)
  refine vr_iload_n (pc := 4) hc dJ3_checkIndex_8e157_4 rfl ?_
  refine vr_iload_n (pc := 5) hc dJ3_checkIndex_8e157_5 rfl ?_
  refine vr_icmp_lt (pc := 6) hc 16 dJ3_checkIndex_8e157_6 (by decide) (fun _ => ?_) (fun e => absurd h1 e)
  refine vr_iload_n (pc := 16) hc dJ3_checkIndex_8e157_16 rfl ?_
  exact hret _ _ (vz_ret_i dJ3_checkIndex_8e157_17 rfl)
theorem k_check (z : vz_Z) (l : Launch) {i n : Int32} (h0 : ¬ i < 0) (h1 : i < n) : vz_Con z l 1 yJ0_checkIndex_df160 cJ0_checkIndex_df160 2 none [.int i, .int n] G σ N none G σ N 0 0 := by
  refine vz_con (by decide) (Nat.le_of_ble_eq_true rfl) (fun μ hc hl hcap hret => ?_)
  refine vr_iload_n (pc := 0) hc dJ0_checkIndex_df160_0 rfl ?_
  refine vr_iload_n (pc := 1) hc dJ0_checkIndex_df160_1 rfl ?_
  refine vs_getF (pc := 2) hc dJ0_checkIndex_df160_2 ?_ ?_
  · refine vr_cSi (pc := 5) hc dJ0_checkIndex_df160_5 mt_J3_checkIndex_8e157 sx_J3_checkIndex_8e157 ml_J0_1059 (k_pre z _ (Or.inl rfl) h0 h1) rfl (by decide) rfl (Nat.le_of_ble_eq_true rfl) ?_
    refine vr_pop (pc := 8) hc dJ0_checkIndex_df160_8 rfl ?_
    exact hret _ _ (vz_ret_v dJ0_checkIndex_df160_9)
  · refine vr_cSi (pc := 5) hc dJ0_checkIndex_df160_5 mt_J3_checkIndex_8e157 sx_J3_checkIndex_8e157 ml_J0_1059 (k_pre z _ (Or.inr ⟨_, rfl⟩) h0 h1) rfl (by decide) rfl (Nat.le_of_ble_eq_true rfl) ?_
    refine vr_pop (pc := 8) hc dJ0_checkIndex_df160_8 rfl ?_
    exact hret _ _ (vz_ret_v dJ0_checkIndex_df160_9)
theorem vs_ilt {q : Nat} {i : Int32} (hq : q < 7) (hi : vz_in i (vz_sl.getD q 0)) : ¬ i < 0 ∧ i < vz_slen q := by
  have hl : vz_sl.getD q 0 < 2 ^ 31 := (by decide : ∀ q, q < 7 → vz_sl.getD q 0 < 2 ^ 31) q hq
  constructor
  · rw [Int32.lt_iff_toInt_lt]
    have := hi.1
    simp
    omega
  · rw [Int32.lt_iff_toInt_lt, vz_slen, nI_toInt hl]
    exact hi.2
theorem vs_chr {q : Nat} {i : Int32} (hq : q < 7) (hi : vz_in i (vz_sl.getD q 0)) : ((vz_sch q i &&& 255).toUInt32 % 65536).toInt32 = vz_sch q i ∧ narrow .char (.int (vz_sch q i)) = .int (vz_sch q i) := by
  have hb : vz_sch q i &&& 255 = vz_sch q i := vs_byte q hq _ (vz_in_lt hi)
  exact ⟨by rw [sc_c2, hb], by rw [← hb]; exact sc_nar _⟩
theorem k_latin (z : vz_Z) (l : Launch) {q : Nat} {i : Int32} (hq : q < 7) (hi : vz_in i (vz_sl.getD q 0)) : vz_Con z l 2 yJ1_charAt_3b067 cJ1_charAt_3b067 2 (some .char) [.ref (2097152 + q), .int i] G σ N (some (.int (vz_sch q i))) G σ N 0 0 := by
  refine vz_con (by decide) (Nat.le_of_ble_eq_true rfl) (fun μ hc hl hcap hret => ?_)
  refine vr_iload_n (pc := 0) hc dJ1_charAt_3b067_0 rfl ?_
  refine vr_aload_n (pc := 1) hc dJ1_charAt_3b067_1 rfl ?_
  refine vs_alen (pc := 2) hc hq dJ1_charAt_3b067_2 ?_
  refine vr_cSv (pc := 3) hc dJ1_charAt_3b067_3 mt_J0_checkIndex_df160 sx_J0_checkIndex_df160 ml_J1_9 (k_check z _ (vs_ilt hq hi).1 (vs_ilt hq hi).2) rfl (by decide) rfl (Nat.le_of_ble_eq_true rfl) ?_
  refine vr_aload_n (pc := 6) hc dJ1_charAt_3b067_6 rfl ?_
  refine vr_iload_n (pc := 7) hc dJ1_charAt_3b067_7 rfl ?_
  refine vs_bald (pc := 8) hc hq hi dJ1_charAt_3b067_8 ?_
  refine vr_sipush (pc := 9) hc dJ1_charAt_3b067_9 (255 : Int32) (by decide) ?_
  refine vr_iand (pc := 12) hc dJ1_charAt_3b067_12 ?_
  refine vr_i2c (pc := 13) hc dJ1_charAt_3b067_13 ?_
  rw [(vs_chr hq hi).1]
  exact hret _ _ (vz_ret_i dJ1_charAt_3b067_14 (vs_chr hq hi).2)
theorem k_charAt (z : vz_Z) (l : Launch) {q : Nat} {i : Int32} (hq : q < 7) (hi : vz_in i (vz_sl.getD q 0)) : vz_Con z l 3 yJ0_charAt_5068e cJ0_charAt_5068e 2 (some .char) [.ref (1048576 + q), .int i] G σ N (some (.int (vz_sch q i))) G σ N 0 0 := by
  refine vz_con (by decide) (Nat.le_of_ble_eq_true rfl) (fun μ hc hl hcap hret => ?_)
  refine vr_aload_n (pc := 0) hc dJ0_charAt_5068e_0 rfl ?_
  refine vs_callV (pc := 1) hc hq rfl dJ0_charAt_5068e_1 st_J0_isLatin1_aae02 ml_J0_492 (k_isLatin1 z _ hq) rfl (by decide) rfl (Nat.le_of_ble_eq_true rfl) ?_
  refine vr_if_eq (pc := 4) hc 16 dJ0_charAt_5068e_4 (by decide) (fun e => absurd e (by decide)) (fun _ => ?_)
  refine vr_aload_n (pc := 7) hc dJ0_charAt_5068e_7 rfl ?_
  refine vs_getV (pc := 8) hc hq dJ0_charAt_5068e_8 ?_
  refine vr_iload_n (pc := 11) hc dJ0_charAt_5068e_11 rfl ?_
  refine vr_cSi (pc := 12) hc dJ0_charAt_5068e_12 mt_J1_charAt_3b067 sx_J1_charAt_3b067 ml_J0_495 (k_latin z _ hq hi) rfl (by decide) rfl (Nat.le_of_ble_eq_true rfl) ?_
  exact hret _ _ (vz_ret_i dJ0_charAt_5068e_15 (vs_chr hq hi).2)
theorem vr_slen (hc : vz_C z μ cc own dp nL) {q idx : Nat} (hq : q < 7) (hd : decode cc pc = .ok (.invokevirtual idx, 3)) (hl : Cond.methodLink own idx yJ0_length_8abf5 ∈ vz_tbl) (hp : 1 < dp) (hr : (rest.map fun v => v.category).sum ≤ 8) (h : vz_V z μ 0 0 (pc + 3) L (.int (vz_slen q) :: rest) G σ N) : vz_V z μ 0 0 pc L (.ref (1048576 + q) :: rest) G σ N :=
  vs_callV (As := []) hc hq rfl hd st_J0_length_8abf5 hl (k_length z _ hq) rfl hp rfl hr h
theorem vr_schr (hc : vz_C z μ cc own dp nL) {q idx : Nat} {i : Int32} (hq : q < 7) (hi : vz_in i (vz_sl.getD q 0)) (hd : decode cc pc = .ok (.invokevirtual idx, 3)) (hl : Cond.methodLink own idx yJ0_charAt_5068e ∈ vz_tbl) (hp : 3 < dp) (hr : (rest.map fun v => v.category).sum ≤ 8) (h : vz_V z μ 0 0 (pc + 3) L (.int (vz_sch q i) :: rest) G σ N) : vz_V z μ 0 0 pc L (.int i :: .ref (1048576 + q) :: rest) G σ N :=
  vs_callV (As := [.int i]) hc hq rfl hd st_J0_charAt_5068e hl (k_charAt z _ hq hi) rfl hp rfl hr h
end VZS
