/-! contracts and calls -/
def vz_Qc (z : vz_Z) (v : Option Value) (G' : vz_G) (σ' : vz_I) (N' : Nat) : Array Value → State → Outcome → State → Prop := fun _ st o t => (o = .returned (v.map (vz_cv z)) ∧ vz_P z G' σ' N' t.heap) ∧ va_F (vz_A z) st t
def vz_Con (z : vz_Z) (l : Launch) (dp : Nat) (y : MethodName) (cc : ByteArray) (nL : Nat) (ret : Option FieldType) (As : List Value) (G : vz_G) (σ : vz_I) (N : Nat) (v : Option Value) (G' : vz_G) (σ' : vz_I) (N' mc ms : Nat) : Prop :=
  Met l y (Cond.code y cc nL ret :: vz_tbl) { frames := dp, cells := mc, slots := ms, locals := 35 * dp } (va_Pc (As.map (vz_cv z)) (fun U => vz_K z U ∧ z.2.2.1 ≤ U.heap.size ∧ vz_P z G σ N U.heap)) (vz_Qc z v G' σ' N') mc ms (vz_A z)
/-- what a method's end asks: the kind of its return instruction -/
def vz_ret (cc : ByteArray) (ret : Option FieldType) (pc : Nat) (v : Option Value) : Prop :=
  (∃ ty x, ret = some ty ∧ v = some (.int x) ∧ decode cc pc = .ok (.ireturn, 1) ∧ narrow ty (.int x) = .int x) ∨
  (∃ x, ret = some .long ∧ v = some (.long x) ∧ decode cc pc = .ok (.lreturn, 1)) ∨
  (∃ C w, ret = some (.object C) ∧ v = some w ∧ (w = .null ∨ ∃ a, w = .ref a) ∧ decode cc pc = .ok (.areturn, 1)) ∨
  (ret = none ∧ v = none ∧ decode cc pc = .ok (.return_, 1))
theorem vz_ret_i {cc : ByteArray} {ty : FieldType} {pc : Nat} {x : Int32} (h : decode cc pc = .ok (.ireturn, 1)) (hn : narrow ty (.int x) = .int x) : vz_ret cc (some ty) pc (some (.int x)) := Or.inl ⟨ty, x, rfl, rfl, h, hn⟩
theorem vz_ret_l {cc : ByteArray} {pc : Nat} {x : Int64} (h : decode cc pc = .ok (.lreturn, 1)) : vz_ret cc (some .long) pc (some (.long x)) := Or.inr (Or.inl ⟨x, rfl, rfl, h⟩)
theorem vz_ret_a {cc : ByteArray} {C : String} {pc a : Nat} (h : decode cc pc = .ok (.areturn, 1)) : vz_ret cc (some (.object C)) pc (some (.ref a)) := Or.inr (Or.inr (Or.inl ⟨C, _, rfl, rfl, Or.inr ⟨a, rfl⟩, h⟩))
theorem vz_ret_n {cc : ByteArray} {C : String} {pc : Nat} (h : decode cc pc = .ok (.areturn, 1)) : vz_ret cc (some (.object C)) pc (some .null) := Or.inr (Or.inr (Or.inl ⟨C, _, rfl, rfl, Or.inl rfl, h⟩))
theorem vz_ret_v {cc : ByteArray} {pc : Nat} (h : decode cc pc = .ok (.return_, 1)) : vz_ret cc none pc none := Or.inr (Or.inr (Or.inr ⟨rfl, rfl, h⟩))
theorem vz_con {z : vz_Z} {l : Launch} {dp : Nat} {y : MethodName} {cc : ByteArray} {nL : Nat} {ret : Option FieldType} {As : List Value} {G : vz_G} {σ : vz_I} {N : Nat} {v : Option Value} {G' : vz_G} {σ' : vz_I} {N' mc ms : Nat} (hy : plainName y.cls = true) (hlen : (lg_sl (As.map (vz_cv z))).length ≤ nL)
    (body : ∀ μ : vz_M, vz_C z μ cc y.cls dp nL → μ.2.1 = l → mc ≤ μ.2.2.2.1.cells ∧ ms ≤ μ.2.2.2.1.slots ∧ (y.name = "<init>" → μ.2.2.2.2.2.2.2.2.1.name = "<init>") → (∀ (pc : Nat) (L : vz_L), vz_ret cc ret pc v → vz_V z μ mc ms pc L v.toList G' σ' N') → vz_V z μ 0 0 0 (vz_arg 0 As) [] G σ N) : vz_Con z l dp y cc nL ret As G σ N v G' σ' N' mc ms := by
  refine Met.ofW (cc := cc) (maxL := nL) (ret := ret) hy rfl ?_
  intro p e s m args below meth c s₁ B hml hv
  obtain ⟨rfl, hK, hbs, hP⟩ := hv
  have hts := atoms_spec (ws := Cond.code y cc nL ret :: vz_tbl) B.pre
  have hown : s.vm.findClass y.cls = some m.cls := findClass_of_methodNamed B.named
  have hlocks := B.notSynchronized
  rw [lg_entry_eq]
  have hE := vz_entry z As hlen
  generalize (lg_sl (As.map (vz_cv z)) ++ List.replicate (nL - (lg_sl (As.map (vz_cv z))).length) Slot.unset).toArray = ls at hE ⊢
  refine body (p, l, e, { frames := dp, cells := mc, slots := ms, locals := 35 * dp }, s, m, (As.map (vz_cv z)).toArray, below, meth, c, nL, MQ below (vz_Qc z v G' σ' N') (As.map (vz_cv z)).toArray s mc ms (vz_A z)) ⟨B.exec, B.bytes, hml, hown, fun w hw => hts w (List.mem_cons_of_mem _ hw), hK, hbs, Nat.le_refl _, Nat.le_refl _, rfl⟩ rfl ⟨Nat.le_refl _, Nat.le_refl _, fun q => (name_of_methodNamed B.named B.method).1.trans q⟩ ?_ s.heap [] ls hP va_S.rf hE
  intro pc L hr H locs ls' hP' hS' hL'
  have hq : ∀ t : State, t.heap = H → s.WarmedH t.vm → vz_Qc z v G' σ' N' (As.map (vz_cv z)).toArray s (.returned (v.map (vz_cv z))) t := fun t ht _ => ⟨⟨rfl, by rw [ht]; exact hP'⟩, hS'.F ht⟩
  have hf : ∀ q ∈ locs, vz_A z q.base := hS'.2.2
  rcases hr with ⟨ty, x, rfl, rfl, hd, hn⟩ | ⟨x, rfl, rfl, hd⟩ | ⟨C, w, rfl, rfl, hw, hd⟩ | ⟨rfl, rfl, hd⟩
  · exact W.zret (Qc := vz_Qc z (some (.int x)) G' σ' N') (free := vz_A z) B.exec B.bytes B.returns hn hq hf hd hlocks
  · exact W.lret (Qc := vz_Qc z (some (.long x)) G' σ' N') (free := vz_A z) B.exec B.bytes B.returns hq hf hd hlocks
  · have hw' : vz_cv z w = .null ∨ ∃ a, vz_cv z w = .ref a := by
      rcases hw with rfl | ⟨a, rfl⟩
      · exact Or.inl rfl
      · exact Or.inr ⟨_, rfl⟩
    exact W.aret (Qc := vz_Qc z (some w) G' σ' N') (free := vz_A z) (v := vz_cv z w) B.exec B.bytes B.returns (Or.inl ⟨C, rfl⟩) hw' hq hf hd hlocks
  · exact W.vret (Qc := vz_Qc z none G' σ' N') (free := vz_A z) B.exec B.bytes B.returns hq hf hd hlocks
theorem vz_all_good : vz_tbl.all goodWord = true := List.all_eq_true.mpr fun _ h => (List.mem_filter.mp h).2
theorem vz_good {y : MethodName} {bytes : ByteArray} {maxL : Nat} {ret : Option FieldType} (h : Cond.code y bytes maxL ret ∈ vz_tbl) : GoodIn vz_tbl (Cond.code y bytes maxL ret :: vz_tbl) := by
  intro w hw
  rcases List.mem_cons.mp hw with rfl | hw
  · exact ⟨h, good_of_word (List.all_eq_true.mp vz_all_good _ h)⟩
  · exact ⟨hw, good_of_word (List.all_eq_true.mp vz_all_good _ hw)⟩
/-- a method's own words -/
def vz_MS (y : MethodName) (bytes : ByteArray) (maxL : Nat) (ret : Option FieldType) (n : Nat) : Prop := Cond.code y bytes maxL ret ∈ vz_tbl ∧ Cond.initialized y.cls ∈ vz_tbl ∧ maxL ≤ 16 ∧ (y.cls ≠ "java/lang/invoke/MethodHandle" ∧ y.cls ≠ "java/lang/invoke/VarHandle" ∧ (parseMethodDescriptor y.desc).map (fun d => d.parameters.length) = some n)
def vz_MV (ci : Nat) (y : MethodName) (bytes : ByteArray) (maxL : Nat) (ret : Option FieldType) (n : Nat) : Prop := vz_MS y bytes maxL ret n ∧ Cond.instanceMethod y ∈ vz_tbl ∧ Cond.selects y.cls y y ∈ vz_tbl ∧ ci < 10 ∧ ∃ T k, vwCl[ci]? = some (y.cls, T, k)
def vz_MI (y : MethodName) (bytes : ByteArray) (maxL n : Nat) : Prop := vz_MS y bytes maxL none n ∧ Cond.instanceMethod y ∈ vz_tbl ∧ y.name = "<init>"
section VZC
variable {z : vz_Z} {μ : vz_M} {cc : ByteArray} {own : String} {dp nL kc ks pc N : Nat} {L : vz_L} {st : List Value} {G : vz_G} {σ : vz_I}
theorem vz_blind {As : List Value} : FrameBlind (va_Pc (As.map (vz_cv z)) (fun U => vz_K z U ∧ z.2.2.1 ≤ U.heap.size ∧ vz_P z G σ N U.heap)) := by
  intro a U g mk q
  obtain ⟨q0, q1, q2, q3⟩ := q
  exact ⟨q0, vz_K_blind g mk a q1, q2, q3⟩
theorem vz_after {rest : List Value} {v : Option Value} {G' : vz_G} {σ' : vz_I} {N' mc ms : Nat} {H : Heap} {locs : List Loc} {ls : Array Slot} {st' : List Value} {a : Array Value}
    (run : va_Run μ.1 μ.2.1 μ.2.2.1 μ.2.2.2.1 μ.2.2.2.2.1 μ.2.2.2.2.2.1 μ.2.2.2.2.2.2.1 μ.2.2.2.2.2.2.2.1 μ.2.2.2.2.2.2.2.2.1 μ.2.2.2.2.2.2.2.2.2.1 H locs kc ks mc ms (F0 μ.2.2.2.2.2.1 pc ls st') (rest.map (vz_cv z)) (vz_Qc z v G' σ' N' a) (vz_A z))
    (hS : va_S (vz_A z) μ.2.2.2.2.1.heap H locs) (hL : vz_LH z ls μ.2.2.2.2.2.2.2.2.2.2.1 L) (h : vz_V z μ (kc + mc) (ks + ms) (pc + 3) L (v.toList ++ rest) G' σ' N') :
    W μ.1 μ.2.1 μ.2.2.1 μ.2.2.2.1 μ.2.2.2.2.1 μ.2.2.2.2.2.1 μ.2.2.2.2.2.2.1 μ.2.2.2.2.2.2.2.1 μ.2.2.2.2.2.2.2.2.1 μ.2.2.2.2.2.2.2.2.2.1 H locs kc ks μ.2.2.2.2.2.2.2.2.2.2.2 (F0 μ.2.2.2.2.2.1 pc ls st') := by
  intro T hT X
  obtain ⟨v', st₀, t, T', Lx, h0, X', hLx, e1, e2, ⟨⟨ho, hP'⟩, hz, hk⟩, steps⟩ := run T hT X
  have hv : v' = v.map (vz_cv z) := by injection ho
  subst hv
  rw [h0] at hz hk
  obtain ⟨t2, a1, b1⟩ := h T'.heap (locs ++ Lx) ls (by rw [e1]; exact hP') ⟨Nat.le_trans hS.1 (by rw [e1]; exact hz), fun q h1 h2 => by rw [e1, hk q (Nat.lt_of_lt_of_le h1 hS.1) h2]; exact hS.2.1 q h1 h2, fun q hq => by
      rcases List.mem_append.mp hq with h | h
      · exact hS.2.2 q h
      · exact hLx q h⟩ hL T' rfl X'
  rw [show (v.toList ++ rest).map (vz_cv z) = (v.map (vz_cv z)).toList ++ rest.map (vz_cv z) by cases v <;> simp] at a1
  exact ⟨t2, steps t2 a1, b1⟩
theorem vz_stk {As rest : List Value} : (As.reverse ++ rest).map (vz_cv z) = (As.map (vz_cv z)).reverse ++ rest.map (vz_cv z) := by simp
theorem vz_cat (rest : List Value) : ((rest.map (vz_cv z)).map fun v => v.category).sum = (rest.map fun v => v.category).sum := by
  rw [List.map_map]
  congr 1
  apply List.map_congr_left
  intro v _
  exact vz_cv_cat z v
theorem vr_callV (hc : vz_C z μ cc own dp nL) {idx ci dq maxL b mc ms n : Nat} {y : MethodName} {bytes : ByteArray} {ret : Option FieldType} {As rest : List Value} {v : Option Value} {G' : vz_G} {σ' : vz_I} {N' : Nat} (hd : decode cc pc = .ok (.invokevirtual idx, 3)) (hm : vz_MV ci y bytes maxL ret n) (hl : Cond.methodLink own idx y ∈ vz_tbl) (hG : (G b).1 = ci) (hM : vz_Con z μ.2.1 dq y bytes maxL ret (.ref b :: As) G σ N v G' σ' N' mc ms) (hn : As.length = n) (hq : dq < dp) (hst : st = As.reverse ++ .ref b :: rest) (hr : (rest.map fun v => v.category).sum ≤ 8) (hcap : kc + mc ≤ μ.2.2.2.1.cells ∧ ks + ms ≤ μ.2.2.2.1.slots) (h : vz_V z μ (kc + mc) (ks + ms) (pc + 3) L (v.toList ++ rest) G' σ' N') : vz_V z μ kc ks pc L st G σ N := by
  intro H locs ls hP hS hL
  subst hst
  obtain ⟨⟨m1, m2, m3, m4⟩, m5, m6, m7, T0, k0, m8⟩ := hm
  have hb : b < N := vz_lt hP hG (by omega)
  have he := vz_W_get (z := z) (G := G) (σ := σ) hb
  rw [vz_el_obj hG m7] at he
  refine vz_after (va_runV (As := As.map (vz_cv z)) (rest := rest.map (vz_cv z)) (b := vz_ad z b) (C := y.cls) (Ts := vz_tbl) (g := F0 μ.2.2.2.2.2.1 pc ls _) ⟨hc.1, hc.2.1, hc.2.2.1, hc.2.2.2.1, hc.2.2.2.2.1⟩ hM ⟨callB_of (ws' := vz_tbl) n hc.2.2.2.2.1 (vz_good m1) rfl rfl rfl (hc.2.2.2.2.1 _ m2) (hc.2.2.2.2.1 _ hl) m4 ⟨?_, ?_⟩, hc.2.2.2.2.1 _ m5, hc.2.2.2.2.1 _ m6⟩ ⟨vz_blind (z := z) (G := G) (σ := σ) (N := N) (As := .ref b :: As), ?_, fun U hU hW => ⟨rfl, vz_K_call hc.2.2.2.2.2.1 hS hU hW, ?_, ?_⟩⟩ rfl (by rw [List.length_map]; exact hn) hL.1.1 ?_ (lv_room (by rw [vz_cat]; exact hr)) hd hcap) hS hL h
  · have := hc.2.2.2.2.2.2.2.1
    show dq + 1 ≤ _
    omega
  · have := hc.2.2.2.2.2.2.2.2.1
    show 8 + (maxL + 11) + 35 * dq ≤ _
    omega
  · rw [vz_adr hP hb]
    exact va_recv (vz_ck hc) hP.2.2.2 m8 he
  · rw [hU]; exact Nat.le_trans hc.2.2.2.2.2.2.1 hS.1
  · rw [hU]; exact hP
  · show (As.reverse ++ .ref b :: rest).map (vz_cv z) = _
    rw [vz_stk]
    rfl
theorem vr_callS (hc : vz_C z μ cc own dp nL) {idx dq maxL mc ms n : Nat} {y : MethodName} {bytes : ByteArray} {ret : Option FieldType} {As rest : List Value} {v : Option Value} {G' : vz_G} {σ' : vz_I} {N' : Nat} (hd : decode cc pc = .ok (.invokestatic idx, 3)) (hm : vz_MS y bytes maxL ret n) (hs : Cond.static y ∈ vz_tbl) (hl : Cond.methodLink own idx y ∈ vz_tbl) (hM : vz_Con z μ.2.1 dq y bytes maxL ret As G σ N v G' σ' N' mc ms) (hn : As.length = n) (hq : dq < dp) (hst : st = As.reverse ++ rest) (hr : (rest.map fun v => v.category).sum ≤ 8) (hcap : kc + mc ≤ μ.2.2.2.1.cells ∧ ks + ms ≤ μ.2.2.2.1.slots) (h : vz_V z μ (kc + mc) (ks + ms) (pc + 3) L (v.toList ++ rest) G' σ' N') : vz_V z μ kc ks pc L st G σ N := by
  intro H locs ls hP hS hL
  subst hst
  obtain ⟨m1, m2, m3, m4⟩ := hm
  refine vz_after (va_runS (As := As.map (vz_cv z)) (rest := rest.map (vz_cv z)) (Ts := vz_tbl) (g := F0 μ.2.2.2.2.2.1 pc ls _) ⟨hc.1, hc.2.1, hc.2.2.1, hc.2.2.2.1, hc.2.2.2.2.1⟩ hM ⟨callB_of (ws' := vz_tbl) n hc.2.2.2.2.1 (vz_good m1) rfl rfl rfl (hc.2.2.2.2.1 _ m2) (hc.2.2.2.2.1 _ hl) m4 ⟨?_, ?_⟩, hc.2.2.2.2.1 _ hs⟩ ⟨vz_blind, fun U hU hW => ⟨rfl, vz_K_call hc.2.2.2.2.2.1 hS hU hW, ?_, ?_⟩⟩ rfl (by rw [List.length_map]; exact hn) hL.1.1 vz_stk (lv_room (by rw [vz_cat]; exact hr)) hd hcap) hS hL h
  · have := hc.2.2.2.2.2.2.2.1
    show dq + 1 ≤ _
    omega
  · have := hc.2.2.2.2.2.2.2.2.1
    show 8 + (maxL + 11) + 35 * dq ≤ _
    omega
  · rw [hU]; exact Nat.le_trans hc.2.2.2.2.2.2.1 hS.1
  · rw [hU]; exact hP
theorem vr_callN (hc : vz_C z μ cc own dp nL) {idx dq maxL mc ms n : Nat} {y : MethodName} {bytes : ByteArray} {ret : Option FieldType} {As rest : List Value} {v : Option Value} {G' : vz_G} {σ' : vz_I} {N' : Nat} (hd : decode cc pc = .ok (.invokestatic idx, 3)) (hm : vz_MS y bytes maxL ret n) (hs : Cond.static y ∈ vz_tbl) (hl : (own, idx, y) ∈ vz_nl) (hM : vz_Con z μ.2.1 dq y bytes maxL ret As G σ N v G' σ' N' mc ms) (hn : As.length = n) (hq : dq < dp) (hst : st = As.reverse ++ rest) (hr : (rest.map fun v => v.category).sum ≤ 8) (hcap : kc + mc ≤ μ.2.2.2.1.cells ∧ ks + ms ≤ μ.2.2.2.1.slots) (h : vz_V z μ (kc + mc) (ks + ms) (pc + 3) L (v.toList ++ rest) G' σ' N') : vz_V z μ kc ks pc L st G σ N := by
  intro H locs ls hP hS hL
  subst hst
  obtain ⟨m1, m2, m3, m4⟩ := hm
  refine vz_after (va_runSN (As := As.map (vz_cv z)) (rest := rest.map (vz_cv z)) (Ts := vz_tbl) (g := F0 μ.2.2.2.2.2.1 pc ls _) ⟨hc.1, hc.2.1, hc.2.2.1, hc.2.2.2.1, hc.2.2.2.2.1⟩ hM ⟨va_cnB (ws' := vz_tbl) n hc.2.2.2.2.1 (vz_good m1) rfl rfl rfl (hc.2.2.2.2.2.1.2.1 _ hl) (hc.2.2.2.2.1 _ m2) m4 ⟨?_, ?_⟩, hc.2.2.2.2.1 _ hs, trivial⟩ ⟨vz_blind, fun U hU hW => ⟨rfl, vz_K_call hc.2.2.2.2.2.1 hS hU hW, ?_, ?_⟩⟩ rfl (by rw [List.length_map]; exact hn) hL.1.1 vz_stk (lv_room (by rw [vz_cat]; exact hr)) hd hcap) hS hL h
  · have := hc.2.2.2.2.2.2.2.1
    show dq + 1 ≤ _
    omega
  · have := hc.2.2.2.2.2.2.2.2.1
    show 8 + (maxL + 11) + 35 * dq ≤ _
    omega
  · rw [hU]; exact Nat.le_trans hc.2.2.2.2.2.2.1 hS.1
  · rw [hU]; exact hP
theorem vr_callI (hc : vz_C z μ cc own dp nL) {idx dq maxL b mc ms n : Nat} {y : MethodName} {bytes : ByteArray} {As rest : List Value} {G' : vz_G} {σ' : vz_I} {N' : Nat} (hd : decode cc pc = .ok (.invokespecial idx, 3)) (hm : vz_MI y bytes maxL n) (hl : Cond.methodLink own idx y ∈ vz_tbl) (hM : vz_Con z μ.2.1 dq y bytes maxL none (.ref b :: As) G σ N none G' σ' N' mc ms) (hn : As.length = n) (hq : dq < dp) (hst : st = As.reverse ++ .ref b :: rest) (hr : (rest.map fun v => v.category).sum ≤ 8) (hcap : kc + mc ≤ μ.2.2.2.1.cells ∧ ks + ms ≤ μ.2.2.2.1.slots) (h : vz_V z μ (kc + mc) (ks + ms) (pc + 3) L rest G' σ' N') : vz_V z μ kc ks pc L st G σ N := by
  intro H locs ls hP hS hL
  subst hst
  obtain ⟨⟨m1, m2, m3, m4⟩, m5, m6⟩ := hm
  refine vz_after (v := none) (va_runI (As := As.map (vz_cv z)) (rest := rest.map (vz_cv z)) (b := vz_ad z b) (Ts := vz_tbl) (g := F0 μ.2.2.2.2.2.1 pc ls _) ⟨hc.1, hc.2.1, hc.2.2.1, hc.2.2.2.1, hc.2.2.2.2.1⟩ hM ⟨callB_of (ws' := vz_tbl) n hc.2.2.2.2.1 (vz_good m1) rfl rfl rfl (hc.2.2.2.2.1 _ m2) (hc.2.2.2.2.1 _ hl) m4 ⟨?_, ?_⟩, m6, hc.2.2.2.2.1 _ m5⟩ ⟨vz_blind (z := z) (G := G) (σ := σ) (N := N) (As := .ref b :: As), fun U hU hW => ⟨rfl, vz_K_call hc.2.2.2.2.2.1 hS hU hW, ?_, ?_⟩⟩ rfl (by rw [List.length_map]; exact hn) hL.1.1 ?_ (lv_room (by rw [vz_cat]; exact hr)) hd hcap) hS hL h
  · have := hc.2.2.2.2.2.2.2.1
    show dq + 1 ≤ _
    omega
  · have := hc.2.2.2.2.2.2.2.2.1
    show 8 + (maxL + 11) + 35 * dq ≤ _
    omega
  · rw [hU]; exact Nat.le_trans hc.2.2.2.2.2.2.1 hS.1
  · rw [hU]; exact hP
  · show (As.reverse ++ .ref b :: rest).map (vz_cv z) = _
    rw [vz_stk]
    rfl
end VZC
