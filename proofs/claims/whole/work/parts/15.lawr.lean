/-! the law's own rows: the script lies at mini address 1048583 -/
def vl_X (z : vz_Z) (μ : vz_M) (b Ln : Nat) (xs : Nat → Int32) : Prop := va_X b Ln xs μ.2.2.2.2.1 μ.2.2.2.2.1.heap ∧ b < μ.2.2.2.2.1.heap.size ∧ z.2.2.1 = μ.2.2.2.2.1.heap.size ∧ z.2.2.2.1 7 = b
theorem vl_ix {i k Ln : Nat} (h : i + 5 ≤ Ln) (hk : k < 5) (hL : Ln ≤ 2560) (c : Int32) (hc : c = nI k) : vp_in (nI i + c) Ln := by
  subst hc
  rw [nI_add]
  exact vp_in_nI (by omega) (by omega)
theorem vl_gt {i Ln : Nat} (hL : Ln ≤ 2560) (hi : i ≤ 2565) (h : ¬ nI Ln - 5 < nI i) : i + 5 ≤ Ln := by
  have h1 : (nI Ln - nI 5).toInt = (Ln : Int) - 5 := pk_sub_toInt (by omega) (by decide)
  have h2 : (nI i).toInt = (i : Int) := nI_toInt (by omega)
  have h3 : ¬ (nI Ln - nI 5) < nI i := h
  rw [Int32.lt_iff_toInt_lt, h1, h2] at h3
  omega
section VZL
variable {z : vz_Z} {μ : vz_M} {cc : ByteArray} {own : String} {dp nL kc ks pc N b Ln : Nat} {xs : Nat → Int32} {L : vz_L} {st : List Value} {G : vz_G} {σ : vz_I}
theorem vl_cv (hX : vl_X z μ b Ln xs) : vz_cv z (.ref 1048583) = .ref b := by
  rw [← hX.2.2.2]
  rfl
theorem vl_ld (hc : vz_C z μ cc own dp nL) (hX : vl_X z μ b Ln xs) {i : Int32} (hd : decode cc pc = .ok (.iaload, 1)) (hi : vp_in i Ln) (h : vz_V z μ kc ks (pc + 1) L (.int (xs i.toNatClampNeg) :: st) G σ N) : vz_V z μ kc ks pc L (.int i :: .ref 1048583 :: st) G σ N := by
  intro H locs ls hP hS hL
  have hk := h H locs ls hP hS hL
  rw [show (Value.int i :: .ref 1048583 :: st).map (vz_cv z) = .int i :: .ref b :: st.map (vz_cv z) by rw [← vl_cv hX]; rfl]
  exact va_sld (A := vz_A z) hc.1 hc.2.1 hX.1 hX.2.1 (fun q : z.2.2.1 ≤ b => absurd q (by rw [hX.2.2.1]; exact Nat.not_le.mpr hX.2.1)) hS hi hd hk
theorem vl_len (hc : vz_C z μ cc own dp nL) (hX : vl_X z μ b Ln xs) (hd : decode cc pc = .ok (.arraylength, 1)) (h : vz_V z μ kc ks (pc + 1) L (.int (nI Ln) :: st) G σ N) : vz_V z μ kc ks pc L (.ref 1048583 :: st) G σ N := by
  intro H locs ls hP hS hL
  have hk := h H locs ls hP hS hL
  rw [show (Value.ref 1048583 :: st).map (vz_cv z) = .ref b :: st.map (vz_cv z) by rw [← vl_cv hX]; rfl]
  exact va_slen (A := vz_A z) hc.1 hc.2.1 hX.1 hX.2.1 (fun q : z.2.2.1 ≤ b => absurd q (by rw [hX.2.2.1]; exact Nat.not_le.mpr hX.2.1)) hS hd hk
theorem vl_call (hc : vz_C z μ cc own dp nL) {idx ci dq maxL a n : Nat} {y : MethodName} {bytes : ByteArray} {ret : Option FieldType} {As rest : List Value} {v : Value} {σ' : vz_I} (hd : decode cc pc = .ok (.invokevirtual idx, 3)) (hm : vz_MV ci y bytes maxL ret n) (hl : Cond.methodLink own idx y ∈ vz_tbl) (hG : (G a).1 = ci) (hM : vz_Con z μ.2.1 dq y bytes maxL ret (.ref a :: As) G σ N (some v) G σ' N 0 0) (hn : As.length = n) (hq : dq < dp) (hst : st = As.reverse ++ .ref a :: rest) (hr : (rest.map fun v => v.category).sum ≤ 8) (hcap : kc ≤ μ.2.2.2.1.cells ∧ ks ≤ μ.2.2.2.1.slots) (h : vz_V z μ kc ks (pc + 3) L (v :: rest) G σ' N) : vz_V z μ kc ks pc L st G σ N :=
  vr_callV hc hd hm hl hG hM hn hq hst hr hcap h
end VZL
abbrev vl_M (p : Program) (l : Launch) (e : Env) (s : State) (m : MethodId) (below : List Frame) (meth : Method) (c : Code) (b : Nat) : vz_M := (p, l, e, room_1, s, m, #[Value.ref b], below, meth, c, 4, lw_Z below #[Value.ref b] s)
theorem vl_end {p : Program} {l : Launch} {e : Env} {s : State} {m : MethodId} {below : List Frame} {meth : Method} {c : Code} {b dp kc ks pc N : Nat} {z : vz_Z} {L : vz_L} {G : vz_G} {σ : vz_I} (hc : vz_C z (vl_M p l e s m below meth c b) code RL dp 4) (hr : meth.sig.returnType = ret) (hlocks : meth.locks = false) (hbs : z.2.2.1 = s.heap.size) (hk : kc ≤ 600000) (hs : ks ≤ 7302250) (hd : decode code pc = .ok (.ireturn, 1)) : vz_V z (vl_M p l e s m below meth c b) kc ks pc L [.int 1] G σ N := by
  intro H locs ls hP hS hL
  refine va_forget (fun q hq => by rw [← hbs]; exact hS.2.2 q hq) ?_
  exact W.widen hk hs (lw_ret hc.1 hc.2.1 hr hlocks hd)
