/-! String constants: length and charAt (rules to be proved from the JDK's code) -/
def vz_slen (q : Nat) : Int32 := nI (vz_sl.getD q 0)
def vz_sch (q : Nat) (i : Int32) : Int32 := (vz_sb8.getD q []).getD i.toNatClampNeg 0
section VZS
variable {z : vz_Z} {μ : vz_M} {cc : ByteArray} {own : String} {dp nL pc N : Nat} {L : vz_L} {rest : List Value} {G : vz_G} {σ : vz_I}
theorem vr_ldcS (hc : vz_C z μ cc own dp nL) {k idx : Nat} {tx : String} (hd : decode cc pc = .ok (.ldc idx, 2)) (hx : vz_sx[k]? = some (idx, tx)) (ho : own = RX6) (h : vz_V z μ 0 0 (pc + 2) L (.ref (1048576 + k) :: rest) G σ N) : vz_V z μ 0 0 pc L rest G σ N := by
  intro H locs ls hP hS hL
  subst ho
  have hk := h H locs ls hP hS hL
  rw [show (Value.ref (1048576 + k) :: rest).map (vz_cv z) = .ref (z.2.2.2.1 k) :: rest.map (vz_cv z) by simp only [List.map_cons, vz_cv, vz_ad]; rw [if_neg (by omega), Nat.add_sub_cancel_left]] at hk
  exact va_ldcS hc.1 hc.2.1 hc.2.2.2.1 (hc.2.2.2.2.2.1.2.2.1 k _ hx) hd hk
theorem vr_slen (hc : vz_C z μ cc own dp nL) {q idx : Nat} (hq : q < 7) (hd : decode cc pc = .ok (.invokevirtual idx, 3)) (hl : Cond.methodLink own idx yJ0_length_8abf5 ∈ vz_tbl) (hp : 1 < dp) (hr : (rest.map fun v => v.category).sum ≤ 8) (h : vz_V z μ 0 0 (pc + 3) L (.int (vz_slen q) :: rest) G σ N) : vz_V z μ 0 0 pc L (.ref (1048576 + q) :: rest) G σ N := by
  sorry
theorem vr_schr (hc : vz_C z μ cc own dp nL) {q idx : Nat} {i : Int32} (hq : q < 7) (hi : vz_in i (vz_sl.getD q 0)) (hd : decode cc pc = .ok (.invokevirtual idx, 3)) (hl : Cond.methodLink own idx yJ0_charAt_5068e ∈ vz_tbl) (hp : 3 < dp) (hr : (rest.map fun v => v.category).sum ≤ 8) (h : vz_V z μ 0 0 (pc + 3) L (.int (vz_sch q i) :: rest) G σ N) : vz_V z μ 0 0 pc L (.int i :: .ref (1048576 + q) :: rest) G σ N := by
  sorry
end VZS
