/-! fields and rows of the small machine's heap -/
def vz_FL (own : String) (idx ci k : Nat) (ty : FieldType) (fin : Bool) : Prop := ∃ (C : String) (T : u_T) (n : Nat) (ty0 : Nat → FieldType), vwCl[ci]? = some (C, T, n) ∧ vz_nF ci = n ∧ ci < 10 ∧ k < n ∧ (∀ w ∈ u_ws C T n, w ∈ vz_tbl) ∧ (∀ k, k < n → parseFieldDescriptor (T k).2.2.1 = some (ty0 k)) ∧ (∀ a, a < n → ∀ b, b < n → a ≠ b → (T a).2.1 ≠ (T b).2.1) ∧ (T k).2.2.2 = fin ∧ ty0 k = ty ∧ Cond.fieldLink own idx (T k).1 (T k).2.1 (T k).2.2.1 ∈ vz_tbl
theorem vz_lt {z : vz_Z} {G : vz_G} {σ : vz_I} {N a c : Nat} {H : Heap} (hP : vz_P z G σ N H) (h : (G a).1 = c) (hc : c < 99) : a < N := by
  rcases Nat.lt_or_ge a N with q | q
  · exact q
  · have := hP.2.2.1 a q
    omega
theorem vz_adr {z : vz_Z} {G : vz_G} {σ : vz_I} {N a : Nat} {H : Heap} (hP : vz_P z G σ N H) (h : a < N) : vz_ad z a = z.2.2.1 + a := by
  have := hP.2.1
  simp only [vz_ad]
  rw [if_pos (by omega)]
theorem vz_el_obj {z : vz_Z} {G : vz_G} {σ : vz_I} {a ci : Nat} (h : (G a).1 = ci) (hc : ci < 10) : vz_el z G σ a = .inr (ci, vz_fs z (G a).2.2 (σ a) (vz_nF ci)) := by
  simp only [vz_el, h, if_pos hc]
theorem vz_el_arr {z : vz_Z} {G : vz_G} {σ : vz_I} {a ci : Nat} (h : (G a).1 = ci) (h1 : 10 ≤ ci) (h2 : ci < 13) : vz_el z G σ a = .inl (z.2.1 ci, (G a).2.1, .inl (σ a)) := by
  simp only [vz_el, h, if_neg (Nat.not_lt.mpr h1), if_pos h2]
theorem vz_el_ref {z : vz_Z} {G : vz_G} {σ : vz_I} {a ci : Nat} (h : (G a).1 = ci) (h1 : 13 ≤ ci) : vz_el z G σ a = .inl (z.2.1 ci, (G a).2.1, .inr (.inr (.inr (.inr (fun i => ((G a).2.2 i).join.map (vz_ad z)))))) := by
  simp only [vz_el, h, if_neg (Nat.not_lt.mpr (Nat.le_trans (by decide : 10 ≤ 13) h1)), if_neg (Nat.not_lt.mpr h1)]
theorem vz_fs_get {z : vz_Z} {r : Nat → Option (Option Nat)} {f : Nat → Int32} {n k : Nat} (h : k < n) : (vz_fs z r f n)[k]? = some (vz_fv z (r k) (f k)) := by
  simp [vz_fs, List.getElem?_map, List.getElem?_range h]
theorem vz_fs_len {z : vz_Z} {r : Nat → Option (Option Nat)} {f : Nat → Int32} {n : Nat} : (vz_fs z r f n).length = n := by simp [vz_fs]
def vz_up (σ : vz_I) (a k : Nat) (x : Int32) : vz_I := fun b => if b = a then upd (σ b) k x else σ b
theorem vz_up_self (σ : vz_I) (a k : Nat) (x : Int32) : vz_up σ a k x a = upd (σ a) k x := by simp [vz_up]
theorem vz_up_ne (σ : vz_I) {a b : Nat} (k : Nat) (x : Int32) (h : b ≠ a) : vz_up σ a k x b = σ b := by simp [vz_up, h]
theorem vz_fs_set {z : vz_Z} {r : Nat → Option (Option Nat)} {f : Nat → Int32} {n k : Nat} {x : Int32} (hr : r k = none) (hk : k < n) : vz_fs z r (upd f k x) n = (vz_fs z r f n).set k (.int x) := by
  apply List.ext_getElem?
  intro j
  by_cases hjn : j < n
  · by_cases hj : j = k
    · subst hj
      rw [List.getElem?_set_self (by rw [vz_fs_len]; exact hk), vz_fs_get hk, hr]
      simp [upd, vz_fv]
    · rw [List.getElem?_set_ne (Ne.symm hj), vz_fs_get hjn, vz_fs_get hjn]
      simp [upd, hj]
  · rw [List.getElem?_eq_none (by rw [vz_fs_len]; omega), List.getElem?_eq_none (by rw [List.length_set, vz_fs_len]; omega)]
theorem vz_P_put {z : vz_Z} {G G' : vz_G} {σ σ' : vz_I} {N a : Nat} {H H1 : Heap} {e : va_E} (hP : vz_P z G σ N H) (ha : a < N) (hz : H1.size = H.size) (oq : ∀ q, q ≠ z.2.2.1 + a → H1[q]? = H[q]?) (he : vz_el z G' σ' a = e) (ho : ∀ b, b ≠ a → vz_el z G' σ' b = vz_el z G σ b) (hG : ∀ b, N ≤ b → (G' b).1 = 99) (hat : va_at z.1 vwCl (z.2.2.1 + a, e) H1) : vz_P z G' σ' N H1 := by
  refine ⟨by rw [hz]; exact hP.1, hP.2.1, hG, ?_⟩
  rw [← vz_W_set (z := z) (G := G) (σ := σ) ha he ho]
  exact hP.2.2.2.set vz_W_D (vz_W_get ha) hat oq
theorem vz_oth {z : vz_Z} {G : vz_G} {σ : vz_I} {a k : Nat} {x : Int32} : ∀ b, b ≠ a → vz_el z G (vz_up σ a k x) b = vz_el z G σ b := by
  intro b hb
  simp only [vz_el, vz_up_ne σ k x hb]
section VZH
variable {z : vz_Z} {μ : vz_M} {cc : ByteArray} {own : String} {dp nL kc ks pc N : Nat} {L : vz_L} {st : List Value} {G : vz_G} {σ : vz_I}
theorem vr_getI (hc : vz_C z μ cc own dp nL) {idx ci k a : Nat} {ty : FieldType} {fin : Bool} (hd : decode cc pc = .ok (.getfield idx, 3)) (hf : vz_FL own idx ci k ty fin) (hG : (G a).1 = ci) (hr : (G a).2.2 k = none) (h : vz_V z μ kc ks (pc + 3) L (.int (σ a k) :: st) G σ N) : vz_V z μ kc ks pc L (.ref a :: st) G σ N := by
  intro H locs ls hP hS hL
  obtain ⟨C, T, n, ty0, f1, f2, f3, f4, f5, f6, f7, f8, f9, f10⟩ := hf
  have ha : a < N := vz_lt hP hG (by omega)
  rw [show (Value.ref a :: st).map (vz_cv z) = .ref (z.2.2.1 + a) :: st.map (vz_cv z) by rw [← vz_adr hP ha]; rfl]
  exact va_get (D := z.1) (cl := vwCl) hc.1 hc.2.1 hc.2.2.2.2.1 f5 hc.2.2.2.1 (vz_ck hc) hP.2.2.2 a (fs := vz_fs z (G a).2.2 (σ a) n) (by rw [vz_W_get ha, vz_el_obj hG f3, f2]) f1 k f4 (hc.2.2.2.2.1 _ f10) (fun _ q => q) (v := .int (σ a k)) (by rw [vz_fs_get f4, hr]; rfl) hd (h H locs ls hP hS hL)
theorem vr_getR (hc : vz_C z μ cc own dp nL) {idx ci k a b : Nat} {ty : FieldType} {fin : Bool} (hd : decode cc pc = .ok (.getfield idx, 3)) (hf : vz_FL own idx ci k ty fin) (hG : (G a).1 = ci) (hr : (G a).2.2 k = some (some b)) (h : vz_V z μ kc ks (pc + 3) L (.ref b :: st) G σ N) : vz_V z μ kc ks pc L (.ref a :: st) G σ N := by
  intro H locs ls hP hS hL
  obtain ⟨C, T, n, ty0, f1, f2, f3, f4, f5, f6, f7, f8, f9, f10⟩ := hf
  have ha : a < N := vz_lt hP hG (by omega)
  rw [show (Value.ref a :: st).map (vz_cv z) = .ref (z.2.2.1 + a) :: st.map (vz_cv z) by rw [← vz_adr hP ha]; rfl]
  exact va_get (D := z.1) (cl := vwCl) hc.1 hc.2.1 hc.2.2.2.2.1 f5 hc.2.2.2.1 (vz_ck hc) hP.2.2.2 a (fs := vz_fs z (G a).2.2 (σ a) n) (by rw [vz_W_get ha, vz_el_obj hG f3, f2]) f1 k f4 (hc.2.2.2.2.1 _ f10) (fun _ q => q) (v := .ref (vz_ad z b)) (by rw [vz_fs_get f4, hr]; rfl) hd (h H locs ls hP hS hL)
theorem vr_putI (hc : vz_C z μ cc own dp nL) {idx ci k a : Nat} {ty : FieldType} (hd : decode cc pc = .ok (.putfield idx, 3)) (hf : vz_FL own idx ci k ty false) (hG : (G a).1 = ci) (hr : (G a).2.2 k = none) {x : Int32} (hn : narrow ty (.int x) = .int x) (hfit : fits ty (.int x) = true) (h : vz_V z μ kc ks (pc + 3) L st G (vz_up σ a k x) N) : vz_V z μ kc ks pc L (.int x :: .ref a :: st) G σ N := by
  intro H locs ls hP hS hL
  obtain ⟨C, T, n, ty0, f1, f2, f3, f4, f5, f6, f7, f8, f9, f10⟩ := hf
  have ha : a < N := vz_lt hP hG (by omega)
  rw [show (Value.int x :: .ref a :: st).map (vz_cv z) = .int x :: .ref (z.2.2.1 + a) :: st.map (vz_cv z) by rw [← vz_adr hP ha]; rfl]
  have he := vz_W_get (z := z) (G := G) (σ := σ) ha
  rw [vz_el_obj hG f3, f2] at he
  have hap := va_apart (own := own) hc.2.2.2.2.1 f5 ty0 f6 f7 (vz_ck hc) f1
  obtain ⟨r, h1, cell, q1, q2, q3, q4⟩ := hP.2.2.2 a _ he
  have hr' : r = (C, T, n) := Option.some.inj (h1.symm.trans f1)
  subst hr'
  obtain ⟨hSl, hfc, kC, hkC, hkind⟩ := (vz_ck hc).1 ci _ f1
  obtain ⟨cf, kf, fi, f, hi, hsl⟩ := hSl k f4
  have hlay := hc.2.2.2.2.1 _ (f5 _ (u_in_lay f4))
  unfold u_lay at hlay
  rw [if_neg (by rw [f8]; decide)] at hlay
  have hst := (u_facts hfc hkC (u_lays hc.2.2.2.2.1 f5 f4) hi).1
  have h6 := u_store hfc hkC hkind hlay hi (by rw [f6 k f4, f9]) hn hfit
  refine W.putK hc.1 hc.2.1 (f := f) ⟨hc.2.2.2.1, hc.2.2.2.2.1 _ f10, ⟨_, _, _, hi⟩, hst⟩ (by rw [q2]; exact h6) q1 q3 (by rw [hsl]; exact k2_hasslot (q4 k f4)) rfl rfl hd fun H' e1 e2 e3 => ?_
  rw [hsl] at e1 ⊢
  refine h H' _ ls (vz_P_put (e := .inr (ci, (vz_fs z (G a).2.2 (σ a) n).set k (.int x))) hP ha e2 e3 ?_ vz_oth hP.2.2.1 ?_) (hS.put e2 e3 (show z.2.2.1 ≤ z.2.2.1 + a by omega)) hL
  · rw [vz_el_obj hG f3, f2, vz_up_self, vz_fs_set hr f4]
  · exact ⟨_, f1, t_OB.to (V := updV (vp_V (vz_fs z (G a).2.2 (σ a) n)) k (.int x)) ⟨_, e1, q2, q3, t_set q4 hap f4 _⟩ (fun j _ => vp_updV_set (by rw [vz_fs_len]; exact f4) _ j)⟩
theorem vr_iald (hc : vz_C z μ cc own dp nL) {a : Nat} {i : Int32} (n : Nat) (hd : decode cc pc = .ok (.iaload, 1)) (hG : (G a).1 = 10) (hn : (G a).2.1 = n) (hi : vp_in i n) (h : vz_V z μ kc ks (pc + 1) L (.int (σ a i.toNatClampNeg) :: st) G σ N) : vz_V z μ kc ks pc L (.int i :: .ref a :: st) G σ N := by
  intro H locs ls hP hS hL
  have ha : a < N := vz_lt hP hG (by omega)
  rw [show (Value.int i :: .ref a :: st).map (vz_cv z) = .int i :: .ref (z.2.2.1 + a) :: st.map (vz_cv z) by rw [← vz_adr hP ha]; rfl]
  exact va_iald (D := z.1) (cl := vwCl) hc.1 hc.2.1 (vz_ck hc) hP.2.2.2 a 0 (f := σ a) (n := n) (by rw [vz_W_get ha, vz_el_arr hG (by decide) (by decide), hn]) rfl hi hd (h H locs ls hP hS hL)
theorem vr_bald (hc : vz_C z μ cc own dp nL) {a : Nat} {i : Int32} (n : Nat) (hd : decode cc pc = .ok (.baload, 1)) (hG : (G a).1 = 11) (hn : (G a).2.1 = n) (hi : vp_in i n) (h : vz_V z μ kc ks (pc + 1) L (.int (σ a i.toNatClampNeg) :: st) G σ N) : vz_V z μ kc ks pc L (.int i :: .ref a :: st) G σ N := by
  intro H locs ls hP hS hL
  have ha : a < N := vz_lt hP hG (by omega)
  rw [show (Value.int i :: .ref a :: st).map (vz_cv z) = .int i :: .ref (z.2.2.1 + a) :: st.map (vz_cv z) by rw [← vz_adr hP ha]; rfl]
  exact va_bald (D := z.1) (cl := vwCl) hc.1 hc.2.1 (vz_ck hc) hP.2.2.2 a 1 (f := σ a) (n := n) (by rw [vz_W_get ha, vz_el_arr hG (by decide) (by decide), hn]) rfl hi hd (h H locs ls hP hS hL)
theorem vr_zald (hc : vz_C z μ cc own dp nL) {a : Nat} {i : Int32} (n : Nat) (hd : decode cc pc = .ok (.baload, 1)) (hG : (G a).1 = 12) (hn : (G a).2.1 = n) (hi : vp_in i n) (h : vz_V z μ kc ks (pc + 1) L (.int (σ a i.toNatClampNeg) :: st) G σ N) : vz_V z μ kc ks pc L (.int i :: .ref a :: st) G σ N := by
  intro H locs ls hP hS hL
  have ha : a < N := vz_lt hP hG (by omega)
  rw [show (Value.int i :: .ref a :: st).map (vz_cv z) = .int i :: .ref (z.2.2.1 + a) :: st.map (vz_cv z) by rw [← vz_adr hP ha]; rfl]
  exact va_zald (D := z.1) (cl := vwCl) hc.1 hc.2.1 (vz_ck hc) hP.2.2.2 a 2 (f := σ a) (n := n) (by rw [vz_W_get ha, vz_el_arr hG (by decide) (by decide), hn]) rfl hi hd (h H locs ls hP hS hL)
theorem vr_aald (hc : vz_C z μ cc own dp nL) {a b : Nat} {i : Int32} (ci n : Nat) (hd : decode cc pc = .ok (.aaload, 1)) (hG : (G a).1 = ci) (hc1 : 13 ≤ ci) (hc2 : ci < 17) (hn : (G a).2.1 = n) (hi : vp_in i n) (hb : (G a).2.2 i.toNatClampNeg = some (some b)) (h : vz_V z μ kc ks (pc + 1) L (.ref b :: st) G σ N) : vz_V z μ kc ks pc L (.int i :: .ref a :: st) G σ N := by
  intro H locs ls hP hS hL
  have ha : a < N := vz_lt hP hG (by omega)
  rw [show (Value.int i :: .ref a :: st).map (vz_cv z) = .int i :: .ref (z.2.2.1 + a) :: st.map (vz_cv z) by rw [← vz_adr hP ha]; rfl]
  have he : (vz_W z G σ N)[a]? = some (z.2.2.1 + a, .inl (z.2.1 ci, n, .inr (.inr (.inr (.inr (fun i => ((G a).2.2 i).join.map (vz_ad z))))))) := by rw [vz_W_get ha, vz_el_ref hG hc1, hn]
  have hk : va_rf (((G a).2.2 i.toNatClampNeg).join.map (vz_ad z)) = vz_cv z (.ref b) := by rw [hb]; rfl
  have hh := h H locs ls hP hS hL
  rw [show (Value.ref b :: st).map (vz_cv z) = va_rf (((G a).2.2 i.toNatClampNeg).join.map (vz_ad z)) :: st.map (vz_cv z) by rw [hk]; rfl] at hh
  rcases (show ci = 13 ∨ ci = 14 ∨ ci = 15 ∨ ci = 16 by omega) with q | q | q | q
  · subst q
    exact va_aldq (D := z.1) (cl := vwCl) hc.1 hc.2.1 (vz_ck hc) hP.2.2.2 a 3 he rfl hi hd hh
  · subst q
    exact va_aldq (D := z.1) (cl := vwCl) hc.1 hc.2.1 (vz_ck hc) hP.2.2.2 a 4 he rfl hi hd hh
  · subst q
    exact va_aldq (D := z.1) (cl := vwCl) hc.1 hc.2.1 (vz_ck hc) hP.2.2.2 a 5 he rfl hi hd hh
  · subst q
    exact va_aldq (D := z.1) (cl := vwCl) hc.1 hc.2.1 (vz_ck hc) hP.2.2.2 a 6 he rfl hi hd hh
theorem vr_iast (hc : vz_C z μ cc own dp nL) {a : Nat} {i x : Int32} (n : Nat) (hd : decode cc pc = .ok (.iastore, 1)) (hG : (G a).1 = 10) (hn : (G a).2.1 = n) (hi : vp_in i n) (h : vz_V z μ kc ks (pc + 1) L st G (vz_up σ a i.toNatClampNeg x) N) : vz_V z μ kc ks pc L (.int x :: .int i :: .ref a :: st) G σ N := by
  intro H locs ls hP hS hL
  have ha : a < N := vz_lt hP hG (by omega)
  rw [show (Value.int x :: .int i :: .ref a :: st).map (vz_cv z) = .int x :: .int i :: .ref (z.2.2.1 + a) :: st.map (vz_cv z) by rw [← vz_adr hP ha]; rfl]
  have he := vz_W_get (z := z) (G := G) (σ := σ) ha
  rw [vz_el_arr hG (by decide) (by decide), hn] at he
  refine W.iast hc.1 hc.2.1 (hP.2.2.2 a _ he) (((vz_ck hc).2 0 (z.2.1 10, .int) rfl).1 n (fun j => .int (σ a j))) (fun q => by cases q) (by show ¬ (i < 0 ∨ (arrV _ _ _).slots.size ≤ _); rw [arrV_size]; exact hi) rfl rfl hd fun H1 e zz oq => ?_
  refine h H1 _ ls (vz_P_put (e := .inl (z.2.1 10, n, .inl (upd (σ a) i.toNatClampNeg x))) hP ha zz oq ?_ vz_oth hP.2.2.1 ?_) (hS.put zz oq (show z.2.2.1 ≤ z.2.2.1 + a by omega)) hL
  · rw [vz_el_arr hG (by decide) (by decide), hn, vz_up_self]
  · show H1[z.2.2.1 + a]? = some (vp_cell _ _)
    rw [e, vp_cell_i, vp_cell_i, arrV_store]
    congr 2
    funext q
    by_cases hq : q = i.toNatClampNeg
    · subst hq
      simp [updV, upd]
    · simp [updV, upd, hq]
theorem vr_bast (hc : vz_C z μ cc own dp nL) {a : Nat} {i x : Int32} (n : Nat) (hd : decode cc pc = .ok (.bastore, 1)) (hG : (G a).1 = 11) (hn : (G a).2.1 = n) (hi : vp_in i n) (h : vz_V z μ kc ks (pc + 1) L st G (vz_up σ a i.toNatClampNeg x.toInt8.toInt32) N) : vz_V z μ kc ks pc L (.int x :: .int i :: .ref a :: st) G σ N := by
  intro H locs ls hP hS hL
  have ha : a < N := vz_lt hP hG (by omega)
  rw [show (Value.int x :: .int i :: .ref a :: st).map (vz_cv z) = .int x :: .int i :: .ref (z.2.2.1 + a) :: st.map (vz_cv z) by rw [← vz_adr hP ha]; rfl]
  have he := vz_W_get (z := z) (G := G) (σ := σ) ha
  rw [vz_el_arr hG (by decide) (by decide), hn] at he
  refine W.bast hc.1 hc.2.1 (hP.2.2.2 a _ he) (((vz_ck hc).2 1 (z.2.1 11, .byte) rfl).1 n (fun j => .int (σ a j))) (fun q => by cases q) (by show ¬ (i < 0 ∨ (arrV _ _ _).slots.size ≤ _); rw [arrV_size]; exact hi) rfl rfl hd fun H1 e zz oq => ?_
  refine h H1 _ ls (vz_P_put (e := .inl (z.2.1 11, n, .inl (upd (σ a) i.toNatClampNeg x.toInt8.toInt32))) hP ha zz oq ?_ vz_oth hP.2.2.1 ?_) (hS.put zz oq (show z.2.2.1 ≤ z.2.2.1 + a by omega)) hL
  · rw [vz_el_arr hG (by decide) (by decide), hn, vz_up_self]
  · show H1[z.2.2.1 + a]? = some (vp_cell _ _)
    rw [e, vp_cell_i, vp_cell_i, arrV_store]
    congr 2
    funext q
    by_cases hq : q = i.toNatClampNeg
    · subst hq
      simp [updV, upd, narrow]
    · simp [updV, upd, hq]
theorem vr_zast (hc : vz_C z μ cc own dp nL) {a : Nat} {i x : Int32} (n : Nat) (hd : decode cc pc = .ok (.bastore, 1)) (hG : (G a).1 = 12) (hn : (G a).2.1 = n) (hi : vp_in i n) (h : vz_V z μ kc ks (pc + 1) L st G (vz_up σ a i.toNatClampNeg (x &&& 1)) N) : vz_V z μ kc ks pc L (.int x :: .int i :: .ref a :: st) G σ N := by
  intro H locs ls hP hS hL
  have ha : a < N := vz_lt hP hG (by omega)
  rw [show (Value.int x :: .int i :: .ref a :: st).map (vz_cv z) = .int x :: .int i :: .ref (z.2.2.1 + a) :: st.map (vz_cv z) by rw [← vz_adr hP ha]; rfl]
  have he := vz_W_get (z := z) (G := G) (σ := σ) ha
  rw [vz_el_arr hG (by decide) (by decide), hn] at he
  refine W.zast hc.1 hc.2.1 (hP.2.2.2 a _ he) (((vz_ck hc).2 2 (z.2.1 12, .boolean) rfl).1 n (fun j => .int (σ a j))) (fun q => by cases q) (by show ¬ (i < 0 ∨ (arrV _ _ _).slots.size ≤ _); rw [arrV_size]; exact hi) rfl rfl hd fun H1 e zz oq => ?_
  refine h H1 _ ls (vz_P_put (e := .inl (z.2.1 12, n, .inl (upd (σ a) i.toNatClampNeg (x &&& 1)))) hP ha zz oq ?_ vz_oth hP.2.2.1 ?_) (hS.put zz oq (show z.2.2.1 ≤ z.2.2.1 + a by omega)) hL
  · rw [vz_el_arr hG (by decide) (by decide), hn, vz_up_self]
  · show H1[z.2.2.1 + a]? = some (vp_cell _ _)
    rw [e, vp_cell_i, vp_cell_i, arrV_store]
    congr 2
    funext q
    by_cases hq : q = i.toNatClampNeg
    · subst hq
      simp [updV, upd, narrow]
    · simp [updV, upd, hq]
end VZH
