/-! making cells: rows for constructors, the shape as a list -/
abbrev vz_T : Type := List (Nat × Nat × List (Option (Option Nat)))
def vz_Gt (t : vz_T) : vz_G := fun a => ((t.getD a (99, 0, [])).1, (t.getD a (99, 0, [])).2.1, fun k => (t.getD a (99, 0, [])).2.2.getD k none)
def vz_Zf (σ : vz_I) (n : Nat) : Prop := ∀ a, n ≤ a → ∀ k, σ a k = 0
theorem vz_Zf_up {σ : vz_I} {n a k : Nat} {x : Int32} (h : vz_Zf σ n) (ha : a < n) : vz_Zf (vz_up σ a k x) n := by
  intro b hb j
  rw [vz_up_ne σ k x (by omega)]
  exact h b hb j
theorem vz_Zf_le {σ : vz_I} {n m : Nat} (h : vz_Zf σ n) (hm : n ≤ m) : vz_Zf σ m := fun a ha => h a (Nat.le_trans hm ha)
theorem vz_gtE {t : vz_T} {a ci ln : Nat} {l : List (Option (Option Nat))} (h : t[a]? = some (ci, ln, l)) : (vz_Gt t a).1 = ci ∧ (vz_Gt t a).2.1 = ln ∧ ∀ k, (vz_Gt t a).2.2 k = l.getD k none := by
  simp [vz_Gt, List.getD_eq_getElem?_getD, h]
theorem vz_pre {pre blk : vz_T} {j : Nat} {c : Nat × Nat × List (Option (Option Nat))} (h : blk[j]? = some c) : (pre ++ blk)[pre.length + j]? = some c := by
  rw [List.getElem?_append_right (by omega), Nat.add_sub_cancel_left]
  exact h
theorem vz_preS {pre blk : vz_T} {j : Nat} {c : Nat × Nat × List (Option (Option Nat))} : (pre ++ blk).set (pre.length + j) c = pre ++ blk.set j c := by
  rw [List.set_append, if_neg (by omega), Nat.add_sub_cancel_left]
theorem vz_gtS {t : vz_T} {a b : Nat} {c : Nat × Nat × List (Option (Option Nat))} (h : b ≠ a) : vz_Gt (t.set a c) b = vz_Gt t b := by
  simp only [vz_Gt, List.getD_eq_getElem?_getD, List.getElem?_set_ne (Ne.symm h)]
theorem vz_gtP {t : vz_T} {b : Nat} {c : Nat × Nat × List (Option (Option Nat))} (h : b ≠ t.length) : vz_Gt (t ++ [c]) b = vz_Gt t b := by
  by_cases hb : b < t.length
  · simp only [vz_Gt, List.getD_eq_getElem?_getD, List.getElem?_append_left hb]
  · simp only [vz_Gt, List.getD_eq_getElem?_getD]
    rw [List.getElem?_eq_none (by simp; omega), List.getElem?_eq_none (by omega)]
theorem vz_gtN (t : vz_T) (c : Nat × Nat × List (Option (Option Nat))) : (t ++ [c])[t.length]? = some c := by simp
/-- a class's fields: which are references -/
def vz_r0 (ci : Nat) : List (Option (Option Nat)) := (([[false, false, false, true], [false, true, true, true, true], [false, false], [false, false, false], [false, false, true], [false, true], [true, true, false, false, false, false, false, false, false], [false, false, false, false, false, true, true, true, true], [true, true, true, true, true, true, true, true, true, true, false], [true, false, false, true, false, false, false, true, false, false, false, false, false, false, false, false, true, true, false, true, true, true, false, true, false, true, true, true, true, true, false]] : List (List Bool)).getD ci []).map (fun b => if b then some none else none)
/-- a class that can be made -/
def vz_NC (own : String) (idx ci : Nat) : Prop := ∃ (C : String) (T : u_T) (n : Nat) (ty0 : Nat → FieldType), vwCl[ci]? = some (C, T, n) ∧ vz_nF ci = n ∧ ci < 10 ∧ (∀ w ∈ u_ws C T n, w ∈ vz_tbl) ∧ (∀ k, k < n → parseFieldDescriptor (T k).2.2.1 = some (ty0 k)) ∧ Cond.classLink own idx C ∈ vz_tbl ∧ Cond.instantiable C n ∈ vz_tbl ∧ Cond.initialized C ∈ vz_tbl ∧ (∀ z k, k < n → defaultValue (ty0 k) = vz_fv z ((vz_r0 ci).getD k none) 0)
/-- a final field, set in its own class's constructor -/
def vz_FF (own : String) (idx ci k : Nat) (ty : FieldType) : Prop := ∃ (T : u_T) (n : Nat) (ty0 : Nat → FieldType), vwCl[ci]? = some (own, T, n) ∧ vz_nF ci = n ∧ ci < 10 ∧ k < n ∧ (∀ w ∈ u_ws own T n, w ∈ vz_tbl) ∧ (∀ k, k < n → parseFieldDescriptor (T k).2.2.1 = some (ty0 k)) ∧ (∀ a, a < n → ∀ b, b < n → a ≠ b → (T a).2.1 ≠ (T b).2.1) ∧ (T k).2.2.2 = true ∧ ty0 k = ty ∧ (T k).1 = own ∧ Cond.fieldLink own idx (T k).1 (T k).2.1 (T k).2.2.1 ∈ vz_tbl
theorem vz_fs_setR {z : vz_Z} {l : List (Option (Option Nat))} {f : Nat → Int32} {n k b : Nat} (hk : k < n) (hl : k < l.length) : vz_fs z (fun j => (l.set k (some (some b))).getD j none) f n = (vz_fs z (fun j => l.getD j none) f n).set k (.ref (vz_ad z b)) := by
  apply List.ext_getElem?
  intro j
  by_cases hjn : j < n
  · by_cases hj : j = k
    · subst hj
      rw [List.getElem?_set_self (by rw [vz_fs_len]; exact hk), vz_fs_get hk]
      simp only [List.getD_eq_getElem?_getD, List.getElem?_set_self hl]
      rfl
    · rw [List.getElem?_set_ne (Ne.symm hj), vz_fs_get hjn, vz_fs_get hjn]
      simp only [List.getD_eq_getElem?_getD, List.getElem?_set_ne (Ne.symm hj)]
  · rw [List.getElem?_eq_none (by rw [vz_fs_len]; omega), List.getElem?_eq_none (by rw [List.length_set, vz_fs_len]; omega)]
theorem vz_el_G {z : vz_Z} {G G' : vz_G} {σ : vz_I} {b : Nat} (h : G' b = G b) : vz_el z G' σ b = vz_el z G σ b := by
  simp only [vz_el, h]
/-- a cell more -/
theorem vz_P_push {z : vz_Z} {t : vz_T} {σ : vz_I} {c : Nat × Nat × List (Option (Option Nat))} {H H1 : Heap} (hP : vz_P z (vz_Gt t) σ t.length H) (hb : t.length < 1048576) (hz : H1.size = H.size + 1) (oq : ∀ q, q < H.size → H1[q]? = H[q]?) (hat : va_at z.1 vwCl (z.2.2.1 + t.length, vz_el z (vz_Gt (t ++ [c])) σ t.length) H1) : vz_P z (vz_Gt (t ++ [c])) σ (t.length + 1) H1 := by
  refine ⟨by rw [hz, hP.1]; omega, by omega, fun a ha => ?_, ?_⟩
  · rw [vz_gtP (by omega)]
    exact hP.2.2.1 a (by omega)
  · rw [← vz_W_push (z := z) (G := vz_Gt t) (σ := σ) (N := t.length) rfl (fun b hb => vz_el_G (vz_gtP (by omega)))]
    refine va_P.app (va_P.kept hP.2.2.2 (fun k x hx => oq x.1 ((hP.2.2.2 k x hx).lt))) (fun k x hx => ?_)
    have hz : k < 1 := (List.getElem?_eq_some_iff.mp hx).1
    rw [show k = 0 by omega] at hx
    cases hx
    exact hat
section VZN
variable {z : vz_Z} {μ : vz_M} {cc : ByteArray} {own : String} {dp nL kc ks pc : Nat} {L : vz_L} {st : List Value} {t : vz_T} {σ : vz_I}
theorem vr_objI (hc : vz_C z μ cc own dp nL) {idx a N : Nat} {G : vz_G} (hd : decode cc pc = .ok (.invokespecial idx, 3)) (hl : Cond.methodLink own idx objectInit ∈ vz_tbl) (hw : Cond.instanceMethod objectInit ∈ vz_tbl ∧ Cond.code objectInit ⟨#[0xb1]⟩ 1 none ∈ vz_tbl) (hq : 0 < dp) (hr : (st.map fun v => v.category).sum ≤ 8) (h : vz_V z μ kc ks (pc + 3) L st G σ N) : vz_V z μ kc ks pc L (.ref a :: st) G σ N := by
  intro H locs ls hP hS hL
  have h1 := hc.2.2.2.2.2.2.2.1
  have h2 := hc.2.2.2.2.2.2.2.2.1
  refine W.objInit hc.1 hc.2.1 hc.2.2.2.1 (hc.2.2.2.2.1 _ hl) (hc.2.2.2.2.1 _ hw.1) (hc.2.2.2.2.1 _ hw.2) rfl (hL.1.1.trans hc.2.2.1.symm) rfl hd (by omega) ?_ (h H locs ls hP hS hL)
  show 2 * 0 + ((st.map (vz_cv z)).map fun v => v.category).sum + 12 ≤ _
  rw [vz_cat]
  omega
theorem vt_new (hc : vz_C z μ cc own dp nL) {idx ci : Nat} (hd : decode cc pc = .ok (.new idx, 3)) (hn : vz_NC own idx ci) (hσ : vz_Zf σ t.length) (hb : t.length < 1048576) (hcap : kc + 1 ≤ μ.2.2.2.1.cells ∧ ks + vz_nF ci ≤ μ.2.2.2.1.slots) (h : vz_V z μ (kc + 1) (ks + vz_nF ci) (pc + 3) L (.ref t.length :: st) (vz_Gt (t ++ [(ci, 0, vz_r0 ci)])) σ (t.length + 1)) : vz_V z μ kc ks pc L st (vz_Gt t) σ t.length := by
  intro H locs ls hP hS hL
  obtain ⟨C, T, n, ty0, f1, f2, f3, f4, f5, f6, f7, f8, f9⟩ := hn
  have hKn := (vz_ck hc).1 ci _ f1
  have hG := vz_gtE (vz_gtN t (ci, 0, vz_r0 ci))
  refine W.newcK hc.1 hc.2.1 hc.2.2.2.1 (hc.2.2.2.2.1 _ f6) (hc.2.2.2.2.1 _ f7) (hc.2.2.2.2.1 _ f8) rfl hd hcap.1 (by rw [f2] at hcap; exact hcap.2) hKn.2.1 rfl fun H1 kC hkC e1 z1 o1 => ?_
  have hP' : vz_P z (vz_Gt (t ++ [(ci, 0, vz_r0 ci)])) σ (t.length + 1) H1 := by
    refine vz_P_push hP hb (by rw [z1]) (fun q hq => o1 q hq) ?_
    rw [vz_el_obj hG.1 f3, f2, ← hP.1]
    refine ⟨_, f1, (u_born ty0 hc.2.2.2.2.1 f4 hKn hkC e1 f5).to (fun k hk => ?_)⟩
    rw [f9 z k hk]
    simp only [vp_V, List.getD_eq_getElem?_getD, vz_fs_get hk]
    rw [hG.2.2 k, hσ _ (Nat.le_refl _) k]
    simp [List.getD_eq_getElem?_getD]
  have hh := h H1 locs ls hP' ⟨Nat.le_trans hS.1 (by omega), fun x h1 h2 => (o1 x (Nat.lt_of_lt_of_le h1 hS.1)).trans (hS.2.1 x h1 h2), hS.2.2⟩ hL
  rw [show (Value.ref t.length :: st).map (vz_cv z) = .ref H.size :: st.map (vz_cv z) by simp only [List.map_cons, vz_cv, vz_ad]; rw [if_pos hb, hP.1]] at hh
  rw [f2] at hh
  exact hh
theorem vt_newa (hc : vz_C z μ cc own dp nL) {x : Int32} {atype : ArrayType} (code n : Nat) (hd : decode cc pc = .ok (.newarray atype, 2)) (hcd : (code = 10 ∧ newarray.typeOf atype = .int) ∨ (code = 11 ∧ newarray.typeOf atype = .byte) ∨ (code = 12 ∧ newarray.typeOf atype = .boolean)) (hw : Cond.arrayClass (newarray.typeOf atype) ∈ vz_tbl) (hx0 : ¬ x < 0) (hx : x.toNatClampNeg = n) (hn : n ≤ 1000) (hσ : vz_Zf σ t.length) (hb : t.length < 1048576) (hcap : kc + 1 ≤ μ.2.2.2.1.cells ∧ ks + n ≤ μ.2.2.2.1.slots) (h : vz_V z μ (kc + 1) (ks + n) (pc + 2) L (.ref t.length :: st) (vz_Gt (t ++ [(code, n, [])])) σ (t.length + 1)) : vz_V z μ kc ks pc L (.int x :: st) (vz_Gt t) σ t.length := by
  intro H locs ls hP hS hL
  have hG := vz_gtE (vz_gtN t (code, n, []))
  have hby : n * componentBytes (newarray.typeOf atype) ≤ 536870912 := by
    rcases hcd with ⟨-, e⟩ | ⟨-, e⟩ | ⟨-, e⟩ <;> rw [e] <;> simp [componentBytes] <;> omega
  refine va_newaK hc.1 hc.2.1 (hc.2.2.2.2.1 _ hw) rfl hd rfl hx0 hx hby hcap.1 hcap.2 rfl fun H1 cA e1 z1 o1 hAr hNm => ?_
  have hcA : cA = z.2.1 code ∧ (code = 10 ∨ code = 11 ∨ code = 12) ∧ defaultValue (newarray.typeOf atype) = .int 0 := by
    rcases hcd with ⟨rfl, e⟩ | ⟨rfl, e⟩ | ⟨rfl, e⟩
    · rw [e] at hNm ⊢
      exact ⟨Option.some.inj (hNm.symm.trans ((vz_ck hc).2 0 (z.2.1 10, .int) rfl).2), by decide, rfl⟩
    · rw [e] at hNm ⊢
      exact ⟨Option.some.inj (hNm.symm.trans ((vz_ck hc).2 1 (z.2.1 11, .byte) rfl).2), by decide, rfl⟩
    · rw [e] at hNm ⊢
      exact ⟨Option.some.inj (hNm.symm.trans ((vz_ck hc).2 2 (z.2.1 12, .boolean) rfl).2), by decide, rfl⟩
  obtain ⟨rfl, hcode, hdv⟩ := hcA
  have hP' : vz_P z (vz_Gt (t ++ [(code, n, [])])) σ (t.length + 1) H1 := by
    refine vz_P_push hP hb (by rw [z1]) (fun q hq => o1 q hq) ?_
    rw [vz_el_arr hG.1 (by omega) (by omega), hG.2.1, ← hP.1]
    show H1[H.size]? = some (vp_cell _ _)
    rw [vp_cell_i, e1, hdv, show σ t.length = fun _ => 0 from funext (hσ _ (Nat.le_refl _))]
  have hh := h H1 locs ls hP' ⟨Nat.le_trans hS.1 (by omega), fun x h1 h2 => (o1 x (Nat.lt_of_lt_of_le h1 hS.1)).trans (hS.2.1 x h1 h2), hS.2.2⟩ hL
  rw [show (Value.ref t.length :: st).map (vz_cv z) = .ref H.size :: st.map (vz_cv z) by simp only [List.map_cons, vz_cv, vz_ad]; rw [if_pos hb, hP.1]] at hh
  exact hh
theorem vt_anew (hc : vz_C z μ cc own dp nL) {x : Int32} {idx : Nat} (code n : Nat) (C : String) (hd : decode cc pc = .ok (.anewarray idx, 3)) (hcd : (code = 13 ∧ C = RX0) ∨ (code = 14 ∧ C = RX3) ∨ (code = 15 ∧ C = RX4) ∨ (code = 16 ∧ C = RX7)) (hw : Cond.classLink own idx C ∈ vz_tbl) (hov : C ∈ vz_ao) (hx0 : ¬ x < 0) (hx : x.toNatClampNeg = n) (hn : n ≤ 1000) (hb : t.length < 1048576) (hcap : kc + 1 ≤ μ.2.2.2.1.cells ∧ ks + n ≤ μ.2.2.2.1.slots) (h : vz_V z μ (kc + 1) (ks + n) (pc + 3) L (.ref t.length :: st) (vz_Gt (t ++ [(code, n, List.replicate n (some none))])) σ (t.length + 1)) : vz_V z μ kc ks pc L (.int x :: st) (vz_Gt t) σ t.length := by
  intro H locs ls hP hS hL
  have hG := vz_gtE (vz_gtN t (code, n, List.replicate n (some none)))
  subst hx
  refine W.anew hc.1 hc.2.1 hc.2.2.2.1 (hc.2.2.2.2.1 _ hw) (va_AO.use (hc.2.2.2.2.2.1.2.2.2.2.2.2 _ hov)) rfl hd rfl hx0 (by omega) hcap.1 hcap.2 fun cA kA comp g1 g2 g3 g4 => ?_
  generalize hH1 : H.push ({ cls := cA, slots := Array.replicate x.toNatClampNeg .null, vm := .none } : Cell) = H1
  have z1 : H1.size = H.size + 1 := by rw [← hH1, Array.size_push]
  have e1 : H1[H.size]? = some (arrV cA x.toNatClampNeg (fun _ => .null)) := by rw [← hH1, Array.getElem?_push_size, ← arrV_new]
  have o1 : ∀ q : Nat, q < H.size → H1[q]? = H[q]? := fun q hq => by rw [← hH1, Array.getElem?_push, if_neg (Nat.ne_of_lt hq)]
  have hcA : cA = z.2.1 code ∧ 13 ≤ code := by
    rcases hcd with ⟨rfl, rfl⟩ | ⟨rfl, rfl⟩ | ⟨rfl, rfl⟩ | ⟨rfl, rfl⟩
    · obtain ⟨_, _, _, _, _, q⟩ := ((vz_ck hc).2 3 (z.2.1 13, .object RX0) rfl).2
      exact ⟨Option.some.inj (g1.symm.trans q), by decide⟩
    · obtain ⟨_, _, _, _, _, q⟩ := ((vz_ck hc).2 4 (z.2.1 14, .object RX3) rfl).2
      exact ⟨Option.some.inj (g1.symm.trans q), by decide⟩
    · obtain ⟨_, _, _, _, _, q⟩ := ((vz_ck hc).2 5 (z.2.1 15, .object RX4) rfl).2
      exact ⟨Option.some.inj (g1.symm.trans q), by decide⟩
    · obtain ⟨_, _, _, _, _, q⟩ := ((vz_ck hc).2 6 (z.2.1 16, .object RX7) rfl).2
      exact ⟨Option.some.inj (g1.symm.trans q), by decide⟩
  obtain ⟨rfl, hcode⟩ := hcA
  have hP' : vz_P z (vz_Gt (t ++ [(code, x.toNatClampNeg, List.replicate x.toNatClampNeg (some none))])) σ (t.length + 1) H1 := by
    refine vz_P_push hP hb z1 o1 ?_
    rw [vz_el_ref hG.1 hcode, hG.2.1, ← hP.1]
    show H1[H.size]? = some (vp_cell _ _)
    rw [vp_cell_q, e1]
    congr 2
    funext i
    rw [hG.2.2 i]
    simp only [List.getD_eq_getElem?_getD, List.getElem?_replicate]
    split <;> rfl
  have hh := h H1 locs ls hP' ⟨Nat.le_trans hS.1 (by omega), fun x h1 h2 => (o1 x (Nat.lt_of_lt_of_le h1 hS.1)).trans (hS.2.1 x h1 h2), hS.2.2⟩ hL
  rw [show (Value.ref t.length :: st).map (vz_cv z) = .ref H.size :: st.map (vz_cv z) by simp only [List.map_cons, vz_cv, vz_ad]; rw [if_pos hb, hP.1]] at hh
  exact hh
theorem vt_putR (hc : vz_C z μ cc own dp nL) {idx ci k ty a b N ln : Nat} {l : List (Option (Option Nat))} {fty : FieldType} (hd : decode cc pc = .ok (.putfield idx, 3)) (hf : vz_FF own idx ci k fty) (hin : μ.2.2.2.2.2.2.2.2.1.name = "<init>") (ha : t[a]? = some (ci, ln, l)) (hk : k < l.length) (hn : ∀ q, narrow fty (.ref q) = .ref q) (hfit : ∀ q, fits fty (.ref q) = true) (h : vz_V z μ kc ks (pc + 3) L st (vz_Gt (t.set a (ci, ln, l.set k (some (some b))))) σ N) : vz_V z μ kc ks pc L (.ref b :: .ref a :: st) (vz_Gt t) σ N := by
  intro H locs ls hP hS hL
  obtain ⟨T, n, ty0, f1, f2, f3, f4, f5, f6, f7, f8, f9, f0, f10⟩ := hf
  have hG := vz_gtE ha
  have hal : a < N := vz_lt hP hG.1 (by omega)
  have hlt := (List.getElem?_eq_some_iff.mp ha).1
  have hG' := vz_gtE (t := t.set a (ci, ln, l.set k (some (some b)))) (List.getElem?_set_self hlt)
  rw [show (Value.ref b :: .ref a :: st).map (vz_cv z) = .ref (vz_ad z b) :: .ref (z.2.2.1 + a) :: st.map (vz_cv z) by rw [← vz_adr hP hal]; rfl]
  have hfun : (vz_Gt t a).2.2 = fun j => l.getD j none := funext hG.2.2
  have he := vz_W_get (z := z) (G := vz_Gt t) (σ := σ) hal
  rw [vz_el_obj hG.1 f3, f2, hfun] at he
  have hap := va_apart (own := own) hc.2.2.2.2.1 f5 ty0 f6 f7 (vz_ck hc) f1
  obtain ⟨r, h1, cell, q1, q2, q3, q4⟩ := hP.2.2.2 a _ he
  have hr' : r = (own, T, n) := Option.some.inj (h1.symm.trans f1)
  subst hr'
  obtain ⟨hSl, hfc, kC, hkC, hkind⟩ := (vz_ck hc).1 ci _ f1
  obtain ⟨cf, kf, fi, f, hi, hsl⟩ := hSl k f4
  have hlay := hc.2.2.2.2.1 _ (f5 _ (u_in_lay f4))
  unfold u_lay at hlay
  rw [if_pos f8] at hlay
  have hst := (u_facts hfc hkC (u_lays hc.2.2.2.2.1 f5 f4) hi).1
  have hcf : μ.2.2.2.2.2.1.cls = cf := by
    obtain ⟨_, _, c', _, _, _, -, -, hf', -, -, -, hown2, -⟩ := Cond.laysFinal_spec hlay
    have e1 : c' = cf := by have := hi.symm.trans hf'; simp at this; exact this.1.symm
    rw [f0] at hown2
    rw [← e1]; exact Option.some.inj (hc.2.2.2.1.symm.trans hown2)
  have h6 := u_fits hfc hkC hkind (Or.inr hlay) hi (by rw [f6 k f4, f9]) (hn (vz_ad z b)) (hfit (vz_ad z b))
  refine W.putFinK hc.1 hc.2.1 hc.2.2.2.1 (hc.2.2.2.2.1 _ f10) hi hst hcf hin (by rw [q2]; exact h6) q1 q3 (by rw [hsl]; exact k2_hasslot (q4 k f4)) rfl rfl hd fun H' e1 e2 e3 => ?_
  rw [hsl] at e1 ⊢
  refine h H' _ ls (vz_P_put (e := .inr (ci, (vz_fs z (fun j => l.getD j none) (σ a) n).set k (.ref (vz_ad z b)))) hP hal e2 e3 ?_ (fun c hc' => vz_el_G (vz_gtS hc')) (fun c hc' => ?_) ?_) (hS.put e2 e3 (show z.2.2.1 ≤ z.2.2.1 + a by omega)) hL
  · rw [vz_el_obj hG'.1 f3, f2, show (vz_Gt (t.set a (ci, ln, l.set k (some (some b)))) a).2.2 = fun j => (l.set k (some (some b))).getD j none from funext hG'.2.2, vz_fs_setR f4 hk]
  · rw [vz_gtS (by omega)]; exact hP.2.2.1 c hc'
  · exact ⟨_, f1, t_OB.to (V := updV (vp_V (vz_fs z (fun j => l.getD j none) (σ a) n)) k (.ref (vz_ad z b))) ⟨_, e1, q2, q3, t_set q4 hap f4 _⟩ (fun j _ => vp_updV_set (by rw [vz_fs_len]; exact f4) _ j)⟩
theorem vt_aast (hc : vz_C z μ cc own dp nL) {i : Int32} {code cj a b n ln N : Nat} {l l2 : List (Option (Option Nat))} (hd : decode cc pc = .ok (.aastore, 1)) (hcd : (code = 13 ∧ cj = 0) ∨ (code = 14 ∧ cj = 3) ∨ (code = 15 ∧ cj = 4) ∨ (code = 16 ∧ cj = 7)) (ha : t[a]? = some (code, n, l)) (hb : t[b]? = some (cj, ln, l2)) (hi : vp_in i n) (hl : i.toNatClampNeg < l.length) (h : vz_V z μ kc ks (pc + 1) L st (vz_Gt (t.set a (code, n, l.set i.toNatClampNeg (some (some b))))) σ N) : vz_V z μ kc ks pc L (.ref b :: .int i :: .ref a :: st) (vz_Gt t) σ N := by
  intro H locs ls hP hS hL
  have hG := vz_gtE ha
  have hGb := vz_gtE hb
  have hcj : cj < 10 ∧ 13 ≤ code ∧ code < 17 := by omega
  have hal : a < N := vz_lt hP hG.1 (by omega)
  have hbl : b < N := vz_lt hP hGb.1 (by omega)
  have hlt := (List.getElem?_eq_some_iff.mp ha).1
  have hG' := vz_gtE (t := t.set a (code, n, l.set i.toNatClampNeg (some (some b)))) (List.getElem?_set_self hlt)
  rw [show (Value.ref b :: .int i :: .ref a :: st).map (vz_cv z) = .ref (z.2.2.1 + b) :: .int i :: .ref (z.2.2.1 + a) :: st.map (vz_cv z) by rw [← vz_adr hP hal, ← vz_adr hP hbl]; rfl]
  have he := vz_W_get (z := z) (G := vz_Gt t) (σ := σ) hal
  rw [vz_el_ref hG.1 hcj.2.1, hG.2.1] at he
  have hv := vz_W_get (z := z) (G := vz_Gt t) (σ := σ) hbl
  rw [vz_el_obj hGb.1 hcj.1] at hv
  have hin : i.toNatClampNeg < n := Nat.not_le.mp fun q => hi (Or.inr q)
  have h0 : ¬ i < 0 := fun q => hi (Or.inl q)
  have key : ∃ (kA : Class) (r : vw_C), vwCl[cj]? = some r ∧ μ.2.2.2.2.1.vm.classes[z.2.1 code]? = some kA ∧ kA.kind = .array (z.1.1 cj) (.object r.1) := by
    rcases hcd with ⟨rfl, rfl⟩ | ⟨rfl, rfl⟩ | ⟨rfl, rfl⟩ | ⟨rfl, rfl⟩
    · obtain ⟨kA, comp, k1, k2, k3, -⟩ := ((vz_ck hc).2 3 (z.2.1 13, .object RX0) rfl).2
      have hcomp : comp = z.1.1 0 := Option.some.inj (k3.symm.trans ((vz_ck hc).1 0 _ rfl).2.1)
      exact ⟨kA, _, rfl, k1, by rw [k2, hcomp]⟩
    · obtain ⟨kA, comp, k1, k2, k3, -⟩ := ((vz_ck hc).2 4 (z.2.1 14, .object RX3) rfl).2
      have hcomp : comp = z.1.1 3 := Option.some.inj (k3.symm.trans ((vz_ck hc).1 3 _ rfl).2.1)
      exact ⟨kA, _, rfl, k1, by rw [k2, hcomp]⟩
    · obtain ⟨kA, comp, k1, k2, k3, -⟩ := ((vz_ck hc).2 5 (z.2.1 15, .object RX4) rfl).2
      have hcomp : comp = z.1.1 4 := Option.some.inj (k3.symm.trans ((vz_ck hc).1 4 _ rfl).2.1)
      exact ⟨kA, _, rfl, k1, by rw [k2, hcomp]⟩
    · obtain ⟨kA, comp, k1, k2, k3, -⟩ := ((vz_ck hc).2 6 (z.2.1 16, .object RX7) rfl).2
      have hcomp : comp = z.1.1 7 := Option.some.inj (k3.symm.trans ((vz_ck hc).1 7 _ rfl).2.1)
      exact ⟨kA, _, rfl, k1, by rw [k2, hcomp]⟩
  obtain ⟨kA, r, hr, k1, k2⟩ := key
  obtain ⟨r', hr', cellV, g1, g2, g3, -⟩ := hP.2.2.2 b _ hv
  have hcls := ((vz_ck hc).1 cj r hr).2
  obtain ⟨kC, hkC, -⟩ := hcls.2
  refine W.aast hc.1 hc.2.1 (hP.2.2.2 a _ he) (fun q h => by cases h) (fun h => by cases h) k1 k2 rfl hkC ⟨h0, by show _ < (arrV _ _ _).slots.size; rw [arrV_size]; exact hin⟩ g1 (fun q h => by rw [g3] at h; cases h) (by rw [g2]; exact hkC) (by rw [g2]; exact va_assign hcls) rfl rfl hd fun H1 e zz oq => ?_
  refine h H1 _ ls (vz_P_put (e := .inl (z.2.1 code, n, .inr (.inr (.inr (.inr (va_up (fun j => ((vz_Gt t a).2.2 j).join.map (vz_ad z)) i.toNatClampNeg (some (z.2.2.1 + b)))))))) hP hal zz oq ?_ (fun c hc' => vz_el_G (vz_gtS hc')) (fun c hc' => ?_) ?_) (hS.put zz oq (show z.2.2.1 ≤ z.2.2.1 + a by omega)) hL
  · rw [vz_el_ref hG'.1 hcj.2.1, hG'.2.1]
    congr 7
    funext j
    rw [hG'.2.2 j]
    by_cases hj : j = i.toNatClampNeg
    · subst hj
      simp only [List.getD_eq_getElem?_getD, List.getElem?_set_self hl, va_up, if_true]
      show some (vz_ad z b) = _
      rw [vz_adr hP hbl]
    · simp only [va_up, if_neg hj, hG.2.2 j, List.getD_eq_getElem?_getD, List.getElem?_set_ne (Ne.symm hj)]
  · rw [vz_gtS (by omega)]; exact hP.2.2.1 c hc'
  · show H1[z.2.2.1 + a]? = some (vp_cell _ _)
    rw [e, vp_cell_q, vp_cell_q, arrV_store]
    congr 2
    funext q
    by_cases hq : q = i.toNatClampNeg
    · subst hq
      simp [updV, va_up, va_rf]
    · simp [updV, va_up, hq]
end VZN
section VZK
variable {z : vz_Z} {μ : vz_M} {cc : ByteArray} {own : String} {dp nL kc ks pc N : Nat} {L : vz_L} {st : List Value} {t : vz_T} {σ : vz_I} {G : vz_G}
theorem vz_gt3 {t : vz_T} {a k : Nat} {c : Nat × Nat × List (Option (Option Nat))} {r : Option (Option Nat)} (h : t[a]? = some c) (hr : c.2.2.getD k none = r) : (vz_Gt t a).2.2 k = r := by
  obtain ⟨ci, ln, l⟩ := c
  exact ((vz_gtE h).2.2 k).trans hr
theorem vz_preN {pre blk : vz_T} {N j : Nat} {c : Nat × Nat × List (Option (Option Nat))} (hN : pre.length = N) (h : blk[j]? = some c) : (pre ++ blk)[N + j]? = some c := by
  subst hN
  exact vz_pre h
theorem vz_preNS {pre blk : vz_T} {N j : Nat} {c : Nat × Nat × List (Option (Option Nat))} (hN : pre.length = N) : (pre ++ blk).set (N + j) c = pre ++ blk.set j c := by
  subst hN
  exact vz_preS
theorem vz_preL {pre blk : vz_T} {N : Nat} (hN : pre.length = N) : (pre ++ blk).length = N + blk.length := by
  rw [List.length_append, hN]
theorem vk_iinc (hc : vz_C z μ cc own dp nL) {i : Nat} {n : Int} (hd : decode cc pc = .ok (.iinc i n, 3)) {x : Int32} (v w : Int32) (hv : Int32.ofInt n = v) (hw : x + v = w) (hl : vz_lk L i = some (.int x)) (hb : i < nL) (hn : vz_nc L i = true) (h : vz_V z μ kc ks (pc + 3) ((i, some (.int w)) :: L) st G σ N) : vz_V z μ kc ks pc L st G σ N := by
  subst hw
  exact vr_iinc hc hd v hv hl hb hn h
theorem vk_new (hc : vz_C z μ cc own dp nL) {idx ci : Nat} (t' : vz_T) (hN : t.length = N) (ht' : t ++ [(ci, 0, vz_r0 ci)] = t') (hd : decode cc pc = .ok (.new idx, 3)) (hn : vz_NC own idx ci) (hσ : vz_Zf σ N) (hb : N < 1048576) (hcap : kc + 1 ≤ μ.2.2.2.1.cells ∧ ks + vz_nF ci ≤ μ.2.2.2.1.slots) (h : vz_V z μ (kc + 1) (ks + vz_nF ci) (pc + 3) L (.ref N :: st) (vz_Gt t') σ (N + 1)) : vz_V z μ kc ks pc L st (vz_Gt t) σ N := by
  subst hN; subst ht'
  exact vt_new hc hd hn hσ hb hcap h
theorem vk_newa (hc : vz_C z μ cc own dp nL) {x : Int32} {atype : ArrayType} (code n : Nat) (t' : vz_T) (hN : t.length = N) (ht' : t ++ [(code, n, [])] = t') (hd : decode cc pc = .ok (.newarray atype, 2)) (hcd : (code = 10 ∧ newarray.typeOf atype = .int) ∨ (code = 11 ∧ newarray.typeOf atype = .byte) ∨ (code = 12 ∧ newarray.typeOf atype = .boolean)) (hw : Cond.arrayClass (newarray.typeOf atype) ∈ vz_tbl) (hx0 : ¬ x < 0) (hx : x.toNatClampNeg = n) (hn : n ≤ 1000) (hσ : vz_Zf σ N) (hb : N < 1048576) (hcap : kc + 1 ≤ μ.2.2.2.1.cells ∧ ks + n ≤ μ.2.2.2.1.slots) (h : vz_V z μ (kc + 1) (ks + n) (pc + 2) L (.ref N :: st) (vz_Gt t') σ (N + 1)) : vz_V z μ kc ks pc L (.int x :: st) (vz_Gt t) σ N := by
  subst hN; subst ht'
  exact vt_newa hc code n hd hcd hw hx0 hx hn hσ hb hcap h
theorem vk_anew (hc : vz_C z μ cc own dp nL) {x : Int32} {idx : Nat} (code n : Nat) (C : String) (t' : vz_T) (hN : t.length = N) (ht' : t ++ [(code, n, List.replicate n (some none))] = t') (hd : decode cc pc = .ok (.anewarray idx, 3)) (hcd : (code = 13 ∧ C = RX0) ∨ (code = 14 ∧ C = RX3) ∨ (code = 15 ∧ C = RX4) ∨ (code = 16 ∧ C = RX7)) (hw : Cond.classLink own idx C ∈ vz_tbl) (hov : C ∈ vz_ao) (hx0 : ¬ x < 0) (hx : x.toNatClampNeg = n) (hn : n ≤ 1000) (hb : N < 1048576) (hcap : kc + 1 ≤ μ.2.2.2.1.cells ∧ ks + n ≤ μ.2.2.2.1.slots) (h : vz_V z μ (kc + 1) (ks + n) (pc + 3) L (.ref N :: st) (vz_Gt t') σ (N + 1)) : vz_V z μ kc ks pc L (.int x :: st) (vz_Gt t) σ N := by
  subst hN; subst ht'
  exact vt_anew hc code n C hd hcd hw hov hx0 hx hn hb hcap h
theorem vk_putR (hc : vz_C z μ cc own dp nL) {idx ci k a b ln : Nat} {l : List (Option (Option Nat))} {fty : FieldType} (t' : vz_T) (hd : decode cc pc = .ok (.putfield idx, 3)) (hf : vz_FF own idx ci k fty) (hin : μ.2.2.2.2.2.2.2.2.1.name = "<init>") (ha : t[a]? = some (ci, ln, l)) (hk : k < l.length) (hn : ∀ q, narrow fty (.ref q) = .ref q) (hfit : ∀ q, fits fty (.ref q) = true) (ht' : t.set a (ci, ln, l.set k (some (some b))) = t') (h : vz_V z μ kc ks (pc + 3) L st (vz_Gt t') σ N) : vz_V z μ kc ks pc L (.ref b :: .ref a :: st) (vz_Gt t) σ N := by
  subst ht'
  exact vt_putR (ty := 0) hc hd hf hin ha hk hn hfit h
theorem vk_aast (hc : vz_C z μ cc own dp nL) {i : Int32} {code cj a b n ln : Nat} {l l2 : List (Option (Option Nat))} (k : Nat) (t' : vz_T) (hd : decode cc pc = .ok (.aastore, 1)) (hcd : (code = 13 ∧ cj = 0) ∨ (code = 14 ∧ cj = 3) ∨ (code = 15 ∧ cj = 4) ∨ (code = 16 ∧ cj = 7)) (ha : t[a]? = some (code, n, l)) (hb : t[b]? = some (cj, ln, l2)) (hi : vp_in i n) (hk : i.toNatClampNeg = k) (hl : k < l.length) (ht' : t.set a (code, n, l.set k (some (some b))) = t') (h : vz_V z μ kc ks (pc + 1) L st (vz_Gt t') σ N) : vz_V z μ kc ks pc L (.ref b :: .int i :: .ref a :: st) (vz_Gt t) σ N := by
  subst hk; subst ht'
  exact vt_aast hc hd hcd ha hb hi hl h
end VZK
