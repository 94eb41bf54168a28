/-! The small machine: a heap of cells at bs, bs + 1, ..; ints apart from the shape (which cell is what, which slot holds which reference). -/
def vz_tbl : List Cond := lw_tbl.filter goodWord
theorem vz_tb {w : Cond} (h : w ∈ lw_tbl) (hg : goodWord w = true) : w ∈ vz_tbl := List.mem_filter.mpr ⟨h, hg⟩
theorem ivX0 : ∀ w ∈ wsX00, w ∈ vz_tbl := fun w h => vz_tb (inX0 w h) ((by decide +kernel : ∀ w ∈ wsX00, goodWord w = true) w h)
theorem ivX1 : ∀ w ∈ wsX10, w ∈ vz_tbl := fun w h => vz_tb (inX1 w h) ((by decide +kernel : ∀ w ∈ wsX10, goodWord w = true) w h)
theorem ivX2 : ∀ w ∈ wsX20, w ∈ vz_tbl := fun w h => vz_tb (inX2 w h) ((by decide +kernel : ∀ w ∈ wsX20, goodWord w = true) w h)
theorem ivX3 : ∀ w ∈ wsX30, w ∈ vz_tbl := fun w h => vz_tb (inX3 w h) ((by decide +kernel : ∀ w ∈ wsX30, goodWord w = true) w h)
theorem ivX4 : ∀ w ∈ wsX40, w ∈ vz_tbl := fun w h => vz_tb (inX4 w h) ((by decide +kernel : ∀ w ∈ wsX40, goodWord w = true) w h)
theorem ivX5 : ∀ w ∈ wsX50, w ∈ vz_tbl := fun w h => vz_tb (inX5 w h) ((by decide +kernel : ∀ w ∈ wsX50, goodWord w = true) w h)
theorem ivX6 : ∀ w ∈ wsX60, w ∈ vz_tbl := fun w h => vz_tb (inX6 w h) ((by decide +kernel : ∀ w ∈ wsX60, goodWord w = true) w h)
theorem ivX7 : ∀ w ∈ wsX70, w ∈ vz_tbl := fun w h => vz_tb (inX7 w h) ((by decide +kernel : ∀ w ∈ wsX70, goodWord w = true) w h)
theorem ivX8 : ∀ w ∈ wsX80, w ∈ vz_tbl := fun w h => vz_tb (inX8 w h) ((by decide +kernel : ∀ w ∈ wsX80, goodWord w = true) w h)
theorem ivX9 : ∀ w ∈ wsX90, w ∈ vz_tbl := fun w h => vz_tb (inX9 w h) ((by decide +kernel : ∀ w ∈ wsX90, goodWord w = true) w h)
abbrev vz_Z : Type := va_G × (Nat → ClassId) × Nat × (Nat → Nat) × (Nat → Nat)
abbrev vz_M : Type := Program × Launch × Env × Room × State × MethodId × Array Value × List Frame × Method × Code × Nat × (State → Prop)
abbrev vz_G : Type := Nat → Nat × Nat × (Nat → Option (Option Nat))
abbrev vz_I : Type := Nat → Nat → Int32
abbrev vz_L : Type := List (Nat × Option Value)
def vz_ad (z : vz_Z) (a : Nat) : Nat := if a < 1048576 then z.2.2.1 + a else if a < 2097152 then z.2.2.2.1 (a - 1048576) else z.2.2.2.2 (a - 2097152)
def vz_cv (z : vz_Z) : Value → Value
  | .ref a => .ref (vz_ad z a)
  | v => v
theorem vz_cv_cat (z : vz_Z) (v : Value) : (vz_cv z v).category = v.category := by cases v <;> rfl
def vz_aty : Nat → FieldType
  | 10 => .int
  | 11 => .byte
  | 12 => .boolean
  | 13 => .object RX0
  | 14 => .object RX3
  | 15 => .object RX4
  | _ => .object RX7
def vz_tys (z : vz_Z) : List (ClassId × FieldType) := [(z.2.1 10, .int), (z.2.1 11, .byte), (z.2.1 12, .boolean), (z.2.1 13, .object RX0), (z.2.1 14, .object RX3), (z.2.1 15, .object RX4), (z.2.1 16, .object RX7)]
def vz_nF (ci : Nat) : Nat := ([4, 5, 2, 3, 3, 2, 9, 9, 11, 31] : List Nat).getD ci 0
def vz_fv (z : vz_Z) (r : Option (Option Nat)) (x : Int32) : Value := match r with
  | none => .int x
  | some q => va_rf (q.map (vz_ad z))
def vz_fs (z : vz_Z) (r : Nat → Option (Option Nat)) (f : Nat → Int32) (n : Nat) : List Value := (List.range n).map (fun k => vz_fv z (r k) (f k))
def vz_el (z : vz_Z) (G : vz_G) (σ : vz_I) (a : Nat) : va_E :=
  if (G a).1 < 10 then .inr ((G a).1, vz_fs z (G a).2.2 (σ a) (vz_nF (G a).1))
  else if (G a).1 < 13 then .inl (z.2.1 (G a).1, (G a).2.1, .inl (σ a))
  else .inl (z.2.1 (G a).1, (G a).2.1, .inr (.inr (.inr (.inr (fun i => ((G a).2.2 i).join.map (vz_ad z))))))
def vz_W (z : vz_Z) (G : vz_G) (σ : vz_I) (N : Nat) : va_W := (List.range N).map (fun a => (z.2.2.1 + a, vz_el z G σ a))
def vz_P (z : vz_Z) (G : vz_G) (σ : vz_I) (N : Nat) (H : Heap) : Prop := H.size = z.2.2.1 + N ∧ N ≤ 1048576 ∧ (∀ a, N ≤ a → (G a).1 = 99) ∧ va_P z.1 vwCl (vz_W z G σ N) H
abbrev vz_A (z : vz_Z) : Nat → Prop := fun q => z.2.2.1 ≤ q
theorem vz_W_get {z : vz_Z} {G : vz_G} {σ : vz_I} {N a : Nat} (h : a < N) : (vz_W z G σ N)[a]? = some (z.2.2.1 + a, vz_el z G σ a) := by
  simp [vz_W, List.getElem?_map, List.getElem?_range h]
theorem vz_W_len {z : vz_Z} {G : vz_G} {σ : vz_I} {N : Nat} : (vz_W z G σ N).length = N := by simp [vz_W]
theorem vz_W_D {z : vz_Z} {G : vz_G} {σ : vz_I} {N : Nat} : va_D (vz_A z) (vz_W z G σ N) := by
  have key : ∀ (k : Nat) (q : Nat × va_E), (vz_W z G σ N)[k]? = some q → q.1 = z.2.2.1 + k := by
    intro k q hk
    have hl : k < N := by
      have := (List.getElem?_eq_some_iff.mp hk).1
      rw [vz_W_len] at this
      exact this
    rw [vz_W_get hl] at hk
    cases hk
    rfl
  refine ⟨fun i j x y hi hj e => ?_, fun k q hk => ?_⟩
  · rw [key i x hi, key j y hj] at e
    omega
  · show z.2.2.1 ≤ q.1
    rw [key k q hk]
    omega
theorem vz_W_set {z : vz_Z} {G G' : vz_G} {σ σ' : vz_I} {N a : Nat} {e : va_E} (h : a < N) (he : vz_el z G' σ' a = e) (ho : ∀ b, b ≠ a → vz_el z G' σ' b = vz_el z G σ b) : (vz_W z G σ N).set a (z.2.2.1 + a, e) = vz_W z G' σ' N := by
  apply List.ext_getElem?
  intro j
  by_cases hj : j = a
  · subst hj
    rw [List.getElem?_set_self (by rw [vz_W_len]; exact h), vz_W_get h, he]
  · rw [List.getElem?_set_ne (Ne.symm hj)]
    by_cases hl : j < N
    · rw [vz_W_get hl, vz_W_get hl, ho j hj]
    · rw [List.getElem?_eq_none (by rw [vz_W_len]; omega), List.getElem?_eq_none (by rw [vz_W_len]; omega)]
theorem vz_W_push {z : vz_Z} {G G' : vz_G} {σ σ' : vz_I} {N : Nat} {e : va_E} (he : vz_el z G' σ' N = e) (ho : ∀ b, b < N → vz_el z G' σ' b = vz_el z G σ b) : vz_W z G σ N ++ [(z.2.2.1 + N, e)] = vz_W z G' σ' (N + 1) := by
  simp only [vz_W, List.range_succ, List.map_append, List.map_cons, List.map_nil, he]
  congr 1
  apply List.map_congr_left
  intro b hb
  rw [ho b (List.mem_range.mp hb)]
/-- the names of a text's lines: their places in the pool, lengths, bytes -/
def vz_sx : List (Nat × String) := [(149, "plain"), (155, "thin"), (157, "stout"), (159, "old"), (161, "street"), (163, "reader"), (165, "rain")]
def vz_sl : List Nat := [5, 4, 5, 3, 6, 6, 4]
def vz_sb8 : List (List Int32) := [[112, 108, 97, 105, 110], [116, 104, 105, 110], [115, 116, 111, 117, 116], [111, 108, 100], [115, 116, 114, 101, 101, 116], [114, 101, 97, 100, 101, 114], [114, 97, 105, 110]]
def vz_nl : List (String × Nat × MethodName) := [(RX0, 29, yX8_repeated), (RX1, 35, yX8_span), (RX6, 104, yX8_isCorner), (RX6, 135, yX8_isWithin), (RX7, 121, yX8_firstMinute), (RX7, 82, yX8_span)]
/-- what is known of the start: classes, rows, links within the nest, the names of a text's lines, String's static -/
def vz_ao : List String := [RX0, RX3, RX4, RX7]
def vz_K (z : vz_Z) (U : State) : Prop := va_K z.1 vwCl (vz_tys z) U ∧ (∀ q ∈ vz_nl, va_Nw (.methodLinkNest q.1 q.2.1 q.2.2 "BoardPress") U) ∧ (∀ (i : Nat) (q : Nat × String), vz_sx[i]? = some q → vk_R RX6 q.1 q.2 (z.2.2.2.1 i) U) ∧ vk_S 7 vz_sl vz_sb8 z.2.2.2.1 z.2.2.2.2 (vz_A z) U U.heap ∧ va_Z "java/lang/String" "COMPACT_STRINGS" "Z" (.int 1) (vz_A z) U U.heap ∧ (va_Z "jdk/internal/util/Preconditions" "SIOOBE_FORMATTER" "Ljava/util/function/BiFunction;" .null (vz_A z) U U.heap ∨ va_Z "jdk/internal/util/Preconditions" "SIOOBE_FORMATTER" "Ljava/util/function/BiFunction;" (.ref (z.2.2.2.2 7)) (vz_A z) U U.heap) ∧ ∀ C ∈ vz_ao, va_AO C U
theorem vz_K_blind {z : vz_Z} {U : State} (g : JFrame) (mk : MethodId) (a : Array Value) (h : vz_K z U) : vz_K z (U.calling g mk a) := by
  obtain ⟨h1, h2, h3, h4, h5, h6, h7⟩ := h
  exact ⟨va_K.moved (u := U) (U := U.calling g mk a) (Vm.Alike.refl U.vm) h1, fun q hq => va_Nw.same rfl (u := U) (U := U.calling g mk a) rfl (h2 q hq), fun i q hq => vk_R.same (u := U) (U := U.calling g mk a) rfl (h3 i q hq), vk_S.moved (u := U) (U := U.calling g mk a) (Vm.Alike.refl U.vm) h4, va_Z.moved (u := U) (U := U.calling g mk a) (Vm.Alike.refl U.vm) h5, h6.imp (va_Z.moved (u := U) (U := U.calling g mk a) (Vm.Alike.refl U.vm)) (va_Z.moved (u := U) (U := U.calling g mk a) (Vm.Alike.refl U.vm)), fun C hC => va_AO.moved (u := U) (U := U.calling g mk a) (Vm.Alike.refl U.vm) (h7 C hC)⟩
theorem vz_K_call {z : vz_Z} {s U : State} {H : Heap} {locs : List Loc} (h : vz_K z s) (hS : va_S (vz_A z) s.heap H locs) (hU : U.heap = H) (hW : s.WarmedH U.vm) : vz_K z U := by
  obtain ⟨h1, h2, h3, h4, h5, h6, h7⟩ := h
  subst hU
  exact ⟨va_K.moved hW.alike h1, fun q hq => va_Nw.warmM hW (h2 q hq), fun i q hq => vk_R.warm hW (h3 i q hq), vk_S.moved hW.alike (h4.kept hS.2.1), va_Z.moved hW.alike (h5.kept hS.2.1), h6.imp (fun q => va_Z.moved hW.alike (q.kept hS.2.1)) (fun q => va_Z.moved hW.alike (q.kept hS.2.1)), fun C hC => va_AO.moved hW.alike (h7 C hC)⟩
/-- the locals -/
def vz_lk : vz_L → Nat → Option Value
  | [], _ => none
  | q :: L, j => cond (Nat.beq q.1 j) q.2 (vz_lk L j)
def vz_LH (z : vz_Z) (ls : Array Slot) (nL : Nat) (L : vz_L) : Prop := lv_has ls nL [] ∧ ∀ i v, vz_lk L i = some v → ls[i]? = some (.val (vz_cv z v))
def vz_nc (L : vz_L) : Nat → Bool
  | 0 => true
  | j + 1 => match vz_lk L j with
    | some v => Nat.beq v.category 1
    | none => true
def vz_vis (z : vz_Z) (L : vz_L) : List (Nat × Value) := L.filterMap (fun q => (vz_lk L q.1).map (fun v => (q.1, vz_cv z v)))
theorem vz_lk_mem {L : vz_L} {j : Nat} {v : Value} (h : vz_lk L j = some v) : ∃ o, (j, o) ∈ L := by
  induction L with
  | nil => cases h
  | cons q L ih =>
    obtain ⟨i, o⟩ := q
    by_cases hij : Nat.beq i j = true
    · have : i = j := Nat.eq_of_beq_eq_true hij
      subst this
      exact ⟨o, List.mem_cons_self⟩
    · simp only [vz_lk, Bool.not_eq_true _ ▸ hij, cond_false] at h
      obtain ⟨o', h'⟩ := ih h
      exact ⟨o', List.mem_cons_of_mem _ h'⟩
theorem vz_vis_mem {z : vz_Z} {L : vz_L} {j : Nat} {v : Value} (h : vz_lk L j = some v) : (j, vz_cv z v) ∈ vz_vis z L := by
  obtain ⟨o, ho⟩ := vz_lk_mem h
  exact List.mem_filterMap.mpr ⟨(j, o), ho, by simp [h]⟩
theorem vz_vis_has {z : vz_Z} {ls : Array Slot} {nL : Nat} {L : vz_L} (h : vz_LH z ls nL L) : lv_has ls nL (vz_vis z L) := by
  refine ⟨h.1.1, h.1.2.1, fun q hq => ?_⟩
  obtain ⟨x, -, hx⟩ := List.mem_filterMap.mp hq
  cases hl : vz_lk L x.1 with
  | none => rw [hl] at hx; cases hx
  | some v =>
    rw [hl] at hx
    cases hx
    exact h.2 _ _ hl
theorem vz_beq_ne {i j : Nat} (h : i ≠ j) : Nat.beq i j = false := by
  cases hb : Nat.beq i j with
  | false => rfl
  | true => exact absurd (Nat.eq_of_beq_eq_true hb) h
theorem vz_st1 {z : vz_Z} {ls' : Array Slot} {nL : Nat} {L : vz_L} {i : Nat} {v : Value} (hc : v.category = 1) (hn : vz_nc L i = true) (h' : lv_has ls' nL ((i, vz_cv z v) :: (vz_vis z L).filter (fun q => !(q.1 == i) && !(q.1 + 1 == i && q.2.category == 2)))) : vz_LH z ls' nL ((i, some v) :: L) := by
  refine ⟨⟨h'.1, h'.2.1, fun q hq => by cases hq⟩, fun j w hj => ?_⟩
  by_cases hij : i = j
  · subst hij
    have : vz_lk ((i, some v) :: L) i = some v := by simp [vz_lk]
    rw [this] at hj
    cases hj
    exact h'.2.2 (i, vz_cv z v) List.mem_cons_self
  · simp only [vz_lk, vz_beq_ne hij, cond_false] at hj
    refine h'.2.2 (j, vz_cv z w) (List.mem_cons_of_mem _ (List.mem_filter.mpr ⟨vz_vis_mem hj, ?_⟩))
    have hji : ¬ j = i := fun q => hij q.symm
    by_cases hj1 : j + 1 = i
    · subst hj1
      simp only [vz_nc, hj] at hn
      have hw : w.category = 1 := Nat.eq_of_beq_eq_true hn
      simp [vz_cv_cat, hw]
    · simp [hji, hj1]
theorem vz_st2 {z : vz_Z} {ls' : Array Slot} {nL : Nat} {L : vz_L} {i : Nat} {v : Value} (hn : vz_nc L i = true) (h' : lv_has ls' nL ((i, vz_cv z v) :: (vz_vis z L).filter (fun q => !(q.1 == i) && (!(q.1 == i + 1) && !(q.1 + 1 == i && q.2.category == 2))))) : vz_LH z ls' nL ((i, some v) :: (i + 1, none) :: L) := by
  refine ⟨⟨h'.1, h'.2.1, fun q hq => by cases hq⟩, fun j w hj => ?_⟩
  by_cases hij : i = j
  · subst hij
    have : vz_lk ((i, some v) :: (i + 1, none) :: L) i = some v := by simp [vz_lk]
    rw [this] at hj
    cases hj
    exact h'.2.2 (i, vz_cv z v) List.mem_cons_self
  · by_cases hij2 : i + 1 = j
    · subst hij2
      have : vz_lk ((i, some v) :: (i + 1, none) :: L) (i + 1) = none := by simp [vz_lk, vz_beq_ne hij]
      rw [this] at hj
      cases hj
    · simp only [vz_lk, vz_beq_ne hij, vz_beq_ne hij2, cond_false] at hj
      refine h'.2.2 (j, vz_cv z w) (List.mem_cons_of_mem _ (List.mem_filter.mpr ⟨vz_vis_mem hj, ?_⟩))
      have hji : ¬ j = i := fun q => hij q.symm
      have hji2 : ¬ j = i + 1 := fun q => hij2 q.symm
      by_cases hj1 : j + 1 = i
      · subst hj1
        simp only [vz_nc, hj] at hn
        have hw : w.category = 1 := Nat.eq_of_beq_eq_true hn
        simp [vz_cv_cat, hw]; omega
      · simp [hji, hj1, hji2]
def vz_arg : Nat → List Value → vz_L
  | _, [] => []
  | i, v :: vs => (i, some v) :: vz_arg (if v.category = 2 then i + 2 else i + 1) vs
theorem vz_arg_in (z : vz_Z) : ∀ (vs : List Value) (k i : Nat) (v : Value), vz_lk (vz_arg k vs) i = some v → (i, vz_cv z v) ∈ lv_args k (vs.map (vz_cv z))
  | [], _, _, _, h => by cases h
  | w :: vs, k, i, v, h => by
    by_cases hki : k = i
    · subst hki
      have : vz_lk (vz_arg k (w :: vs)) k = some w := by simp [vz_arg, vz_lk]
      rw [this] at h
      cases h
      simp [lv_args]
    · simp only [vz_arg, vz_lk, vz_beq_ne hki, cond_false] at h
      simp only [List.map_cons, lv_args, vz_cv_cat]
      exact List.mem_cons_of_mem _ (vz_arg_in z vs _ i v h)
theorem vz_entry (z : vz_Z) (vs : List Value) {n : Nat} (h : (lg_sl (vs.map (vz_cv z))).length ≤ n) : vz_LH z ((lg_sl (vs.map (vz_cv z)) ++ List.replicate (n - (lg_sl (vs.map (vz_cv z))).length) Slot.unset).toArray) n (vz_arg 0 vs) := by
  have h0 := lv_entry (vs.map (vz_cv z)) h
  exact ⟨⟨h0.1, h0.2.1, fun q hq => by cases hq⟩, fun i v hv => h0.2.2 (i, vz_cv z v) (vz_arg_in z vs 0 i v hv)⟩
/-- the frame's fixed facts: the machine, the code, its class, the words, the known classes, the depth that calls may take -/
def vz_C (z : vz_Z) (μ : vz_M) (cc : ByteArray) (own : String) (dp nL : Nat) : Prop :=
  μ.1.tables.exec = Jvm.exec ∧ μ.2.2.2.2.2.2.2.2.2.1.code = cc ∧ μ.2.2.2.2.2.2.2.2.2.1.maxLocals = μ.2.2.2.2.2.2.2.2.2.2.1 ∧ μ.2.2.2.2.1.vm.findClass own = some μ.2.2.2.2.2.1.cls ∧ (∀ w ∈ vz_tbl, w.before μ.2.2.2.2.2.2.1 μ.2.2.2.2.1 = true) ∧ vz_K z μ.2.2.2.2.1 ∧ z.2.2.1 ≤ μ.2.2.2.2.1.heap.size ∧ dp ≤ μ.2.2.2.1.frames ∧ 35 * dp ≤ μ.2.2.2.1.locals ∧ μ.2.2.2.2.2.2.2.2.2.2.1 = nL
def vz_V (z : vz_Z) (μ : vz_M) (kc ks pc : Nat) (L : vz_L) (st : List Value) (G : vz_G) (σ : vz_I) (N : Nat) : Prop :=
  ∀ (H : Heap) (locs : List Loc) (ls : Array Slot), vz_P z G σ N H → va_S (vz_A z) μ.2.2.2.2.1.heap H locs → vz_LH z ls μ.2.2.2.2.2.2.2.2.2.2.1 L →
    W μ.1 μ.2.1 μ.2.2.1 μ.2.2.2.1 μ.2.2.2.2.1 μ.2.2.2.2.2.1 μ.2.2.2.2.2.2.1 μ.2.2.2.2.2.2.2.1 μ.2.2.2.2.2.2.2.2.1 μ.2.2.2.2.2.2.2.2.2.1 H locs kc ks μ.2.2.2.2.2.2.2.2.2.2.2 (F0 μ.2.2.2.2.2.1 pc ls (st.map (vz_cv z)))
theorem vz_ck {z : vz_Z} {μ : vz_M} {cc : ByteArray} {own : String} {dp nL : Nat} (hc : vz_C z μ cc own dp nL) : va_K z.1 vwCl (vz_tys z) μ.2.2.2.2.1 := hc.2.2.2.2.2.1.1
