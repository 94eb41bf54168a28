/-! from the entry: what the tables say, both constructors, the loop -/
def vs_tm (i : Nat) : Term := Term.string RX6 (([149, 155, 157, 159, 161, 163, 165] : List Nat).getD i 0)
theorem vs_ex {b : Nat} {s : State} (hgv : (Jvm.Cond.and given_1 narrow_1).before #[Value.ref b] s = true) : ∀ i : Nat, i < 7 → (Cond.exactly (vs_tm i) "java/lang/String").before #[Value.ref b] s = true := by
  have hf := flat_of_before _ hgv
  intro i hi
  match i, hi with
  | 0, _ => exact hf _ (by decide +kernel)
  | 1, _ => exact hf _ (by decide +kernel)
  | 2, _ => exact hf _ (by decide +kernel)
  | 3, _ => exact hf _ (by decide +kernel)
  | 4, _ => exact hf _ (by decide +kernel)
  | 5, _ => exact hf _ (by decide +kernel)
  | 6, _ => exact hf _ (by decide +kernel)
  | i + 7, h => exact absurd h (by omega)
theorem vs_co {b : Nat} {s : State} (hgv : (Jvm.Cond.and given_1 narrow_1).before #[Value.ref b] s = true) : ∀ i : Nat, i < 7 → (Cond.eq (.field (vs_tm i) "java/lang/String" "coder" "B") (.int 0)).before #[Value.ref b] s = true := by
  have hf := flat_of_before _ hgv
  intro i hi
  match i, hi with
  | 0, _ => exact hf _ (by decide +kernel)
  | 1, _ => exact hf _ (by decide +kernel)
  | 2, _ => exact hf _ (by decide +kernel)
  | 3, _ => exact hf _ (by decide +kernel)
  | 4, _ => exact hf _ (by decide +kernel)
  | 5, _ => exact hf _ (by decide +kernel)
  | 6, _ => exact hf _ (by decide +kernel)
  | i + 7, h => exact absurd h (by omega)
theorem vs_ar {b : Nat} {s : State} (hgv : (Jvm.Cond.and given_1 narrow_1).before #[Value.ref b] s = true) : ∀ i : Nat, i < 7 → (Cond.arrayOf (.field (vs_tm i) "java/lang/String" "value" "[B") .byte).before #[Value.ref b] s = true := by
  have hf := flat_of_before _ hgv
  intro i hi
  match i, hi with
  | 0, _ => exact hf _ (by decide +kernel)
  | 1, _ => exact hf _ (by decide +kernel)
  | 2, _ => exact hf _ (by decide +kernel)
  | 3, _ => exact hf _ (by decide +kernel)
  | 4, _ => exact hf _ (by decide +kernel)
  | 5, _ => exact hf _ (by decide +kernel)
  | 6, _ => exact hf _ (by decide +kernel)
  | i + 7, h => exact absurd h (by omega)
theorem vs_le {b : Nat} {s : State} (hgv : (Jvm.Cond.and given_1 narrow_1).before #[Value.ref b] s = true) : ∀ i : Nat, i < 7 → (Cond.eq (.length (.field (vs_tm i) "java/lang/String" "value" "[B")) (.int (Int32.ofNat (vz_sl.getD i 0)))).before #[Value.ref b] s = true := by
  have hf := flat_of_before _ hgv
  intro i hi
  match i, hi with
  | 0, _ => exact hf _ (by decide +kernel)
  | 1, _ => exact hf _ (by decide +kernel)
  | 2, _ => exact hf _ (by decide +kernel)
  | 3, _ => exact hf _ (by decide +kernel)
  | 4, _ => exact hf _ (by decide +kernel)
  | 5, _ => exact hf _ (by decide +kernel)
  | 6, _ => exact hf _ (by decide +kernel)
  | i + 7, h => exact absurd h (by omega)
theorem vs_el {b : Nat} {s : State} (hgv : (Jvm.Cond.and given_1 narrow_1).before #[Value.ref b] s = true) : ∀ i : Nat, i < 7 → ∀ j : Nat, j < vz_sl.getD i 0 → (Cond.eq (.elem (.field (vs_tm i) "java/lang/String" "value" "[B") (.int (Int32.ofNat j))) (.int ((vz_sb8.getD i []).getD j 0))).before #[Value.ref b] s = true := by
  have hf := flat_of_before _ hgv
  intro i hi j hj
  match i, hi, j, hj with
  | 0, _, 0, _ => exact hf _ (by decide +kernel)
  | 0, _, 1, _ => exact hf _ (by decide +kernel)
  | 0, _, 2, _ => exact hf _ (by decide +kernel)
  | 0, _, 3, _ => exact hf _ (by decide +kernel)
  | 0, _, 4, _ => exact hf _ (by decide +kernel)
  | 0, _, j + 5, h => exact absurd h (by show ¬ j + 5 < 5; omega)
  | 1, _, 0, _ => exact hf _ (by decide +kernel)
  | 1, _, 1, _ => exact hf _ (by decide +kernel)
  | 1, _, 2, _ => exact hf _ (by decide +kernel)
  | 1, _, 3, _ => exact hf _ (by decide +kernel)
  | 1, _, j + 4, h => exact absurd h (by show ¬ j + 4 < 4; omega)
  | 2, _, 0, _ => exact hf _ (by decide +kernel)
  | 2, _, 1, _ => exact hf _ (by decide +kernel)
  | 2, _, 2, _ => exact hf _ (by decide +kernel)
  | 2, _, 3, _ => exact hf _ (by decide +kernel)
  | 2, _, 4, _ => exact hf _ (by decide +kernel)
  | 2, _, j + 5, h => exact absurd h (by show ¬ j + 5 < 5; omega)
  | 3, _, 0, _ => exact hf _ (by decide +kernel)
  | 3, _, 1, _ => exact hf _ (by decide +kernel)
  | 3, _, 2, _ => exact hf _ (by decide +kernel)
  | 3, _, j + 3, h => exact absurd h (by show ¬ j + 3 < 3; omega)
  | 4, _, 0, _ => exact hf _ (by decide +kernel)
  | 4, _, 1, _ => exact hf _ (by decide +kernel)
  | 4, _, 2, _ => exact hf _ (by decide +kernel)
  | 4, _, 3, _ => exact hf _ (by decide +kernel)
  | 4, _, 4, _ => exact hf _ (by decide +kernel)
  | 4, _, 5, _ => exact hf _ (by decide +kernel)
  | 4, _, j + 6, h => exact absurd h (by show ¬ j + 6 < 6; omega)
  | 5, _, 0, _ => exact hf _ (by decide +kernel)
  | 5, _, 1, _ => exact hf _ (by decide +kernel)
  | 5, _, 2, _ => exact hf _ (by decide +kernel)
  | 5, _, 3, _ => exact hf _ (by decide +kernel)
  | 5, _, 4, _ => exact hf _ (by decide +kernel)
  | 5, _, 5, _ => exact hf _ (by decide +kernel)
  | 5, _, j + 6, h => exact absurd h (by show ¬ j + 6 < 6; omega)
  | 6, _, 0, _ => exact hf _ (by decide +kernel)
  | 6, _, 1, _ => exact hf _ (by decide +kernel)
  | 6, _, 2, _ => exact hf _ (by decide +kernel)
  | 6, _, 3, _ => exact hf _ (by decide +kernel)
  | 6, _, j + 4, h => exact absurd h (by show ¬ j + 4 < 4; omega)
  | i + 7, h, _, _ => exact absurd h (by omega)
theorem vs_ne {b : Nat} {s : State} (hgv : (Jvm.Cond.and given_1 narrow_1).before #[Value.ref b] s = true) : ∀ i j : Nat, i < 7 → j < 7 → i ≠ j → (Cond.not (Cond.eq (vs_tm i) (vs_tm j))).before #[Value.ref b] s = true ∨ (Cond.not (Cond.eq (vs_tm j) (vs_tm i))).before #[Value.ref b] s = true := by
  have hf := flat_of_before _ hgv
  intro i j hi hj hne
  match i, hi, j, hj with
  | 0, _, 0, _ => exact absurd rfl hne
  | 0, _, 1, _ => first | exact Or.inl (hf _ (by decide +kernel)) | exact Or.inr (hf _ (by decide +kernel))
  | 0, _, 2, _ => first | exact Or.inl (hf _ (by decide +kernel)) | exact Or.inr (hf _ (by decide +kernel))
  | 0, _, 3, _ => first | exact Or.inl (hf _ (by decide +kernel)) | exact Or.inr (hf _ (by decide +kernel))
  | 0, _, 4, _ => first | exact Or.inl (hf _ (by decide +kernel)) | exact Or.inr (hf _ (by decide +kernel))
  | 0, _, 5, _ => first | exact Or.inl (hf _ (by decide +kernel)) | exact Or.inr (hf _ (by decide +kernel))
  | 0, _, 6, _ => first | exact Or.inl (hf _ (by decide +kernel)) | exact Or.inr (hf _ (by decide +kernel))
  | 0, _, j + 7, h => exact absurd h (by omega)
  | 1, _, 0, _ => first | exact Or.inr (hf _ (by decide +kernel)) | exact Or.inl (hf _ (by decide +kernel))
  | 1, _, 1, _ => exact absurd rfl hne
  | 1, _, 2, _ => first | exact Or.inl (hf _ (by decide +kernel)) | exact Or.inr (hf _ (by decide +kernel))
  | 1, _, 3, _ => first | exact Or.inl (hf _ (by decide +kernel)) | exact Or.inr (hf _ (by decide +kernel))
  | 1, _, 4, _ => first | exact Or.inl (hf _ (by decide +kernel)) | exact Or.inr (hf _ (by decide +kernel))
  | 1, _, 5, _ => first | exact Or.inl (hf _ (by decide +kernel)) | exact Or.inr (hf _ (by decide +kernel))
  | 1, _, 6, _ => first | exact Or.inl (hf _ (by decide +kernel)) | exact Or.inr (hf _ (by decide +kernel))
  | 1, _, j + 7, h => exact absurd h (by omega)
  | 2, _, 0, _ => first | exact Or.inr (hf _ (by decide +kernel)) | exact Or.inl (hf _ (by decide +kernel))
  | 2, _, 1, _ => first | exact Or.inr (hf _ (by decide +kernel)) | exact Or.inl (hf _ (by decide +kernel))
  | 2, _, 2, _ => exact absurd rfl hne
  | 2, _, 3, _ => first | exact Or.inl (hf _ (by decide +kernel)) | exact Or.inr (hf _ (by decide +kernel))
  | 2, _, 4, _ => first | exact Or.inl (hf _ (by decide +kernel)) | exact Or.inr (hf _ (by decide +kernel))
  | 2, _, 5, _ => first | exact Or.inl (hf _ (by decide +kernel)) | exact Or.inr (hf _ (by decide +kernel))
  | 2, _, 6, _ => first | exact Or.inl (hf _ (by decide +kernel)) | exact Or.inr (hf _ (by decide +kernel))
  | 2, _, j + 7, h => exact absurd h (by omega)
  | 3, _, 0, _ => first | exact Or.inr (hf _ (by decide +kernel)) | exact Or.inl (hf _ (by decide +kernel))
  | 3, _, 1, _ => first | exact Or.inr (hf _ (by decide +kernel)) | exact Or.inl (hf _ (by decide +kernel))
  | 3, _, 2, _ => first | exact Or.inr (hf _ (by decide +kernel)) | exact Or.inl (hf _ (by decide +kernel))
  | 3, _, 3, _ => exact absurd rfl hne
  | 3, _, 4, _ => first | exact Or.inl (hf _ (by decide +kernel)) | exact Or.inr (hf _ (by decide +kernel))
  | 3, _, 5, _ => first | exact Or.inl (hf _ (by decide +kernel)) | exact Or.inr (hf _ (by decide +kernel))
  | 3, _, 6, _ => first | exact Or.inl (hf _ (by decide +kernel)) | exact Or.inr (hf _ (by decide +kernel))
  | 3, _, j + 7, h => exact absurd h (by omega)
  | 4, _, 0, _ => first | exact Or.inr (hf _ (by decide +kernel)) | exact Or.inl (hf _ (by decide +kernel))
  | 4, _, 1, _ => first | exact Or.inr (hf _ (by decide +kernel)) | exact Or.inl (hf _ (by decide +kernel))
  | 4, _, 2, _ => first | exact Or.inr (hf _ (by decide +kernel)) | exact Or.inl (hf _ (by decide +kernel))
  | 4, _, 3, _ => first | exact Or.inr (hf _ (by decide +kernel)) | exact Or.inl (hf _ (by decide +kernel))
  | 4, _, 4, _ => exact absurd rfl hne
  | 4, _, 5, _ => first | exact Or.inl (hf _ (by decide +kernel)) | exact Or.inr (hf _ (by decide +kernel))
  | 4, _, 6, _ => first | exact Or.inl (hf _ (by decide +kernel)) | exact Or.inr (hf _ (by decide +kernel))
  | 4, _, j + 7, h => exact absurd h (by omega)
  | 5, _, 0, _ => first | exact Or.inr (hf _ (by decide +kernel)) | exact Or.inl (hf _ (by decide +kernel))
  | 5, _, 1, _ => first | exact Or.inr (hf _ (by decide +kernel)) | exact Or.inl (hf _ (by decide +kernel))
  | 5, _, 2, _ => first | exact Or.inr (hf _ (by decide +kernel)) | exact Or.inl (hf _ (by decide +kernel))
  | 5, _, 3, _ => first | exact Or.inr (hf _ (by decide +kernel)) | exact Or.inl (hf _ (by decide +kernel))
  | 5, _, 4, _ => first | exact Or.inr (hf _ (by decide +kernel)) | exact Or.inl (hf _ (by decide +kernel))
  | 5, _, 5, _ => exact absurd rfl hne
  | 5, _, 6, _ => first | exact Or.inl (hf _ (by decide +kernel)) | exact Or.inr (hf _ (by decide +kernel))
  | 5, _, j + 7, h => exact absurd h (by omega)
  | 6, _, 0, _ => first | exact Or.inr (hf _ (by decide +kernel)) | exact Or.inl (hf _ (by decide +kernel))
  | 6, _, 1, _ => first | exact Or.inr (hf _ (by decide +kernel)) | exact Or.inl (hf _ (by decide +kernel))
  | 6, _, 2, _ => first | exact Or.inr (hf _ (by decide +kernel)) | exact Or.inl (hf _ (by decide +kernel))
  | 6, _, 3, _ => first | exact Or.inr (hf _ (by decide +kernel)) | exact Or.inl (hf _ (by decide +kernel))
  | 6, _, 4, _ => first | exact Or.inr (hf _ (by decide +kernel)) | exact Or.inl (hf _ (by decide +kernel))
  | 6, _, 5, _ => first | exact Or.inr (hf _ (by decide +kernel)) | exact Or.inl (hf _ (by decide +kernel))
  | 6, _, 6, _ => exact absurd rfl hne
  | 6, _, j + 7, h => exact absurd h (by omega)
  | i + 7, h, _, _ => exact absurd h (by omega)
theorem vs_K {b : Nat} {s : State} (hts : ∀ w ∈ lw_tbl, w.before #[Value.ref b] s = true) (hgv : (Jvm.Cond.and given_1 narrow_1).before #[Value.ref b] s = true) : ∃ z : vz_Z, vz_K z s ∧ z.2.2.1 = s.heap.size ∧ z.2.2.2.1 7 = b := by
  obtain ⟨c0, i0, hn0⟩ := u_known (C := RX0) (T := TX0) (N := 4) (n := 4) hts inX0 (hts (.instantiable RX0 4) (tb1 (List.mem_of_getElem? (i := 58) rfl)))
  obtain ⟨c1, i1, hn1⟩ := u_known (C := RX1) (T := TX1) (N := 5) (n := 5) hts inX1 (hts (.instantiable RX1 5) (tb1 (List.mem_of_getElem? (i := 183) rfl)))
  obtain ⟨c2, i2, hn2⟩ := u_known (C := RX2) (T := TX2) (N := 2) (n := 2) hts inX2 (hts (.instantiable RX2 2) (tb1 (List.mem_of_getElem? (i := 211) rfl)))
  obtain ⟨c3, i3, hn3⟩ := u_known (C := RX3) (T := TX3) (N := 3) (n := 3) hts inX3 (hts (.instantiable RX3 3) (tb1 (List.mem_of_getElem? (i := 86) rfl)))
  obtain ⟨c4, i4, hn4⟩ := u_known (C := RX4) (T := TX4) (N := 3) (n := 3) hts inX4 (hts (.instantiable RX4 3) (tb1 (List.mem_of_getElem? (i := 223) rfl)))
  obtain ⟨c5, i5, hn5⟩ := u_known (C := RX5) (T := TX5) (N := 2) (n := 2) hts inX5 (hts (.instantiable RX5 2) (tb1 (List.mem_of_getElem? (i := 33) rfl)))
  obtain ⟨c6, i6, hn6⟩ := u_known (C := RX6) (T := TX6) (N := 9) (n := 9) hts inX6 (hts (.instantiable RX6 9) (tb1 (List.mem_of_getElem? (i := 27) rfl)))
  obtain ⟨c7, i7, hn7⟩ := u_known (C := RX7) (T := TX7) (N := 9) (n := 9) hts inX7 (hts (.instantiable RX7 9) (tb1 (List.mem_of_getElem? (i := 49) rfl)))
  obtain ⟨c8, i8, hn8⟩ := u_known (C := RX8) (T := TX8) (N := 11) (n := 11) hts inX8 (hts (.instantiable RX8 11) (tb1 (List.mem_of_getElem? (i := 19) rfl)))
  obtain ⟨c9, i9, hn9⟩ := u_known (C := RX9) (T := TX9) (N := 31) (n := 31) hts inX9 (hts (.instantiable RX9 31) (tb4 (List.mem_of_getElem? (i := 141) rfl)))
  obtain ⟨a10, ka10, ma10, fa10, ga10, ha10⟩ := Cond.arrayClass_spec (hts (.arrayClass .int) (tb1 (List.mem_of_getElem? (i := 85) rfl)))
  obtain ⟨a11, ka11, ma11, fa11, ga11, ha11⟩ := Cond.arrayClass_spec (hts (.arrayClass .byte) (tb1 (List.mem_of_getElem? (i := 47) rfl)))
  obtain ⟨a12, ka12, ma12, fa12, ga12, ha12⟩ := Cond.arrayClass_spec (hts (.arrayClass .boolean) (tb1 (List.mem_of_getElem? (i := 205) rfl)))
  have ho13 := hts (.arrayOver (.object RX0)) (tb1 (List.mem_of_getElem? (i := 55) rfl))
  obtain ⟨m13, a13, k13, e13, -, g13, h13, f13⟩ := Cond.arrayOver_spec ho13
  have ho14 := hts (.arrayOver (.object RX3)) (tb1 (List.mem_of_getElem? (i := 57) rfl))
  obtain ⟨m14, a14, k14, e14, -, g14, h14, f14⟩ := Cond.arrayOver_spec ho14
  have ho15 := hts (.arrayOver (.object RX4)) (tb1 (List.mem_of_getElem? (i := 207) rfl))
  obtain ⟨m15, a15, k15, e15, -, g15, h15, f15⟩ := Cond.arrayOver_spec ho15
  have ho16 := hts (.arrayOver (.object RX7)) (tb1 (List.mem_of_getElem? (i := 181) rfl))
  obtain ⟨m16, a16, k16, e16, -, g16, h16, f16⟩ := Cond.arrayOver_spec ho16
  obtain ⟨aK, aV, hS, hev⟩ := vk_Sof (N := 7) (tm := vs_tm) (len := vz_sl) (byt := vz_sb8) (A := fun q => s.heap.size ≤ q) (by decide) (vs_ex hgv) (vs_co hgv) (vs_ar hgv) (vs_le hgv) (vs_el hgv) (vs_ne hgv) (fun a h => Nat.not_le.mpr h)
  have hf := flat_of_before _ hgv
  have hZ := va_Zof (A := fun q => s.heap.size ≤ q) (hts (.laysStatic "java/lang/String" "COMPACT_STRINGS" "Z") (tb2 (List.mem_of_getElem? (i := 106) rfl))) (hts (.initialized "java/lang/String") (tb1 (List.mem_of_getElem? (i := 11) rfl))) (va_eqi (z := 1) (hf _ (by decide +kernel))) (fun a h => Nat.not_le.mpr h)
  have hQ := va_Zqof (A := fun q => s.heap.size ≤ q) (hts (.laysStatic "jdk/internal/util/Preconditions" "SIOOBE_FORMATTER" "Ljava/util/function/BiFunction;") (tb2 (List.mem_of_getElem? (i := 122) rfl))) (hts (.initialized "jdk/internal/util/Preconditions") (tb1 (List.mem_of_getElem? (i := 13) rfl))) (hf _ (by decide +kernel)) (fun a h => Nat.not_le.mpr h)
  obtain ⟨tF, hQ2⟩ : ∃ tF : Nat, va_Z "jdk/internal/util/Preconditions" "SIOOBE_FORMATTER" "Ljava/util/function/BiFunction;" .null (fun q => s.heap.size ≤ q) s s.heap ∨ va_Z "jdk/internal/util/Preconditions" "SIOOBE_FORMATTER" "Ljava/util/function/BiFunction;" (.ref tF) (fun q => s.heap.size ≤ q) s s.heap := by
    rcases hQ with h | ⟨t, h⟩
    · exact ⟨0, Or.inl h⟩
    · exact ⟨t, Or.inr h⟩
  refine ⟨((fun k => ([c0, c1, c2, c3, c4, c5, c6, c7, c8, c9] : List ClassId).getD k 0, fun k => ([i0, i1, i2, i3, i4, i5, i6, i7, i8, i9] : List (Nat → Nat)).getD k (fun _ => 0)), fun k => ([a10, a11, a12, a13, a14, a15, a16] : List ClassId).getD (k - 10) 0, s.heap.size, fun i => if i < 7 then aK i else b, fun i => if i < 7 then aV i else tF), ⟨⟨?_, ?_⟩, ?_, ?_, ?_, hZ, hQ2, ?_⟩, rfl, rfl⟩
  · intro k q hq
    match k, hq with
    | 0, hq => cases hq; exact hn0
    | 1, hq => cases hq; exact hn1
    | 2, hq => cases hq; exact hn2
    | 3, hq => cases hq; exact hn3
    | 4, hq => cases hq; exact hn4
    | 5, hq => cases hq; exact hn5
    | 6, hq => cases hq; exact hn6
    | 7, hq => cases hq; exact hn7
    | 8, hq => cases hq; exact hn8
    | 9, hq => cases hq; exact hn9
    | k + 10, hq => simp [vwCl] at hq
  · intro k q hq
    match k, hq with
    | 0, hq => cases hq; exact ⟨fun n z => ⟨fun k h => (by cases h), ka10, ga10, ma10, ha10⟩, fa10⟩
    | 1, hq => cases hq; exact ⟨fun n z => ⟨fun k h => (by cases h), ka11, ga11, ma11, ha11⟩, fa11⟩
    | 2, hq => cases hq; exact ⟨fun n z => ⟨fun k h => (by cases h), ka12, ga12, ma12, ha12⟩, fa12⟩
    | 3, hq => cases hq; exact ⟨fun n z => ⟨fun k h => (by cases h), k13, g13, m13, h13⟩, ⟨k13, m13, g13, h13, e13, f13⟩⟩
    | 4, hq => cases hq; exact ⟨fun n z => ⟨fun k h => (by cases h), k14, g14, m14, h14⟩, ⟨k14, m14, g14, h14, e14, f14⟩⟩
    | 5, hq => cases hq; exact ⟨fun n z => ⟨fun k h => (by cases h), k15, g15, m15, h15⟩, ⟨k15, m15, g15, h15, e15, f15⟩⟩
    | 6, hq => cases hq; exact ⟨fun n z => ⟨fun k h => (by cases h), k16, g16, m16, h16⟩, ⟨k16, m16, g16, h16, e16, f16⟩⟩
    | k + 7, hq => simp [vz_tys] at hq
  · intro q hq
    simp only [vz_nl, List.mem_cons, List.not_mem_nil, or_false] at hq
    rcases hq with rfl | rfl | rfl | rfl | rfl | rfl
    · exact va_Nw.of rfl (hts _ (tb3 (List.mem_of_getElem? (i := 21) rfl)))
    · exact va_Nw.of rfl (hts _ (tb4 (List.mem_of_getElem? (i := 39) rfl)))
    · exact va_Nw.of rfl (hts _ (tb2 (List.mem_of_getElem? (i := 171) rfl)))
    · exact va_Nw.of rfl (hts _ (tb2 (List.mem_of_getElem? (i := 79) rfl)))
    · exact va_Nw.of rfl (hts _ (tb3 (List.mem_of_getElem? (i := 158) rfl)))
    · exact va_Nw.of rfl (hts _ (tb3 (List.mem_of_getElem? (i := 8) rfl)))
  · intro i q hq
    match i, hq with
    | 0, hq => cases hq; exact vk_R.of (hts (.stringRef RX6 149 "plain") (tb2 (List.mem_of_getElem? (i := 92) rfl))) (hev 0 (by decide))
    | 1, hq => cases hq; exact vk_R.of (hts (.stringRef RX6 155 "thin") (tb2 (List.mem_of_getElem? (i := 145) rfl))) (hev 1 (by decide))
    | 2, hq => cases hq; exact vk_R.of (hts (.stringRef RX6 157 "stout") (tb2 (List.mem_of_getElem? (i := 146) rfl))) (hev 2 (by decide))
    | 3, hq => cases hq; exact vk_R.of (hts (.stringRef RX6 159 "old") (tb2 (List.mem_of_getElem? (i := 147) rfl))) (hev 3 (by decide))
    | 4, hq => cases hq; exact vk_R.of (hts (.stringRef RX6 161 "street") (tb2 (List.mem_of_getElem? (i := 148) rfl))) (hev 4 (by decide))
    | 5, hq => cases hq; exact vk_R.of (hts (.stringRef RX6 163 "reader") (tb2 (List.mem_of_getElem? (i := 149) rfl))) (hev 5 (by decide))
    | 6, hq => cases hq; exact vk_R.of (hts (.stringRef RX6 165 "rain") (tb2 (List.mem_of_getElem? (i := 150) rfl))) (hev 6 (by decide))
    | i + 7, hq => simp [vz_sx] at hq
  · refine ⟨fun i hi => ?_, fun i j hi hj h => ?_⟩
    · show va_O _ (if i < 7 then aK i else b) _ _ _ ∧ va_OF _ _ _ _ (if i < 7 then aK i else b) _ _ _ ∧ va_OF _ _ _ (.ref (if i < 7 then aV i else tF)) (if i < 7 then aK i else b) _ _ _ ∧ va_T _ (if i < 7 then aV i else tF) _ _ _ _ _
      rw [if_pos hi, if_pos hi]
      exact hS.1 i hi
    · have h2 : (if i < 7 then aK i else b) = (if j < 7 then aK j else b) := h
      rw [if_pos hi, if_pos hj] at h2
      exact hS.2 i j hi hj h2
  · intro C hC
    simp only [vz_ao, List.mem_cons, List.not_mem_nil, or_false] at hC
    rcases hC with rfl | rfl | rfl | rfl
    · exact va_AO.of ho13
    · exact va_AO.of ho14
    · exact va_AO.of ho15
    · exact va_AO.of ho16
theorem nc_L_7 : vz_NC RL 7 8 := ⟨RX8, TX8, 11, tyX8, rfl, rfl, by decide, ivX8, tyX8_ok, vz_tb (tb1 (List.mem_of_getElem? (i := 18) rfl)) rfl, vz_tb (tb1 (List.mem_of_getElem? (i := 19) rfl)) rfl, vz_tb (tb1 (List.mem_of_getElem? (i := 1) rfl)) rfl, fun z k hk => dv_8 z k hk⟩
theorem nc_L_10 : vz_NC RL 10 9 := ⟨RX9, TX9, 31, tyX9, rfl, rfl, by decide, ivX9, tyX9_ok, vz_tb (tb4 (List.mem_of_getElem? (i := 140) rfl)) rfl, vz_tb (tb4 (List.mem_of_getElem? (i := 141) rfl)) rfl, vz_tb (tb1 (List.mem_of_getElem? (i := 10) rfl)) rfl, fun z k hk => dv_9 z k hk⟩
theorem mj_L_9 : Cond.methodLink RL 9 yX8_init ∈ vz_tbl := vz_tb (tb1 (List.mem_of_getElem? (i := 20) rfl)) rfl
theorem mj_L_12 : Cond.methodLink RL 12 yX9_init ∈ vz_tbl := vz_tb (tb4 (List.mem_of_getElem? (i := 142) rfl)) rfl
theorem vs_zc : vz_Zf vz_sc 108 := (vz_Zf_up (vz_Zf_up (vz_Zf_up (vz_Zf_up (vz_Zf_up (vz_Zf_up (vz_Zf_up (vz_Zf_le vz_zf0 (Nat.zero_le 108)) (by decide)) (by decide)) (by decide)) (by decide)) (by decide)) (by decide)) (by decide))
def vs_0 : vz_I := sb_X9 108 vz_sc
set_option maxRecDepth 40000 in
set_option maxHeartbeats 4000000 in
theorem vs_start {p : Program} {e : Env} {s : State} {m : MethodId} {below : List Frame} {meth : Method} {c : Code} (l : Launch) {b L : Nat} {xs : Nat → Int32} (hL : L ≤ 2560) (C0 : lw_At p s m meth c b L xs) {Rl : vz_I → Prop} (hs : vz_sims Rl) (h0 : Rl vs_0) : W p l e room_1 s m #[Value.ref b] below meth c s.heap [] 0 0 (lw_Z below #[Value.ref b] s) (entryFrame m ([Value.ref b] : List Value).toArray 4) := by
  obtain ⟨hx, hb, hr, hml, hown, hts, hX, hbl, hlocks, hgv⟩ := C0
  obtain ⟨z, hK, hbs, hz7⟩ := vs_K hts hgv
  have hc : vz_C z (vl_M p l e s m below meth c b) code RL 12 4 := ⟨hx, hb, hml, hown, fun w hw => hts w (List.mem_filter.mp hw).1, hK, by rw [hbs]; exact Nat.le_refl _, Nat.le_of_ble_eq_true rfl, Nat.le_of_ble_eq_true rfl, rfl⟩
  have hXl : vl_X z (vl_M p l e s m below meth c b) b L xs := ⟨hX, hbl, hbs, hz7⟩
  have hcv : ([Value.ref 1048583] : List Value).map (vz_cv z) = [Value.ref b] := by
    rw [← hz7]
    rfl
  rw [show entryFrame m ([Value.ref b] : List Value).toArray 4 = entryFrame m (([Value.ref 1048583] : List Value).map (vz_cv z)).toArray 4 by rw [hcv], lg_entry_eq]
  have hE := vz_entry z [Value.ref 1048583] (n := 4) (Nat.le_of_ble_eq_true rfl)
  generalize (lg_sl (([Value.ref 1048583] : List Value).map (vz_cv z)) ++ List.replicate (4 - (lg_sl (([Value.ref 1048583] : List Value).map (vz_cv z))).length) Slot.unset).toArray = ls at hE ⊢
  have hP0 : vz_P z (vz_Gt []) vz_s0 0 s.heap := ⟨by rw [hbs]; rfl, by decide, fun a _ => rfl, fun k q h => by simp [vz_W] at h⟩
  suffices hV : vz_V z (vl_M p l e s m below meth c b) 0 0 0 (vz_arg 0 [Value.ref 1048583]) [] (vz_Gt []) vz_s0 0 from hV s.heap [] ls hP0 va_S.rf hE
  refine vk_new (pc := 0) hc [(8, 0, [some none, some none, some none, some none, some none, some none, some none, some none, some none, some none, none])] rfl rfl dL_law_0 nc_L_7 vz_zf0 (by decide) ⟨Nat.le_of_ble_eq_true rfl, Nat.le_of_ble_eq_true rfl⟩ ?_
  refine vr_dup (pc := 3) hc dL_law_3 rfl ?_
  refine vr_callI (pc := 4) hc dL_law_4 mi_X8 mj_L_9 (k_X8 z _) rfl (by decide) rfl (Nat.le_of_ble_eq_true rfl) ⟨Nat.le_of_ble_eq_true rfl, Nat.le_of_ble_eq_true rfl⟩ ?_
  refine vr_astore_n (pc := 7) hc dL_law_7 (by decide) rfl ?_
  refine vk_new (pc := 8) hc (vz_tc ++ [(9, 0, vz_r0 9)]) (by decide +kernel) rfl dL_law_8 nc_L_10 vs_zc (by decide) ⟨Nat.le_of_ble_eq_true rfl, Nat.le_of_ble_eq_true rfl⟩ ?_
  refine vr_dup (pc := 11) hc dL_law_11 rfl ?_
  refine vr_callI (pc := 12) hc dL_law_12 mi_X9 mj_L_12 (k_X9 z _ vz_tc 108 (by decide +kernel) (by decide) vz_sc vs_zc (vz_tc ++ [(9, 0, vz_r0 9)]) vz_tab rfl (by decide +kernel)) rfl (by decide) rfl (Nat.le_of_ble_eq_true rfl) ⟨Nat.le_of_ble_eq_true rfl, Nat.le_of_ble_eq_true rfl⟩ ?_
  refine vr_astore_n (pc := 15) hc dL_law_15 (by decide) rfl ?_
  refine vr_iconst (pc := 16) hc dL_law_16 (0 : Int32) (by decide) ?_
  refine vr_istore_n (pc := 17) hc dL_law_17 (by decide) rfl ?_
  exact vz_sub (vl_loop hs hc hXl hr hlocks hL 2566 0 (by decide) (by decide) vs_0 h0) (vz_sb1 rfl (vz_sb1 rfl (vz_sb1 rfl (vz_sb1 rfl vz_sb0))))
