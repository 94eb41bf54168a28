/-! pure: the tape, its tokens -/
def ps_re (P : Nat → Bool) : Nat → Nat → Nat
  | 0, p => p
  | f + 1, p => if P p = true then ps_re P f (p + 1) else p
theorem ps_reT {P : Nat → Bool} {f p : Nat} (h : P p = true) : ps_re P (f + 1) p = ps_re P f (p + 1) := if_pos h
theorem ps_reF {P : Nat → Bool} {f p : Nat} (h : ¬ P p = true) : ps_re P (f + 1) p = p := if_neg h
theorem ps_re_spec {P : Nat → Bool} {n : Nat} (hP : ∀ i, P i = true → i < n) : ∀ f p, p ≤ n → n - p < f → p ≤ ps_re P f p ∧ ps_re P f p ≤ n ∧ ¬ P (ps_re P f p) = true ∧ ∀ i, p ≤ i → i < ps_re P f p → P i = true := by
  intro f
  induction f with
  | zero => intro p _ h; omega
  | succ f ih =>
    intro p hp hf
    by_cases e : P p = true
    · have hlt := hP p e
      obtain ⟨q1, q2, q3, q4⟩ := ih (p + 1) (by omega) (by omega)
      rw [ps_reT e]
      refine ⟨by omega, q2, q3, fun i h1 h2 => ?_⟩
      by_cases z : i = p
      · subst z; exact e
      · exact q4 i (by omega) h2
    · rw [ps_reF e]
      exact ⟨Nat.le_refl _, hp, e, fun i h1 h2 => by omega⟩
def pt_B (n : Nat) (C : Nat → Nat) (i : Nat) : Bool := decide (i < n ∧ C i = 32)
def pt_L (n : Nat) (C : Nat → Nat) (i : Nat) : Bool := decide (i < n ∧ 97 ≤ C i ∧ C i ≤ 122)
def pt_D (n : Nat) (C : Nat → Nat) (i : Nat) : Bool := decide (i < n ∧ 48 ≤ C i ∧ C i ≤ 57)
theorem pt_B_iff {n : Nat} {C : Nat → Nat} {i : Nat} : pt_B n C i = true ↔ i < n ∧ C i = 32 := by simp only [pt_B, decide_eq_true_eq]
theorem pt_L_iff {n : Nat} {C : Nat → Nat} {i : Nat} : pt_L n C i = true ↔ i < n ∧ 97 ≤ C i ∧ C i ≤ 122 := by simp only [pt_L, decide_eq_true_eq]
theorem pt_D_iff {n : Nat} {C : Nat → Nat} {i : Nat} : pt_D n C i = true ↔ i < n ∧ 48 ≤ C i ∧ C i ≤ 57 := by simp only [pt_D, decide_eq_true_eq]
def pt_by (n : Nat) (C : Nat → Nat) (p : Nat) : Int32 := if p < n then nI (C p) else -4
def pt_T8 (n : Nat) (C : Nat → Nat) (σ : vz_I) : Prop := n ≤ 160 ∧ σ 2 0 = nI n ∧ ∀ i, i < n → C i < 128 ∧ σ 3 i = nI (C i)
def pt_T9 (n : Nat) (C : Nat → Nat) (σ : vz_I) : Prop := n ≤ 160 ∧ σ 108 8 = nI n ∧ ∀ i, i < n → C i < 128 ∧ σ 111 i = nI (C i)
theorem pt_T8_fr {n : Nat} {C : Nat → Nat} {σ σ' : vz_I} (h : pt_T8 n C σ) (h2 : σ' 2 = σ 2) (h3 : σ' 3 = σ 3) : pt_T8 n C σ' := ⟨h.1, by rw [h2]; exact h.2.1, fun i hi => ⟨(h.2.2 i hi).1, by rw [h3]; exact (h.2.2 i hi).2⟩⟩
theorem pt_T9_fr {n : Nat} {C : Nat → Nat} {σ σ' : vz_I} (h : pt_T9 n C σ) (h2 : σ' 108 8 = σ 108 8) (h3 : σ' 111 = σ 111) : pt_T9 n C σ' := ⟨h.1, by rw [h2]; exact h.2.1, fun i hi => ⟨(h.2.2 i hi).1, by rw [h3]; exact (h.2.2 i hi).2⟩⟩
theorem pt_b8 {n : Nat} {C : Nat → Nat} {σ : vz_I} {p : Nat} (h : pt_T8 n C σ) (hp : p < 1000) : f_X5_byteAt (nI p) σ = some (pt_by n C p) := by
  have h1 := h.1
  unfold f_X5_byteAt pt_by
  rw [if_neg (nI_pos (by omega)), h.2.1]
  by_cases e : p < n
  · rw [if_neg (nI_ge e (by omega)), if_pos ((ps_in (by omega)).mpr (by omega)), nI_clamp (by omega), (h.2.2 p e).2, if_pos e]
  · rw [if_pos (nI_le (by omega) (by omega)), if_neg e]
theorem pt_b9 {n : Nat} {C : Nat → Nat} {σ : vz_I} {p : Nat} (h : pt_T9 n C σ) (hp : p < 1000) : f_X9_byteAt (nI p) σ = some (pt_by n C p) := by
  have h1 := h.1
  unfold f_X9_byteAt pt_by
  rw [h.2.1]
  by_cases e : p < n
  · rw [if_neg (nI_ge e (by omega)), if_pos ((ps_in (by omega)).mpr (by omega)), nI_clamp (by omega), (h.2.2 p e).2, if_pos e]
  · rw [if_pos (nI_le (by omega) (by omega)), if_neg e]
theorem pt_by_eq {n : Nat} {C : Nat → Nat} {p c : Nat} (hC : ∀ i, i < n → C i < 128) (hc : c < 128) : pt_by n C p = nI c ↔ p < n ∧ C p = c := by
  unfold pt_by
  by_cases e : p < n
  · have := hC p e
    rw [if_pos e, nI_eq (by omega) (by omega)]
    exact ⟨fun h => ⟨e, h⟩, fun h => h.2⟩
  · rw [if_neg e]
    exact ⟨fun h => absurd h.symm (ps_n4 (by omega)), fun h => absurd h.1 e⟩
theorem pt_by32 {n : Nat} {C : Nat → Nat} {p : Nat} (hC : ∀ i, i < n → C i < 128) : pt_by n C p = (32 : Int32) ↔ p < n ∧ C p = 32 := pt_by_eq (c := 32) hC (by omega)
theorem pt_by59 {n : Nat} {C : Nat → Nat} {p : Nat} (hC : ∀ i, i < n → C i < 128) : pt_by n C p = (59 : Int32) ↔ p < n ∧ C p = 59 := pt_by_eq (c := 59) hC (by omega)
theorem pt_by_n {n : Nat} {C : Nat → Nat} {p : Nat} (hC : ∀ i, i < n → C i < 128) : pt_by n C p = -4 ↔ n ≤ p := by
  unfold pt_by
  by_cases e : p < n
  · have := hC p e
    rw [if_pos e]
    exact ⟨fun h => absurd h (ps_n4 (by omega)), fun h => by omega⟩
  · rw [if_neg e]
    exact ⟨fun _ => by omega, fun _ => rfl⟩
theorem pt_by_i {n : Nat} {C : Nat → Nat} {p : Nat} (hC : ∀ i, i < n → C i < 128) : (pt_by n C p).toInt = if p < n then (C p : Int) else -4 := by
  unfold pt_by
  by_cases e : p < n
  · have := hC p e
    rw [if_pos e, if_pos e, nI_toInt (by omega)]
  · rw [if_neg e, if_neg e]
    decide
theorem pt_let8 {n : Nat} {C : Nat → Nat} {p : Nat} (hC : ∀ i, i < n → C i < 128) : f_X6_isLetter (pt_by n C p) = if pt_L n C p = true then 1 else 0 := by
  have q := pt_by_i (p := p) hC
  unfold f_X6_isLetter
  simp only [Int32.lt_iff_toInt_lt, q, pt_L_iff, show (97 : Int32).toInt = 97 by decide, show (122 : Int32).toInt = 122 by decide]
  by_cases e : p < n
  · simp only [if_pos e]
    by_cases z : 97 ≤ C p
    · rw [if_neg (by omega)]
      by_cases y : C p ≤ 122
      · rw [if_neg (by omega), if_pos ⟨e, z, y⟩]
      · rw [if_pos (by omega), if_neg (fun w => y w.2.2)]
    · rw [if_pos (by omega), if_neg (fun w => z w.2.1)]
  · simp only [if_neg e]
    rw [if_pos (by omega), if_neg (fun w => e w.1)]
theorem pt_fig8 {n : Nat} {C : Nat → Nat} {p : Nat} (hC : ∀ i, i < n → C i < 128) : f_X6_isFigure (pt_by n C p) = if pt_D n C p = true then 1 else 0 := by
  have q := pt_by_i (p := p) hC
  unfold f_X6_isFigure
  simp only [Int32.lt_iff_toInt_lt, q, pt_D_iff, show (48 : Int32).toInt = 48 by decide, show (57 : Int32).toInt = 57 by decide]
  by_cases e : p < n
  · simp only [if_pos e]
    by_cases z : 48 ≤ C p
    · rw [if_neg (by omega)]
      by_cases y : C p ≤ 57
      · rw [if_neg (by omega), if_pos ⟨e, z, y⟩]
      · rw [if_pos (by omega), if_neg (fun w => y w.2.2)]
    · rw [if_pos (by omega), if_neg (fun w => z w.2.1)]
  · simp only [if_neg e]
    rw [if_pos (by omega), if_neg (fun w => e w.1)]
theorem pt_let9 {n : Nat} {C : Nat → Nat} {p : Nat} (hC : ∀ i, i < n → C i < 128) : f_X9_in (pt_by n C p).toInt64 97 122 = if pt_L n C p = true then 1 else 0 := by
  rw [ps_i, ps_x64, pt_by_i hC, show (97 : Int64).toInt = 97 by decide, show (122 : Int64).toInt = 122 by decide]
  simp only [pt_L_iff]
  by_cases e : p < n
  · simp only [if_pos e]
    by_cases z : 97 ≤ C p ∧ C p ≤ 122
    · rw [if_pos (by omega), if_pos ⟨e, z⟩]
    · rw [if_neg (by omega), if_neg (fun w => z w.2)]
  · simp only [if_neg e]
    rw [if_neg (by omega), if_neg (fun w => e w.1)]
theorem pt_fig9 {n : Nat} {C : Nat → Nat} {p : Nat} (hC : ∀ i, i < n → C i < 128) : f_X9_in (pt_by n C p).toInt64 48 57 = if pt_D n C p = true then 1 else 0 := by
  rw [ps_i, ps_x64, pt_by_i hC, show (48 : Int64).toInt = 48 by decide, show (57 : Int64).toInt = 57 by decide]
  simp only [pt_D_iff]
  by_cases e : p < n
  · simp only [if_pos e]
    by_cases z : 48 ≤ C p ∧ C p ≤ 57
    · rw [if_pos (by omega), if_pos ⟨e, z⟩]
    · rw [if_neg (by omega), if_neg (fun w => z w.2)]
  · simp only [if_neg e]
    rw [if_neg (by omega), if_neg (fun w => e w.1)]
/-! a token: its place, its kind (4: none), its end, its value -/
def pt_s (n : Nat) (C : Nat → Nat) (p : Nat) : Nat := ps_re (pt_B n C) 200 p
def pt_dn (n : Nat) (C : Nat → Nat) (s : Nat) : Nat := ps_re (pt_D n C) 200 s
def pt_ln (n : Nat) (C : Nat → Nat) (s : Nat) : Nat := ps_re (pt_L n C) 200 s
def pt_k (n : Nat) (C : Nat → Nat) (p : Nat) : Nat := if n ≤ pt_s n C p then 0 else if C (pt_s n C p) = 59 then 3 else if pt_L n C (pt_s n C p) = true then 1 else if pt_D n C (pt_s n C p) = true then (if pt_dn n C (pt_s n C p) ≤ pt_s n C p + 2 then 2 else 4) else 4
def pt_e (n : Nat) (C : Nat → Nat) (p : Nat) : Nat := if n ≤ pt_s n C p then pt_s n C p else if C (pt_s n C p) = 59 then pt_s n C p + 1 else if pt_L n C (pt_s n C p) = true then pt_ln n C (pt_s n C p) else if pt_D n C (pt_s n C p) = true then pt_dn n C (pt_s n C p) else pt_s n C p + 1
def pt_dv (C : Nat → Nat) (s : Nat) : Nat → Nat
  | 0 => 0
  | j + 1 => 10 * pt_dv C s j + C (s + j) - 48
def pt_v (n : Nat) (C : Nat → Nat) (p : Nat) : Nat := pt_dv C (pt_s n C p) (pt_dn n C (pt_s n C p) - pt_s n C p)
theorem pt_s_spec {n : Nat} {C : Nat → Nat} {p : Nat} (hn : n ≤ 160) (hp : p ≤ n) : p ≤ pt_s n C p ∧ pt_s n C p ≤ n ∧ ¬ pt_B n C (pt_s n C p) = true := by
  obtain ⟨q1, q2, q3, q4⟩ := ps_re_spec (P := pt_B n C) (n := n) (fun i h => (pt_B_iff.mp h).1) 200 p hp (by omega)
  exact ⟨q1, q2, q3⟩
theorem pt_dn_spec {n : Nat} {C : Nat → Nat} {s : Nat} (hn : n ≤ 160) (hs : s ≤ n) : s ≤ pt_dn n C s ∧ pt_dn n C s ≤ n ∧ (pt_D n C s = true → s < pt_dn n C s) ∧ ∀ i, s ≤ i → i < pt_dn n C s → pt_D n C i = true := by
  obtain ⟨q1, q2, q3, q4⟩ := ps_re_spec (P := pt_D n C) (n := n) (fun i h => (pt_D_iff.mp h).1) 200 s hs (by omega)
  refine ⟨q1, q2, fun h => ?_, q4⟩
  rcases Nat.lt_or_ge s (pt_dn n C s) with z | z
  · exact z
  · have e : ps_re (pt_D n C) 200 s = s := Nat.le_antisymm z q1
    rw [e] at q3
    exact absurd h q3
theorem pt_ln_spec {n : Nat} {C : Nat → Nat} {s : Nat} (hn : n ≤ 160) (hs : s ≤ n) : s ≤ pt_ln n C s ∧ pt_ln n C s ≤ n ∧ (pt_L n C s = true → s < pt_ln n C s) := by
  obtain ⟨q1, q2, q3, q4⟩ := ps_re_spec (P := pt_L n C) (n := n) (fun i h => (pt_L_iff.mp h).1) 200 s hs (by omega)
  refine ⟨q1, q2, fun h => ?_⟩
  rcases Nat.lt_or_ge s (pt_ln n C s) with z | z
  · exact z
  · have e : ps_re (pt_L n C) 200 s = s := Nat.le_antisymm z q1
    rw [e] at q3
    exact absurd h q3
theorem pt_e_spec {n : Nat} {C : Nat → Nat} {p : Nat} (hn : n ≤ 160) (hp : p ≤ n) : pt_s n C p ≤ pt_e n C p ∧ pt_e n C p ≤ n ∧ (pt_k n C p = 0 → pt_s n C p = n) ∧ (pt_k n C p ≠ 0 → pt_s n C p < pt_e n C p ∧ pt_s n C p < n) := by
  obtain ⟨s1, s2, -⟩ := pt_s_spec (C := C) hn hp
  obtain ⟨d1, d2, d3, -⟩ := pt_dn_spec (C := C) hn s2
  obtain ⟨l1, l2, l3⟩ := pt_ln_spec (C := C) hn s2
  unfold pt_e pt_k
  by_cases e : n ≤ pt_s n C p
  · rw [if_pos e, if_pos e]
    exact ⟨Nat.le_refl _, s2, fun _ => by omega, fun h => absurd rfl h⟩
  · rw [if_neg e, if_neg e]
    by_cases e2 : C (pt_s n C p) = 59
    · rw [if_pos e2, if_pos e2]
      exact ⟨by omega, by omega, fun h => by omega, fun _ => by omega⟩
    · rw [if_neg e2, if_neg e2]
      by_cases e3 : pt_L n C (pt_s n C p) = true
      · rw [if_pos e3, if_pos e3]
        have := l3 e3
        exact ⟨by omega, by omega, fun h => by omega, fun _ => by omega⟩
      · rw [if_neg e3, if_neg e3]
        by_cases e4 : pt_D n C (pt_s n C p) = true
        · rw [if_pos e4, if_pos e4]
          have := d3 e4
          exact ⟨by omega, by omega, fun h => by split at h <;> omega, fun _ => by omega⟩
        · rw [if_neg e4, if_neg e4]
          exact ⟨by omega, by omega, fun h => by omega, fun _ => by omega⟩
theorem pt_v_lt {n : Nat} {C : Nat → Nat} {p : Nat} (hn : n ≤ 160) (hp : p ≤ n) (h : pt_k n C p = 2) : pt_v n C p < 100 := by
  obtain ⟨s1, s2, -⟩ := pt_s_spec (C := C) hn hp
  obtain ⟨d1, d2, d3, d4⟩ := pt_dn_spec (C := C) hn s2
  unfold pt_k at h
  by_cases e : n ≤ pt_s n C p
  · rw [if_pos e] at h; omega
  · rw [if_neg e] at h
    by_cases e2 : C (pt_s n C p) = 59
    · rw [if_pos e2] at h; omega
    · rw [if_neg e2] at h
      by_cases e3 : pt_L n C (pt_s n C p) = true
      · rw [if_pos e3] at h; omega
      · rw [if_neg e3] at h
        by_cases e4 : pt_D n C (pt_s n C p) = true
        · rw [if_pos e4] at h
          by_cases e5 : pt_dn n C (pt_s n C p) ≤ pt_s n C p + 2
          · have l3 := d3 e4
            unfold pt_v
            have c0 := pt_D_iff.mp e4
            rcases (show pt_dn n C (pt_s n C p) - pt_s n C p = 1 ∨ pt_dn n C (pt_s n C p) - pt_s n C p = 2 by omega) with z | z
            · rw [z]
              show 10 * 0 + C (pt_s n C p + 0) - 48 < 100
              rw [Nat.add_zero]
              omega
            · have c1 := pt_D_iff.mp (d4 (pt_s n C p + 1) (by omega) (by omega))
              rw [z]
              show 10 * (10 * 0 + C (pt_s n C p + 0) - 48) + C (pt_s n C p + 1) - 48 < 100
              rw [Nat.add_zero]
              omega
          · rw [if_neg e5] at h; omega
        · rw [if_neg e4] at h; omega
/-! the class reads a token -/
theorem pt_bl8 {n : Nat} {C : Nat → Nat} : ∀ (m p f : Nat) (σ : vz_I), pt_T8 n C σ → σ 1 2 = nI p → p ≤ n → n - p < m → n - p < f → ∃ σ', f_X6_readToken_0 m σ = f_X6_readToken_43 σ' ∧ σ' 1 2 = nI (ps_re (pt_B n C) f p) ∧ (∀ b, b ≠ 1 → σ' b = σ b) ∧ ∀ j, j ≠ 2 → σ' 1 j = σ 1 j := by
  intro m
  induction m with
  | zero => intro p f σ _ _ _ h; omega
  | succ m ih =>
    intro p f σ hT h2 hp hm hf
    have hn := hT.1
    have hC : ∀ i, i < n → C i < 128 := fun i hi => (hT.2.2 i hi).1
    obtain ⟨f, rfl⟩ : ∃ g, f = g + 1 := ⟨f - 1, by omega⟩
    rw [f_X6_readToken_0_s, hT.2.1, h2]
    by_cases e : n ≤ p
    · rw [if_pos (nI_le e (by omega)), ps_reF (fun w => by have := (pt_B_iff.mp w).1; omega)]
      exact ⟨σ, rfl, h2, fun _ _ => rfl, fun _ _ => rfl⟩
    · rw [if_neg (nI_ge (by omega) (by omega)), pt_b8 hT (by omega), vz_b1]
      by_cases z : C p = 32
      · rw [if_pos ((pt_by32 hC).mpr ⟨by omega, z⟩), nI_1, ps_reT (pt_B_iff.mpr ⟨by omega, z⟩)]
        obtain ⟨σ', q1, q2, q3, q4⟩ := ih (p + 1) f (vz_up σ 1 2 (nI (p + 1))) (pt_T8_fr hT (vz_up_ne _ _ _ (by omega)) (vz_up_ne _ _ _ (by omega))) (ps_upS _ _ _ _) (by omega) (by omega) (by omega)
        exact ⟨σ', q1, q2, fun b hb => by rw [q3 b hb, vz_up_ne _ _ _ hb], fun j hj => by rw [q4 j hj, ps_upN _ _ hj]⟩
      · rw [if_neg (fun w => z ((pt_by32 hC).mp w).2), ps_reF (fun w => z (pt_B_iff.mp w).2)]
        exact ⟨σ, rfl, h2, fun _ _ => rfl, fun _ _ => rfl⟩
theorem pt_l8 {n : Nat} {C : Nat → Nat} : ∀ (m p f : Nat) (σ : vz_I), pt_T8 n C σ → σ 1 2 = nI p → p ≤ n → n - p < m → n - p < f → ∃ σ', f_X6_readToken_111 m σ = some (1, σ') ∧ σ' 1 2 = nI (ps_re (pt_L n C) f p) ∧ (∀ b, b ≠ 1 → σ' b = σ b) ∧ ∀ j, j ≠ 2 → σ' 1 j = σ 1 j := by
  intro m
  induction m with
  | zero => intro p f σ _ _ _ h; omega
  | succ m ih =>
    intro p f σ hT h2 hp hm hf
    have hn := hT.1
    have hC : ∀ i, i < n → C i < 128 := fun i hi => (hT.2.2 i hi).1
    obtain ⟨f, rfl⟩ : ∃ g, f = g + 1 := ⟨f - 1, by omega⟩
    rw [f_X6_readToken_111_s, hT.2.1, h2]
    by_cases e : n ≤ p
    · rw [if_pos (nI_le e (by omega)), ps_reF (fun w => by have := (pt_L_iff.mp w).1; omega)]
      exact ⟨σ, rfl, h2, fun _ _ => rfl, fun _ _ => rfl⟩
    · rw [if_neg (nI_ge (by omega) (by omega)), pt_b8 hT (by omega), vz_b1, pt_let8 hC]
      by_cases z : pt_L n C p = true
      · rw [if_pos z, if_neg ps_10, nI_1, ps_reT z]
        obtain ⟨σ', q1, q2, q3, q4⟩ := ih (p + 1) f (vz_up σ 1 2 (nI (p + 1))) (pt_T8_fr hT (vz_up_ne _ _ _ (by omega)) (vz_up_ne _ _ _ (by omega))) (ps_upS _ _ _ _) (by omega) (by omega) (by omega)
        exact ⟨σ', q1, q2, fun b hb => by rw [q3 b hb, vz_up_ne _ _ _ hb], fun j hj => by rw [q4 j hj, ps_upN _ _ hj]⟩
      · rw [if_neg z, if_pos rfl, ps_reF z]
        exact ⟨σ, rfl, h2, fun _ _ => rfl, fun _ _ => rfl⟩
theorem pt_dig {x c : Nat} (hc : 48 ≤ c) : ((10 : Int32) * nI x) + nI c - (48 : Int32) = nI (10 * x + c - 48) := by
  rw [show (10 : Int32) * nI x = nI (10 * x) from pk_mul 10 x, nI_add, show nI (10 * x + c) - (48 : Int32) = nI (10 * x + c - 48) from pk_sub (b := 48) (by omega)]
theorem pt_d8 {n s : Nat} {C : Nat → Nat} : ∀ (m j f : Nat) (σ : vz_I), pt_T8 n C σ → σ 1 2 = nI (s + j) → σ 1 5 = nI (pt_dv C s j) → s + j ≤ n → n - (s + j) < m → n - (s + j) < f → ∃ σ', f_X6_readToken_167 m σ = f_X6_readToken_237 σ' ∧ σ' 1 2 = nI (ps_re (pt_D n C) f (s + j)) ∧ σ' 1 5 = nI (pt_dv C s (ps_re (pt_D n C) f (s + j) - s)) ∧ (∀ b, b ≠ 1 → σ' b = σ b) ∧ ∀ i, i ≠ 2 → i ≠ 5 → σ' 1 i = σ 1 i := by
  intro m
  induction m with
  | zero => intro j f σ _ _ _ _ h; omega
  | succ m ih =>
    intro j f σ hT h2 h5 hp hm hf
    have hn := hT.1
    have hC : ∀ i, i < n → C i < 128 := fun i hi => (hT.2.2 i hi).1
    obtain ⟨f, rfl⟩ : ∃ g, f = g + 1 := ⟨f - 1, by omega⟩
    rw [f_X6_readToken_167_s, hT.2.1, h2]
    by_cases e : n ≤ s + j
    · rw [if_pos (nI_le e (by omega)), ps_reF (fun w => by have := (pt_D_iff.mp w).1; omega)]
      exact ⟨σ, rfl, h2, by rw [h5, show s + j - s = j by omega], fun _ _ => rfl, fun _ _ _ => rfl⟩
    · rw [if_neg (nI_ge (by omega) (by omega)), pt_b8 hT (by omega), vz_b1, pt_fig8 hC]
      by_cases z : pt_D n C (s + j) = true
      · obtain ⟨z1, z2, z3⟩ := pt_D_iff.mp z
        rw [if_pos z, if_neg ps_10, vz_b1, vz_let, h5, show pt_by n C (s + j) = nI (C (s + j)) from if_pos z1, pt_dig z2, ps_upN _ _ (by omega), h2, nI_1, ps_reT z]
        obtain ⟨σ', q1, q2, q3, q4, q5⟩ := ih (j + 1) f (vz_up (vz_up σ 1 5 (nI (10 * pt_dv C s j + C (s + j) - 48))) 1 2 (nI (s + j + 1))) (pt_T8_fr hT (by rw [vz_up_ne _ _ _ (by omega), vz_up_ne _ _ _ (by omega)]) (by rw [vz_up_ne _ _ _ (by omega), vz_up_ne _ _ _ (by omega)])) (ps_upS _ _ _ _) (by rw [ps_upN _ _ (by omega), ps_upS]; rfl) (by omega) (by omega) (by omega)
        exact ⟨σ', q1, q2, q3, fun b hb => by rw [q4 b hb, vz_up_ne _ _ _ hb, vz_up_ne _ _ _ hb], fun i h1 h2 => by rw [q5 i h1 h2, ps_upN _ _ h1, ps_upN _ _ h2]⟩
      · rw [if_neg z, if_pos rfl, ps_reF z]
        exact ⟨σ, rfl, h2, by rw [h5, show s + j - s = j by omega], fun _ _ => rfl, fun _ _ _ => rfl⟩
/-- what the class has behind a token -/
def pt_r8 (n : Nat) (C : Nat → Nat) (p : Nat) (σ σ' : vz_I) : Prop := (∀ b, b ≠ 1 → σ' b = σ b) ∧ σ' 1 6 = σ 1 6 ∧ (pt_k n C p = 4 → σ' 1 7 = 1 ∧ σ' 1 8 = nI (pt_s n C p)) ∧ (pt_k n C p ≠ 4 → σ' 1 7 = σ 1 7 ∧ σ' 1 2 = nI (pt_e n C p) ∧ σ' 1 3 = nI (pt_k n C p) ∧ σ' 1 4 = nI (pt_s n C p) ∧ (pt_k n C p = 2 → σ' 1 5 = nI (pt_v n C p)))
theorem pt_237 {σ : vz_I} {s e : Nat} (he : e ≤ 160) (hs : s ≤ e) (h2 : σ 1 2 = nI e) (h4 : σ 1 4 = nI s) : f_X6_readToken_237 σ = if 1 ≤ e - s ∧ e - s ≤ 2 then some (1, σ) else some (0, vz_up (vz_up σ 1 7 1) 1 8 (nI s)) := by
  unfold f_X6_readToken_237
  rw [h2, h4, pk_sub hs, ps_w, nI_toInt (by omega), show (1 : Int32).toInt = 1 by decide, show (2 : Int32).toInt = 2 by decide]
  by_cases z : 1 ≤ e - s ∧ e - s ≤ 2
  · rw [if_pos z, if_pos (show (1 : Int) ≤ ((e - s : Nat) : Int) ∧ ((e - s : Nat) : Int) ≤ 2 by omega), if_neg ps_10]
  · rw [if_neg z, if_neg (show ¬ ((1 : Int) ≤ ((e - s : Nat) : Int) ∧ ((e - s : Nat) : Int) ≤ 2) by omega), if_pos rfl]
    rfl
theorem pt_tk8 {n : Nat} {C : Nat → Nat} {σ : vz_I} {p : Nat} (hT : pt_T8 n C σ) (h2 : σ 1 2 = nI p) (hp : p ≤ n) : ∃ σ', f_X6_readToken σ = some (if pt_k n C p = 4 then 0 else 1, σ') ∧ pt_r8 n C p σ σ' := by
  have hn := hT.1
  have hC : ∀ i, i < n → C i < 128 := fun i hi => (hT.2.2 i hi).1
  have fu : vz_fu = 1000000 := rfl
  obtain ⟨s1, s2, s3⟩ := pt_s_spec (C := C) hn hp
  obtain ⟨τ, t1, t2, t3, t4⟩ := pt_bl8 vz_fu p 200 σ hT h2 hp (by omega) (by omega)
  have t2' : τ 1 2 = nI (pt_s n C p) := t2
  have e43 : f_X6_readToken σ = f_X6_readToken_43 τ := t1
  have hT4 : ∀ x, pt_T8 n C (vz_up τ 1 4 x) := fun x => pt_T8_fr hT (by rw [vz_up_ne _ _ _ (by omega), t3 2 (by omega)]) (by rw [vz_up_ne _ _ _ (by omega), t3 3 (by omega)])
  rw [e43]
  unfold f_X6_readToken_43
  rw [ps_upN _ _ (show 2 ≠ 4 by omega), t2', pt_b8 (hT4 _) (by omega), vz_b1]
  unfold pt_r8
  by_cases e : n ≤ pt_s n C p
  · have hk : pt_k n C p = 0 := if_pos e
    have he : pt_e n C p = pt_s n C p := if_pos e
    rw [if_pos ((pt_by_n hC).mpr e), hk, he, if_neg (by omega)]
    refine ⟨_, rfl, fun b hb => ?_, ?_, fun h => by omega, fun _ => ⟨?_, ?_, ?_, ?_, fun h => by omega⟩⟩
    · rw [vz_up_ne _ _ _ hb, vz_up_ne _ _ _ hb, t3 b hb]
    · rw [ps_upN _ _ (by omega), ps_upN _ _ (by omega), t4 6 (by omega)]
    · rw [ps_upN _ _ (by omega), ps_upN _ _ (by omega), t4 7 (by omega)]
    · rw [ps_upN _ _ (by omega), ps_upN _ _ (by omega), t2']
    · rw [ps_upS]; rfl
    · rw [ps_upN _ _ (by omega), ps_upS]
  · rw [if_neg (fun w => e ((pt_by_n hC).mp w))]
    by_cases e2 : C (pt_s n C p) = 59
    · have hk : pt_k n C p = 3 := by unfold pt_k; rw [if_neg e, if_pos e2]
      have he : pt_e n C p = pt_s n C p + 1 := by unfold pt_e; rw [if_neg e, if_pos e2]
      rw [if_pos ((pt_by59 hC).mpr ⟨by omega, e2⟩), vz_let, hk, he, if_neg (by omega)]
      refine ⟨_, rfl, fun b hb => ?_, ?_, fun h => by omega, fun _ => ⟨?_, ?_, ?_, ?_, fun h => by omega⟩⟩
      · rw [vz_up_ne _ _ _ hb, vz_up_ne _ _ _ hb, vz_up_ne _ _ _ hb, t3 b hb]
      · rw [ps_upN _ _ (by omega), ps_upN _ _ (by omega), ps_upN _ _ (by omega), t4 6 (by omega)]
      · rw [ps_upN _ _ (by omega), ps_upN _ _ (by omega), ps_upN _ _ (by omega), t4 7 (by omega)]
      · rw [ps_upS, ps_upN _ _ (by omega), ps_upN _ _ (by omega), t2', nI_1]
      · rw [ps_upN _ _ (by omega), ps_upS]; rfl
      · rw [ps_upN _ _ (by omega), ps_upN _ _ (by omega), ps_upS]
    · rw [if_neg (fun w => e2 ((pt_by59 hC).mp w).2), pt_let8 hC]
      by_cases e3 : pt_L n C (pt_s n C p) = true
      · have hk : pt_k n C p = 1 := by unfold pt_k; rw [if_neg e, if_neg e2, if_pos e3]
        have he : pt_e n C p = pt_ln n C (pt_s n C p) := by unfold pt_e; rw [if_neg e, if_neg e2, if_pos e3]
        rw [if_pos e3, if_neg ps_10, hk, he, if_neg (by omega)]
        obtain ⟨σ', q1, q2, q3, q4⟩ := pt_l8 vz_fu (pt_s n C p) 200 (vz_up (vz_up τ 1 4 (nI (pt_s n C p))) 1 3 1) (pt_T8_fr (hT4 _) (vz_up_ne _ _ _ (by omega)) (vz_up_ne _ _ _ (by omega))) (by rw [ps_upN _ _ (by omega), ps_upN _ _ (by omega), t2']) s2 (by omega) (by omega)
        refine ⟨σ', q1, fun b hb => ?_, ?_, fun h => by omega, fun _ => ⟨?_, q2, ?_, ?_, fun h => by omega⟩⟩
        · rw [q3 b hb, vz_up_ne _ _ _ hb, vz_up_ne _ _ _ hb, t3 b hb]
        · rw [q4 6 (by omega), ps_upN _ _ (by omega), ps_upN _ _ (by omega), t4 6 (by omega)]
        · rw [q4 7 (by omega), ps_upN _ _ (by omega), ps_upN _ _ (by omega), t4 7 (by omega)]
        · rw [q4 3 (by omega), ps_upS]; rfl
        · rw [q4 4 (by omega), ps_upN _ _ (by omega), ps_upS]
      · rw [if_neg e3, if_pos rfl, vz_let]
        obtain ⟨d1, d2, d3, d4⟩ := pt_dn_spec (C := C) hn s2
        obtain ⟨σ', q1, q2, q3, q4, q5⟩ := pt_d8 (s := pt_s n C p) vz_fu 0 200 (vz_up (vz_up (vz_up τ 1 4 (nI (pt_s n C p))) 1 3 2) 1 5 0) (pt_T8_fr (hT4 _) (by rw [vz_up_ne _ _ _ (by omega), vz_up_ne _ _ _ (by omega)]) (by rw [vz_up_ne _ _ _ (by omega), vz_up_ne _ _ _ (by omega)])) (by rw [ps_upN _ _ (by omega), ps_upN _ _ (by omega), ps_upN _ _ (by omega), t2', Nat.add_zero]) (by rw [ps_upS]; rfl) (by omega) (by omega) (by omega)
        rw [Nat.add_zero] at q2 q3
        have q2' : σ' 1 2 = nI (pt_dn n C (pt_s n C p)) := q2
        have q3' : σ' 1 5 = nI (pt_v n C p) := q3
        have f4 : σ' 1 4 = nI (pt_s n C p) := by rw [q5 4 (by omega) (by omega), ps_upN _ _ (by omega), ps_upN _ _ (by omega), ps_upS]
        have f3 : σ' 1 3 = nI 2 := by rw [q5 3 (by omega) (by omega), ps_upN _ _ (by omega), ps_upS]; rfl
        have fj : ∀ j, 6 ≤ j → σ' 1 j = σ 1 j := fun j hj => by rw [q5 j (by omega) (by omega), ps_upN _ _ (by omega), ps_upN _ _ (by omega), ps_upN _ _ (by omega), t4 j (by omega)]
        have fb : ∀ b, b ≠ 1 → σ' b = σ b := fun b hb => by rw [q4 b hb, vz_up_ne _ _ _ hb, vz_up_ne _ _ _ hb, vz_up_ne _ _ _ hb, t3 b hb]
        have e237 := pt_237 (by omega) d1 q2' f4
        rw [q1, e237]
        by_cases e4 : pt_D n C (pt_s n C p) = true
        · have he : pt_e n C p = pt_dn n C (pt_s n C p) := by unfold pt_e; rw [if_neg e, if_neg e2, if_neg e3, if_pos e4]
          have l3 := d3 e4
          by_cases e5 : pt_dn n C (pt_s n C p) ≤ pt_s n C p + 2
          · have hk : pt_k n C p = 2 := by unfold pt_k; rw [if_neg e, if_neg e2, if_neg e3, if_pos e4, if_pos e5]
            rw [if_pos (by omega), hk, he, if_neg (by omega)]
            exact ⟨σ', rfl, fb, fj 6 (by omega), fun h => by omega, fun _ => ⟨fj 7 (by omega), q2', f3, f4, fun _ => q3'⟩⟩
          · have hk : pt_k n C p = 4 := by unfold pt_k; rw [if_neg e, if_neg e2, if_neg e3, if_pos e4, if_neg e5]
            rw [if_neg (by omega), hk, if_pos rfl]
            refine ⟨_, rfl, fun b hb => ?_, ?_, fun _ => ⟨?_, ps_upS _ _ _ _⟩, fun h => absurd rfl h⟩
            · rw [vz_up_ne _ _ _ hb, vz_up_ne _ _ _ hb, fb b hb]
            · rw [ps_upN _ _ (by omega), ps_upN _ _ (by omega), fj 6 (by omega)]
            · rw [ps_upN _ _ (by omega), ps_upS]
        · have hk : pt_k n C p = 4 := by unfold pt_k; rw [if_neg e, if_neg e2, if_neg e3, if_neg e4]
          have hd : pt_dn n C (pt_s n C p) = pt_s n C p := ps_reF e4
          rw [if_neg (by omega), hk, if_pos rfl]
          refine ⟨_, rfl, fun b hb => ?_, ?_, fun _ => ⟨?_, ps_upS _ _ _ _⟩, fun h => absurd rfl h⟩
          · rw [vz_up_ne _ _ _ hb, vz_up_ne _ _ _ hb, fb b hb]
          · rw [ps_upN _ _ (by omega), ps_upN _ _ (by omega), fj 6 (by omega)]
          · rw [ps_upN _ _ (by omega), ps_upS]
