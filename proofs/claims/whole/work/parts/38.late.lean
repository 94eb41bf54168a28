/-! pure: late, soon -/
def ps_hi (P : Nat → Bool) : Nat → Nat
  | 0 => 1000
  | n + 1 => if P n then n else ps_hi P n
theorem ps_hi_spec (P : Nat → Bool) : ∀ n, n ≤ 60 → (ps_hi P n = 1000 ∧ ∀ t, t < n → P t = false) ∨ (ps_hi P n < n ∧ P (ps_hi P n) = true ∧ ∀ t, ps_hi P n < t → t < n → P t = false) := by
  intro n
  induction n with
  | zero => intro _; exact Or.inl ⟨rfl, fun t h => by omega⟩
  | succ n ih =>
    intro hn
    rw [ps_hi]
    by_cases h : P n = true
    · rw [if_pos h]
      exact Or.inr ⟨by omega, h, fun t _ _ => by omega⟩
    · rw [if_neg h]
      have h' : P n = false := by simpa using h
      rcases ih (by omega) with ⟨h1, h2⟩ | ⟨h1, h2, h3⟩
      · refine Or.inl ⟨h1, fun t ht => ?_⟩
        by_cases e : t = n
        · subst e; exact h'
        · exact h2 t (by omega)
      · refine Or.inr ⟨by omega, h2, fun t q1 q2 => ?_⟩
        by_cases e : t = n
        · subst e; exact h'
        · exact h3 t q1 (by omega)
theorem ps_hi_max (P : Nat → Bool) : ps_hi P 60 < 60 ∨ ps_hi P 60 = 1000 := by
  rcases ps_hi_spec P 60 (by omega) with h | h
  · exact Or.inr h.1
  · exact Or.inl h.1
/-- some minute from t on -/
theorem ps_hi_iff {P : Nat → Bool} {t : Nat} : (∃ s, s < 60 ∧ t ≤ s ∧ P s = true) ↔ (ps_hi P 60 ≠ 1000 ∧ t ≤ ps_hi P 60) := by
  rcases ps_hi_spec P 60 (by omega) with ⟨h1, h2⟩ | ⟨h1, h2, h3⟩
  · constructor
    · rintro ⟨s, q1, q2, q3⟩
      rw [h2 s q1] at q3
      exact absurd q3 (by decide)
    · rintro ⟨q, _⟩; exact absurd h1 q
  · constructor
    · rintro ⟨s, q1, q2, q3⟩
      refine ⟨by omega, ?_⟩
      by_cases e : ps_hi P 60 < s
      · rw [h3 s e q1] at q3; exact absurd q3 (by decide)
      · omega
    · rintro ⟨_, q⟩; exact ⟨_, h1, q, h2⟩
theorem ps_lm_l {j : Int64} {P : Nat → Bool} (hj : ∀ t, t < 60 → ps_b j t = P t) : ∀ (n k : Nat), k ≤ 60 → k < n → f_X8_lastMinute_3 n j (nI k + (-1)) = some (ps_n (ps_hi P k)) := by
  intro n
  induction n with
  | zero => intro k _ h; omega
  | succ n ih =>
    intro k hk hn
    rw [f_X8_lastMinute_3_s]
    rcases Nat.eq_zero_or_pos k with rfl | hpos
    · rw [if_pos (by decide)]
      rfl
    · obtain ⟨k', rfl⟩ : ∃ k', k = k' + 1 := ⟨k - 1, by omega⟩
      rw [pk_m1, if_neg (nI_pos (by omega)), ps_hi]
      by_cases q : P k' = true
      · rw [if_pos ((ps_b_set (by omega)).mpr (by rw [hj _ (by omega)]; exact q)), if_pos q]
        unfold ps_n
        rw [if_neg (by omega)]
      · rw [if_neg (fun z => q (by rw [← hj _ (by omega)]; exact (ps_b_set (by omega)).mp z)), if_neg q]
        exact ih k' (by omega) (by omega)
theorem ps_lm {j : Int64} {P : Nat → Bool} (hj : ∀ t, t < 60 → ps_b j t = P t) : f_X8_lastMinute j = some (ps_n (ps_hi P 60)) :=
  ps_lm_l hj vz_fu 60 (by omega) (by have : vz_fu = 1000000 := rfl; omega)
theorem ps_vmin {a b : Nat} (ha : a < 2 ^ 31) (hb : b < 2 ^ 31) : vz_min (nI a) (nI b) = nI (min a b) := by
  unfold vz_min
  by_cases h : b < a
  · rw [if_pos ((nI_ltI hb ha).mpr h), Nat.min_eq_right (by omega)]
  · rw [if_neg (fun q => h ((nI_ltI hb ha).mp q)), Nat.min_eq_left (by omega)]
theorem ps_P_from {A : ps_T} {h c f u w b t : Nat} : ps_P A h c f u w b t = true ↔ f ≤ t ∧ ps_P A h c 0 u w b t = true := by
  rw [ps_P_iff, ps_P_iff]
  unfold ps_dry
  simp only [Bool.and_eq_true, decide_eq_true_eq]
  constructor
  · rintro ⟨m, q1, q2, q3, ⟨⟨q4, q5⟩, q6⟩, q7⟩
    exact ⟨q4, m, q1, q2, q3, ⟨⟨by omega, q5⟩, q6⟩, q7⟩
  · rintro ⟨q4, m, q1, q2, q3, ⟨⟨_, q5⟩, q6⟩, q7⟩
    exact ⟨m, q1, q2, q3, ⟨⟨q4, q5⟩, q6⟩, q7⟩
theorem ps_P_till {A : ps_T} {h c f u w b t : Nat} (ht : t < 60) : ps_P A h c f u w b t = true ↔ t ≤ u ∧ ps_P A h c f 59 w b t = true := by
  rw [ps_P_iff, ps_P_iff]
  unfold ps_dry
  simp only [Bool.and_eq_true, decide_eq_true_eq]
  constructor
  · rintro ⟨m, q1, q2, q3, ⟨⟨q4, q5⟩, q6⟩, q7⟩
    exact ⟨q5, m, q1, q2, q3, ⟨⟨q4, by omega⟩, q6⟩, q7⟩
  · rintro ⟨q5, m, q1, q2, q3, ⟨⟨q4, _⟩, q6⟩, q7⟩
    exact ⟨m, q1, q2, q3, ⟨⟨q4, q5⟩, q6⟩, q7⟩
theorem ps_L_ne {A : ps_T} {h c f u w b : Nat} : ps_L A h c f u w b ≠ 1000 ↔ ∃ t, t < 60 ∧ ps_P A h c f u w b t = true := by
  unfold ps_L
  have m := ps_lo_max (ps_P A h c f u w b)
  have q := ps_lo_iff (P := ps_P A h c f u w b) (l := 59) (by omega)
  constructor
  · intro z
    obtain ⟨t, t1, _, t3⟩ := q.mp (by omega)
    exact ⟨t, t1, t3⟩
  · rintro ⟨t, t1, t3⟩
    have := q.mpr ⟨t, t1, by omega, t3⟩
    omega
theorem ps_W_ne {A : ps_T} {h c f u w : Nat} : ps_W A h c f u w ≠ 1000 ↔ ps_L A h c f u w 0 ≠ 1000 ∧ ps_L A h c f u w 1 ≠ 1000 := by
  unfold ps_W ps_L
  have m0 := ps_lo_max (ps_P A h c f u w 0)
  have m1 := ps_lo_max (ps_P A h c f u w 1)
  constructor
  · intro q; constructor <;> omega
  · rintro ⟨q1, q2⟩; omega
/-- who comes at t knows it whole -/
theorem ps_W_late {A : ps_T} {c u w t : Nat} : ps_W A 0 c t u w ≠ 1000 ↔ (ps_hi (ps_P A 0 c 0 u w 0) 60 ≠ 1000 ∧ t ≤ ps_hi (ps_P A 0 c 0 u w 0) 60) ∧ (ps_hi (ps_P A 0 c 0 u w 1) 60 ≠ 1000 ∧ t ≤ ps_hi (ps_P A 0 c 0 u w 1) 60) := by
  rw [ps_W_ne, ps_L_ne, ps_L_ne, ← ps_hi_iff, ← ps_hi_iff]
  constructor
  · rintro ⟨⟨s, s1, s2⟩, ⟨r, r1, r2⟩⟩
    exact ⟨⟨s, s1, (ps_P_from.mp s2).1, (ps_P_from.mp s2).2⟩, ⟨r, r1, (ps_P_from.mp r2).1, (ps_P_from.mp r2).2⟩⟩
  · rintro ⟨⟨s, s1, s2, s3⟩, ⟨r, r1, r2, r3⟩⟩
    exact ⟨⟨s, s1, ps_P_from.mpr ⟨s2, s3⟩⟩, ⟨r, r1, ps_P_from.mpr ⟨r2, r3⟩⟩⟩
def ps_lt (A : ps_T) (c u w : Nat) : Nat := if ps_hi (ps_P A 0 c 0 u w 0) 60 = 1000 ∨ ps_hi (ps_P A 0 c 0 u w 1) 60 = 1000 then 1000 else min (ps_hi (ps_P A 0 c 0 u w 0) 60) (ps_hi (ps_P A 0 c 0 u w 1) 60)
theorem ps_lt_iff {A : ps_T} {c u w t : Nat} : ps_W A 0 c t u w ≠ 1000 ↔ ps_lt A c u w ≠ 1000 ∧ t ≤ ps_lt A c u w := by
  rw [ps_W_late]
  have m0 := ps_hi_max (ps_P A 0 c 0 u w 0)
  have m1 := ps_hi_max (ps_P A 0 c 0 u w 1)
  unfold ps_lt
  split
  · rename_i q
    constructor
    · rintro ⟨q1, q2⟩; omega
    · rintro ⟨q1, q2⟩; omega
  · rename_i q
    constructor
    · rintro ⟨q1, q2⟩; omega
    · rintro ⟨q1, q2⟩; omega
theorem ps_late9 {A : ps_T} {r w : Nat} (hok : ps_Ok A) (hr : r < A 0 1) (hw : w < 10) : ∀ (n k : Nat) (σ : vz_I), ps_E A σ 0 0 → ps_PX σ (fun k => k = 32 + r) → k ≤ A 6 r + 1 → k < n → (ps_lt A (A 4 r) (A 6 r) w = 1000 ∨ ps_lt A (A 4 r) (A 6 r) w < k) → ∃ σ', f_X9_late_35 n (nI r) (nI w) (nI k + (-1)) σ = some (ps_n (ps_lt A (A 4 r) (A 6 r) w), σ') ∧ ps_Q σ σ' := by
  have o2 := hok.2.1
  obtain ⟨k1, k2, k3⟩ := ps_rOk hok hr
  intro n
  induction n with
  | zero => intro k σ _ _ _ h; omega
  | succ n ih =>
    intro k σ hE hX hk hn hl
    rw [f_X9_late_35_s]
    rcases Nat.eq_zero_or_pos k with rfl | hpos
    · rw [if_pos (by decide)]
      refine ⟨σ, ?_, ps_Q_refl σ⟩
      unfold ps_n
      rw [if_pos (by omega)]
    · obtain ⟨t, rfl⟩ : ∃ t, k = t + 1 := ⟨k - 1, by omega⟩
      have hB : ps_Ok (ps_set A (4 + 1) r t) := ps_Ok_rd hok hr (by omega) (by omega) (by omega) (by omega)
      have hM := ps_M_rd (v := t) (s := 1) hok hr (by omega) hE.1
      rw [show 0 + 28 + 4 * 1 + r = 32 + r by omega] at hM
      obtain ⟨υ, u1, u2, u3, u4, u5, u6⟩ := ps_try (A := A) hB hE hX (by omega) hM (ps_setN _ _ (by omega)) (ps_setN _ _ (by omega))
      have k9 := ps_wo (r := r) (w := w) hB u2 (by rw [ps_setN _ _ (by omega)]; exact hr) hw
      rw [ps_W_same (ps_same_rd A (by omega)), show ps_set A (4 + 1) r t 5 r = t from ps_setS _ _ _ _, ps_setN (a := 4) _ _ (by omega), ps_setN (a := 6) _ _ (by omega)] at k9
      rw [pk_m1, if_neg (nI_pos (by omega)), show (276 : Int32) + nI r = nI (276 + r) from nI_add 276 r, if_pos ((ps_in (by omega)).mpr (by omega)), nI_clamp (by omega), show 276 + r = 244 + (32 + r) by omega, u1, vz_b1, k9, vz_b1]
      by_cases z : ps_W A 0 (A 4 r) t (A 6 r) w = 1000
      · rw [if_pos ((ps_never _ _ _ _ _ _).mpr z)]
        have z2 : ¬ (ps_lt A (A 4 r) (A 6 r) w ≠ 1000 ∧ t ≤ ps_lt A (A 4 r) (A 6 r) w) := fun q => ps_lt_iff.mpr q z
        obtain ⟨σ', e1, e2⟩ := ih t υ (ps_E_Q hok hE u3) u4 (by omega) (by omega) (by omega)
        exact ⟨σ', e1, ps_Q_trans u3 e2⟩
      · rw [if_neg (fun q => z ((ps_never _ _ _ _ _ _).mp q))]
        have z2 := ps_lt_iff.mp z
        refine ⟨υ, ?_, u3⟩
        unfold ps_n
        rw [if_neg z2.1, show ps_lt A (A 4 r) (A 6 r) w = t by omega]
theorem ps_hi_u {A : ps_T} {c u w b : Nat} : ps_hi (ps_P A 0 c 0 u w b) 60 = 1000 ∨ ps_hi (ps_P A 0 c 0 u w b) 60 ≤ u := by
  rcases ps_hi_spec (ps_P A 0 c 0 u w b) 60 (by omega) with h | ⟨h1, h2, _⟩
  · exact Or.inl h.1
  · exact Or.inr ((ps_P_till h1).mp h2).1
theorem sm_late : sim_late ps_R := by
  intro σ h x1 x2
  have h' := h
  obtain ⟨⟨A, a1, a2, a3, a4, a5, a6, a7, a8⟩, hP, hF, hS, hX⟩ := h'
  have o2 := a1.2.1
  by_cases hc : 0 ≤ x1.toInt ∧ x1.toInt < A 0 1
  · obtain ⟨r, hr, rfl⟩ := ps_ofM hc
    have hrY := ps_isRdY a1 a5 hr
    obtain ⟨k1, k2, k3⟩ := ps_rOk a1 hr
    obtain ⟨g1, g2, g3⟩ := ps_rcOf a2 hr
    by_cases hd : 0 ≤ x2.toInt ∧ x2.toInt ≤ (9 : Nat)
    · have hd' := hd
      obtain ⟨w, hw, rfl⟩ := ps_ofL hd
      obtain ⟨c0, c1, c2, c3⟩ := ps_rcopy (σ := σ) (a := 63) (c := 21 + 13 + r) (by omega)
      generalize ht : vz_up (f_X3_copyFrom 63 (21 + 13 + r) σ) 63 1 (0 : Int32) = τ
      have t3 : ∀ b, b ≠ 63 → τ b = σ b := fun b hb => by rw [← ht, vz_up_ne _ _ _ hb, c3 b hb]
      have hrc : ps_rc τ 63 (A 4 r) 0 (A 6 r) := ⟨by rw [← ht, ps_upN _ _ (by omega), c0]; exact g1, by rw [← ht, ps_upS]; rfl, by rw [← ht, ps_upN _ _ (by omega), c2]; exact g3⟩
      have hC : ps_C A τ 21 := ps_C_fr a1 a2 (fun b _ _ => t3 b (by omega))
      have q8 : ps_Q σ τ := ps_Q_8 (fun b hb => t3 b (by omega))
      obtain ⟨j0, m1, m2⟩ := ps_mr (b := 0) a1 hC hrc k1 (by omega) k3 (by omega) (show w < 10 by omega)
      obtain ⟨j1, n1, n2⟩ := ps_mr (b := 1) a1 hC hrc k1 (by omega) k3 (by omega) (show w < 10 by omega)
      have m3 := ps_lm (j := j0) (P := ps_P A 0 (A 4 r) 0 (A 6 r) w 0) (fun t ht => ps_biff (by rw [m2 t (by omega)]; exact ⟨fun q => q.2, fun q => ⟨ht, q⟩⟩))
      have n3 := ps_lm (j := j1) (P := ps_P A 0 (A 4 r) 0 (A 6 r) w 1) (fun t ht => ps_biff (by rw [n2 t (by omega)]; exact ⟨fun q => q.2, fun q => ⟨ht, q⟩⟩))
      rw [show nI 0 = (0 : Int32) from rfl] at m1
      rw [show nI 1 = (1 : Int32) from rfl] at n1
      have mm := ps_hi_max (ps_P A 0 (A 4 r) 0 (A 6 r) w 0)
      have nm := ps_hi_max (ps_P A 0 (A 4 r) 0 (A 6 r) w 1)
      have mu := ps_hi_u (A := A) (c := A 4 r) (u := A 6 r) (w := w) (b := 0)
      have nu := ps_hi_u (A := A) (c := A 4 r) (u := A 6 r) (w := w) (b := 1)
      obtain ⟨υ, v1, v2, v3, v4⟩ := ps_244 (σ := τ)
      have hQ2 : ps_Q σ υ := ps_Q_trans q8 v3
      have hE2 := ps_E_Q a1 (ps_E0 a3 a4 a5 hX) hQ2
      have j6 := (hE2.1.2.2.2.2.1 r hr).2.2
      rw [show 0 + 36 + r = 36 + r by omega] at j6
      have hle : ps_lt A (A 4 r) (A 6 r) w = 1000 ∨ ps_lt A (A 4 r) (A 6 r) w < A 6 r + 1 := by
        unfold ps_lt
        split
        · exact Or.inl rfl
        · right; omega
      obtain ⟨ω, w1, w2⟩ := ps_late9 a1 hr (show w < 10 by omega) vz_fu (A 6 r + 1) υ hE2 (v4 _) (by omega) (by have : vz_fu = 1000000 := rfl; omega) hle
      rw [pk_m1] at w1
      refine ⟨ps_n (ps_lt A (A 4 r) (A 6 r) w), τ, ω, ?_, ?_, ps_R_Q h (ps_Q_trans hQ2 w2)⟩
      · unfold f_X8_late
        rw [ps_rdY a1 a2 hr, vz_b1, vz_mo, ps_n8, if_pos hd', if_neg ps_10, ht, m1, vz_b1, m3, vz_b1, n1, vz_b1, n3, vz_b1]
        unfold ps_lt
        by_cases e0 : ps_hi (ps_P A 0 (A 4 r) 0 (A 6 r) w 0) 60 = 1000
        · rw [if_pos ((ps_n_4 mm).mpr e0), if_pos (Or.inl e0)]
          rfl
        · rw [if_neg (fun q => e0 ((ps_n_4 mm).mp q))]
          by_cases e1 : ps_hi (ps_P A 0 (A 4 r) 0 (A 6 r) w 1) 60 = 1000
          · rw [if_pos ((ps_n_4 nm).mpr e1), if_pos (Or.inr e1)]
            rfl
          · rw [if_neg (fun q => e1 ((ps_n_4 nm).mp q)), if_neg (by omega)]
            unfold ps_n
            rw [if_neg e0, if_neg e1, if_neg (by omega), ps_vmin (by omega) (by omega)]
      · have hrY' : f_X9_isReader (nI r) τ = 1 := ps_isRdY a1 (by rw [q8.2.2 2 (by omega)]; exact a5) hr
        unfold f_X9_late
        rw [hrY', if_neg ps_10, ps_n9, if_pos hd', if_neg ps_10, v1, vz_b1, show (36 : Int32) + nI r = nI (36 + r) from nI_add 36 r, if_pos ((ps_in (by omega)).mpr (by omega)), nI_clamp (by omega), j6]
        exact w1
    · refine ⟨-1, σ, σ, ?_, ?_, h⟩
      · simp only [f_X8_late, ps_rdY a1 a2 hr, vz_b1, vz_mo, ps_n8, if_neg hd, if_true]
      · simp only [f_X9_late, hrY, if_neg ps_10, ps_n9, if_neg hd, if_true]
  · refine ⟨-1, σ, σ, ?_, ?_, h⟩
    · simp only [f_X8_late, ps_rdN a1 a2 hc, vz_b1, vz_mo]
    · simp only [f_X9_late, ps_isRd a1 a5, if_neg hc, if_true]
theorem ps_L_till {A : ps_T} {c f u w b : Nat} (hu : u < 60) : ps_L A 0 c f u w b ≠ 1000 ↔ ps_L A 0 c f 59 w b ≤ u := by
  rw [ps_L_ne]
  unfold ps_L
  rw [ps_lo_iff (by omega)]
  constructor
  · rintro ⟨t, t1, t2⟩
    have := (ps_P_till t1).mp t2
    exact ⟨t, t1, this.1, this.2⟩
  · rintro ⟨t, t1, t2, t3⟩
    exact ⟨t, t1, (ps_P_till t1).mpr ⟨t2, t3⟩⟩
theorem ps_W_till {A : ps_T} {c f u w : Nat} (hu : u < 60) : ps_W A 0 c f u w ≠ 1000 ↔ ps_W A 0 c f 59 w ≤ u := by
  rw [ps_W_ne, ps_L_till hu, ps_L_till hu]
  unfold ps_W
  rw [Nat.max_le]
theorem ps_W_from {A : ps_T} {c f u w : Nat} : f ≤ ps_W A 0 c f u w ∨ 1000 < f := by
  by_cases e : ps_W A 0 c f u w = 1000
  · omega
  · left
    have h := (ps_W_ne.mp e).1
    have m := ps_lo_max (ps_P A 0 c f u w 0)
    rcases ps_lo_spec (ps_P A 0 c f u w 0) 60 (by omega) with ⟨h1, _⟩ | ⟨h1, h2, h3, _⟩
    · unfold ps_L at h; exact absurd h1 h
    · have := (ps_P_from.mp h3).1
      unfold ps_W ps_L
      omega
theorem ps_soon9 {A : ps_T} {r w : Nat} (hok : ps_Ok A) (hr : r < A 0 1) (hw : w < 10) : ∀ (n t : Nat) (σ : vz_I), ps_E A σ 0 0 → ps_PX σ (fun k => k = 36 + r) → A 5 r ≤ t → t ≤ 60 → 60 - t < n → t ≤ ps_W A 0 (A 4 r) (A 5 r) 59 w → ∃ σ', f_X9_soon_35 n (nI r) (nI w) (nI t) σ = some (ps_n (ps_W A 0 (A 4 r) (A 5 r) 59 w), σ') ∧ ps_Q σ σ' := by
  have o2 := hok.2.1
  obtain ⟨k1, k2, k3⟩ := ps_rOk hok hr
  have mW := ps_W_max A 0 (A 4 r) (A 5 r) 59 w
  intro n
  induction n with
  | zero => intro k σ _ _ _ _ h; omega
  | succ n ih =>
    intro t σ hE hX h5 ht hn hl
    rw [f_X9_soon_35_s]
    by_cases e : t = 60
    · subst e
      rw [if_pos (by decide)]
      refine ⟨σ, ?_, ps_Q_refl σ⟩
      unfold ps_n
      rw [if_pos (by omega)]
    · have hB : ps_Ok (ps_set A (4 + 2) r t) := ps_Ok_rd hok hr (by omega) (by omega) (by omega) (by omega)
      have hM := ps_M_rd (v := t) (s := 2) hok hr (by omega) hE.1
      rw [show 0 + 28 + 4 * 2 + r = 36 + r by omega] at hM
      obtain ⟨υ, u1, u2, u3, u4, u5, u6⟩ := ps_try (A := A) hB hE hX (by omega) hM (ps_setN _ _ (by omega)) (ps_setN _ _ (by omega))
      have k9 := ps_wo (r := r) (w := w) hB u2 (by rw [ps_setN _ _ (by omega)]; exact hr) hw
      rw [ps_W_same (ps_same_rd A (by omega)), show ps_set A (4 + 2) r t 6 r = t from ps_setS _ _ _ _, ps_setN (a := 4) _ _ (by omega), ps_setN (a := 5) _ _ (by omega)] at k9
      rw [if_neg (show ¬ (60 : Int32) ≤ nI t from nI_ge (b := 60) (by omega) (by omega)), show (280 : Int32) + nI r = nI (280 + r) from nI_add 280 r, if_pos ((ps_in (by omega)).mpr (by omega)), nI_clamp (by omega), show 280 + r = 244 + (36 + r) by omega, u1, vz_b1, k9, vz_b1, nI_1]
      by_cases z : ps_W A 0 (A 4 r) (A 5 r) t w = 1000
      · rw [if_pos ((ps_never _ _ _ _ _ _).mpr z)]
        have z2 : ¬ ps_W A 0 (A 4 r) (A 5 r) 59 w ≤ t := fun q => (ps_W_till (by omega)).mpr q z
        obtain ⟨σ', e1, e2⟩ := ih (t + 1) υ (ps_E_Q hok hE u3) u4 (by omega) (by omega) (by omega) (by omega)
        exact ⟨σ', e1, ps_Q_trans u3 e2⟩
      · rw [if_neg (fun q => z ((ps_never _ _ _ _ _ _).mp q))]
        have z2 := (ps_W_till (by omega)).mp z
        refine ⟨υ, ?_, u3⟩
        unfold ps_n
        rw [if_neg (by omega), show ps_W A 0 (A 4 r) (A 5 r) 59 w = t by omega]
theorem sm_soon : sim_soon ps_R := by
  intro σ h x1 x2
  have h' := h
  obtain ⟨⟨A, a1, a2, a3, a4, a5, a6, a7, a8⟩, hP, hF, hS, hX⟩ := h'
  have o2 := a1.2.1
  by_cases hc : 0 ≤ x1.toInt ∧ x1.toInt < A 0 1
  · obtain ⟨r, hr, rfl⟩ := ps_ofM hc
    have hrY := ps_isRdY a1 a5 hr
    obtain ⟨k1, k2, k3⟩ := ps_rOk a1 hr
    obtain ⟨g1, g2, g3⟩ := ps_rcOf a2 hr
    by_cases hd : 0 ≤ x2.toInt ∧ x2.toInt ≤ (9 : Nat)
    · have hd' := hd
      obtain ⟨w, hw, rfl⟩ := ps_ofL hd
      obtain ⟨c0, c1, c2, c3⟩ := ps_rcopy (σ := σ) (a := 63) (c := 21 + 13 + r) (by omega)
      generalize ht : vz_up (f_X3_copyFrom 63 (21 + 13 + r) σ) 63 2 (59 : Int32) = τ
      have t3 : ∀ b, b ≠ 63 → τ b = σ b := fun b hb => by rw [← ht, vz_up_ne _ _ _ hb, c3 b hb]
      have hrc : ps_rc τ 63 (A 4 r) (A 5 r) 59 := ⟨by rw [← ht, ps_upN _ _ (by omega), c0]; exact g1, by rw [← ht, ps_upN _ _ (by omega), c1]; exact g2, by rw [← ht, ps_upS]; rfl⟩
      have hC : ps_C A τ 21 := ps_C_fr a1 a2 (fun b _ _ => t3 b (by omega))
      have q8 : ps_Q σ τ := ps_Q_8 (fun b hb => t3 b (by omega))
      obtain ⟨υ, v1, v2, v3, v4⟩ := ps_244 (σ := τ)
      have hQ2 : ps_Q σ υ := ps_Q_trans q8 v3
      have hE2 := ps_E_Q a1 (ps_E0 a3 a4 a5 hX) hQ2
      have j5 := (hE2.1.2.2.2.2.1 r hr).2.1
      rw [show 0 + 32 + r = 32 + r by omega] at j5
      have hle := ps_W_from (A := A) (c := A 4 r) (f := A 5 r) (u := 59) (w := w)
      obtain ⟨ω, w1, w2⟩ := ps_soon9 a1 hr (show w < 10 by omega) vz_fu (A 5 r) υ hE2 (v4 _) (by omega) (by omega) (by have : vz_fu = 1000000 := rfl; omega) (by omega)
      refine ⟨ps_n (ps_W A 0 (A 4 r) (A 5 r) 59 w), τ, ω, ?_, ?_, ps_R_Q h (ps_Q_trans hQ2 w2)⟩
      · unfold f_X8_soon
        rw [ps_rdY a1 a2 hr, vz_b1, vz_mo, ps_n8, if_pos hd', if_neg ps_10, ht, ps_fw a1 hC hrc k1 k2 (by omega) (by omega), vz_b1]
      · have hrY' : f_X9_isReader (nI r) τ = 1 := ps_isRdY a1 (by rw [q8.2.2 2 (by omega)]; exact a5) hr
        unfold f_X9_soon
        rw [hrY', if_neg ps_10, ps_n9, if_pos hd', if_neg ps_10, v1, vz_b1, show (32 : Int32) + nI r = nI (32 + r) from nI_add 32 r, if_pos ((ps_in (by omega)).mpr (by omega)), nI_clamp (by omega), j5]
        exact w1
    · refine ⟨-1, σ, σ, ?_, ?_, h⟩
      · simp only [f_X8_soon, ps_rdY a1 a2 hr, vz_b1, vz_mo, ps_n8, if_neg hd, if_true]
      · simp only [f_X9_soon, hrY, if_neg ps_10, ps_n9, if_neg hd, if_true]
  · refine ⟨-1, σ, σ, ?_, ?_, h⟩
    · simp only [f_X8_soon, ps_rdN a1 a2 hc, vz_b1, vz_mo]
    · simp only [f_X9_soon, ps_isRd a1 a5, if_neg hc, if_true]
