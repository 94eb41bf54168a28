/-! pure: the class's day -/
theorem ps_pace_pos (k : Nat) : 1 ≤ ps_pace k ∧ ps_pace k ≤ 6 := by
  unfold ps_pace
  split
  · omega
  · split
    · omega
    · split <;> omega
theorem ps_pace8 {σ : vz_I} {a k : Nat} (hk : k < 4) (h : σ a 0 = nI k) : f_X0_pace a σ = nI (ps_pace k) := by
  unfold f_X0_pace
  rw [h]
  rcases (show k = 0 ∨ k = 1 ∨ k = 2 ∨ k = 3 by omega) with rfl | rfl | rfl | rfl <;> decide
theorem ps_arith {W : Nat → Nat} {p len sb c t : Nat} (hp : 0 < p) (hl : 0 < len) : (∃ k i, i < len ∧ W i = c ∧ p * len * k ≤ t ∧ t - p * len * k = p * (i + sb)) ↔ t % p = 0 ∧ sb ≤ t / p ∧ W ((t / p - sb) % len) = c := by
  constructor
  · rintro ⟨k, i, h1, h2, h3, h4⟩
    have e : t = p * (i + sb + len * k) := by
      rw [Nat.mul_add, ← Nat.mul_assoc]
      omega
    subst e
    rw [Nat.mul_mod_right, Nat.mul_div_cancel_left _ hp]
    refine ⟨rfl, by omega, ?_⟩
    rw [show i + sb + len * k - sb = i + len * k by omega, Nat.add_mul_mod_self_left, Nat.mod_eq_of_lt h1]
    exact h2
  · rintro ⟨h1, h2, h3⟩
    have e1 := Nat.div_add_mod t p
    have e2 := Nat.div_add_mod (t / p - sb) len
    refine ⟨(t / p - sb) / len, (t / p - sb) % len, Nat.mod_lt _ hl, h3, ?_, ?_⟩
    · rw [Nat.mul_assoc]
      have : p * (len * ((t / p - sb) / len)) ≤ p * (t / p) := Nat.mul_le_mul_left _ (by omega)
      omega
    · rw [Nat.mul_assoc]
      have e3 : p * ((t / p - sb) % len + sb) + p * (len * ((t / p - sb) / len)) = p * (t / p) := by
        rw [← Nat.mul_add]
        congr 1
        omega
      omega
theorem ps_shown_l {σ : vz_I} {a p len sb c : Nat} {W : Nat → Nat} (hp : 0 < p) (hp6 : p ≤ 6) (hl0 : 0 < len) (hl : len ≤ 4) (hsb : sb ≤ 1) (hc : c < 8) (hW : ∀ i, i < len → W i < 8) (h2 : σ a 2 = nI len) (h3 : ∀ i, i < len → σ (a + 1) i = nI (W i)) : ∀ (n i : Nat) (j : Int64), i ≤ len → len - i < n → (∀ s, s < 64 → (ps_b j s = true ↔ ∃ i', i' < i ∧ W i' = c ∧ s = p * (i' + sb))) → ∃ j', f_X0_minutesShown_38 n a (nI c) (nI p) (nI sb) j (nI i) σ = some j' ∧ ∀ t, t < 64 → (ps_b j' t = true ↔ t < 60 ∧ ∃ k i, i < len ∧ W i = c ∧ p * len * k ≤ t ∧ t - p * len * k = p * (i + sb)) := by
  intro n
  induction n with
  | zero => intro i j _ h; omega
  | succ n ih =>
    intro i j hi hn hj
    rw [f_X0_minutesShown_38_s, h2]
    by_cases e : len ≤ i
    · obtain rfl : i = len := by omega
      rw [if_pos (nI_le (Nat.le_refl _) (by omega))]
      by_cases z : (lg_cmp j (0 : Int64)) = 0
      · rw [if_pos z]
        refine ⟨0, rfl, fun t ht => ?_⟩
        rw [ps_b_0]
        constructor
        · intro q; exact absurd q (by decide)
        · rintro ⟨h60, k, i', q1, q2, q3, q4⟩
          exfalso
          have hs : p * (i' + sb) < 64 := by omega
          have := (hj _ hs).mpr ⟨i', q1, q2, rfl⟩
          rw [(ps_b_zero j).mp z _ hs] at this
          exact absurd this (by decide)
      · rw [if_neg z, pk_mul]
        have hpl : p * i ≤ 24 := Nat.mul_le_mul hp6 hl
        obtain ⟨j', e1, e2⟩ := ps_repeated (p := p * i) (Nat.mul_pos hp hl0) (by omega) j
        rw [e1, vz_b1]
        refine ⟨j', rfl, fun t ht => ?_⟩
        rw [e2 t ht]
        constructor
        · rintro ⟨h60, k, q1, q2⟩
          obtain ⟨i', r1, r2, r3⟩ := (hj _ (by omega)).mp q2
          exact ⟨h60, k, i', r1, r2, q1, r3⟩
        · rintro ⟨h60, k, i', q1, q2, q3, q4⟩
          exact ⟨h60, k, q3, (hj _ (by omega)).mpr ⟨i', q1, q2, q4⟩⟩
    · rw [if_neg (nI_ge (by omega) (by omega)), if_pos ((ps_in (by omega)).mpr (by omega)), nI_clamp (by omega), h3 i (by omega), nI_1]
      by_cases e2 : W i = c
      · rw [if_pos (by rw [e2])]
        refine ih (i + 1) _ (by omega) (by omega) (fun s hs => ?_)
        have hps : p * (i + sb) < 64 := Nat.lt_of_le_of_lt (Nat.mul_le_mul hp6 (show i + sb ≤ 4 by omega)) (by omega)
        rw [ps_b_or, nI_add, pk_mul, nI_l (by omega), ps_b_one _ hps s hs, Bool.or_eq_true, decide_eq_true_eq, hj s hs]
        constructor
        · rintro (⟨i', r1, r2, r3⟩ | q)
          · exact ⟨i', by omega, r2, r3⟩
          · exact ⟨i, by omega, e2, q⟩
        · rintro ⟨i', r1, r2, r3⟩
          by_cases q : i' = i
          · subst q; exact Or.inr r3
          · exact Or.inl ⟨i', by omega, r2, r3⟩
      · have hWi := hW i (by omega)
        rw [if_neg (fun q => e2 ((nI_eq (by omega) (by omega)).mp q))]
        refine ih (i + 1) _ (by omega) (by omega) (fun s hs => ?_)
        rw [hj s hs]
        constructor
        · rintro ⟨i', r1, r2, r3⟩
          exact ⟨i', by omega, r2, r3⟩
        · rintro ⟨i', r1, r2, r3⟩
          by_cases q : i' = i
          · subst q; exact absurd r2 e2
          · exact ⟨i', by omega, r2, r3⟩
/-- what a man shows -/
theorem ps_shown {A : ps_T} {σ : vz_I} {T m c b : Nat} (hok : ps_Ok A) (h : ps_C A σ T) (hm : m < A 0 0) (hc : c < 8) (hb : b ≤ 1) : ∃ j, f_X0_minutesShown (T + 5 + 2 * m) (nI c) (nI b) σ = some j ∧ ∀ t, t < 64 → (ps_b j t = true ↔ t < 60 ∧ ps_at A m t b = c) := by
  obtain ⟨ok1, ok2, ok3, ok4, ok5⟩ := hok.2.2.2.2.2.1 m hm
  obtain ⟨g1, g2, g3, g4⟩ := h.2.2.2.2.2.1 m hm
  obtain ⟨p1, p2⟩ := ps_pace_pos (A 1 m)
  have key : ∃ j, f_X0_minutesShown_38 vz_fu (T + 5 + 2 * m) (nI c) (nI (ps_pace (A 1 m))) (nI b) 0 (nI 0) σ = some j ∧ ∀ t, t < 64 → (ps_b j t = true ↔ t < 60 ∧ ∃ k i, i < A 3 m ∧ A (10 + m) i = c ∧ ps_pace (A 1 m) * A 3 m * k ≤ t ∧ t - ps_pace (A 1 m) * A 3 m * k = ps_pace (A 1 m) * (i + b)) :=
    ps_shown_l (W := A (10 + m)) p1 p2 ok3 ok4 hb hc ok5 g3 g4 vz_fu 0 0 (by omega) (by have : vz_fu = 1000000 := rfl; omega) (fun s hs => by
      rw [ps_b_0]
      constructor
      · intro q; exact absurd q (by decide)
      · rintro ⟨i', r1, _⟩; omega)
  obtain ⟨j, e1, e2⟩ := key
  rw [show nI 0 = (0 : Int32) from rfl] at e1
  rcases (show b = 0 ∨ b = 1 by omega) with rfl | rfl
  · refine ⟨j, ?_, fun t ht => ?_⟩
    · unfold f_X0_minutesShown f_X0_minutesShown_15 f_X0_minutesShown_30
      rw [if_neg (by decide), if_neg (by decide), ps_pace8 ok1 g1]
      exact e1
    · rw [e2 t ht, ps_arith p1 ok3]
      unfold ps_at
      constructor
      · rintro ⟨q1, q2, q3, q4⟩
        refine ⟨q1, ?_⟩
        rw [if_pos ⟨q2, Or.inl rfl⟩]
        exact q4
      · rintro ⟨q1, q2⟩
        by_cases r : t % ps_pace (A 1 m) = 0
        · rw [if_pos ⟨r, Or.inl rfl⟩] at q2
          exact ⟨q1, r, Nat.zero_le _, q2⟩
        · rw [if_neg (fun q => r q.1)] at q2
          omega
  · by_cases hl : 2 ≤ A 3 m
    · refine ⟨j, ?_, fun t ht => ?_⟩
      · unfold f_X0_minutesShown f_X0_minutesShown_15 f_X0_minutesShown_30
        rw [if_pos (by decide), g3, if_pos (show (2 : Int32) ≤ nI (A 3 m) from nI_le (a := 2) hl (by omega)), if_pos (by decide), ps_pace8 ok1 g1]
        exact e1
      · rw [e2 t ht, ps_arith p1 ok3]
        unfold ps_at
        have hd := Nat.div_add_mod t (ps_pace (A 1 m))
        constructor
        · rintro ⟨q1, q2, q3, q4⟩
          refine ⟨q1, ?_⟩
          rw [if_pos]
          · exact q4
          · refine ⟨q2, Or.inr ⟨?_, by omega⟩⟩
            intro z
            subst z
            rw [Nat.zero_div] at q3
            omega
        · rintro ⟨q1, q2⟩
          by_cases r : t % ps_pace (A 1 m) = 0 ∧ (1 = 0 ∨ (t ≠ 0 ∧ A 3 m ≠ 1))
          · rw [if_pos r] at q2
            refine ⟨q1, r.1, ?_, q2⟩
            by_cases z : t / ps_pace (A 1 m) = 0
            · rw [z, Nat.mul_zero] at hd
              omega
            · exact Nat.pos_of_ne_zero z
          · rw [if_neg r] at q2
            omega
    · refine ⟨0, ?_, fun t ht => ?_⟩
      · unfold f_X0_minutesShown
        rw [if_pos (by decide), g3, if_neg (show ¬ (2 : Int32) ≤ nI (A 3 m) from nI_ge (b := 2) (by omega) (by omega))]
      · rw [ps_b_0]
        constructor
        · intro q; exact absurd q (by decide)
        · rintro ⟨q1, q2⟩
          unfold ps_at at q2
          rw [if_neg (by omega)] at q2
          omega
/-- a reader's cell -/
def ps_rc (σ : vz_I) (a c f u : Nat) : Prop := σ a 0 = nI c ∧ σ a 1 = nI f ∧ σ a 2 = nI u
theorem ps_minutesOf {A : ps_T} {σ : vz_I} {T a c f u t : Nat} (hok : ps_Ok A) (h : ps_C A σ T) (hr : ps_rc σ a c f u) (hf : f < 60) (hu : u < 60) (ht : t < 64) : ps_b (f_X7_minutesOf T a σ) t = ps_dry A f u t := by
  obtain ⟨r1, r2, r3⟩ := hr
  unfold f_X7_minutesOf
  rw [vz_let, ps_b_and, h.2.2.2.1, h.2.2.2.2.1, r2, r3, ps_b_span hf hu ht, ps_b_not _ ht, ps_b_wet hok.2.2.2.1 hok.2.2.2.2.1 ht]
  rfl
theorem ps_P_iff {A : ps_T} {h c f u w b t : Nat} : ps_P A h c f u w b t = true ↔ ∃ m, m < A 0 0 ∧ A 2 m = w ∧ h.testBit m = false ∧ ps_dry A f u t = true ∧ ps_at A m t b = c := by
  unfold ps_P ps_rd
  rw [ps_any_iff]
  constructor
  · rintro ⟨m, h1, h2⟩
    simp only [Bool.and_eq_true, decide_eq_true_eq, Bool.not_eq_true'] at h2
    exact ⟨m, h1, h2.1.1, h2.1.2, h2.2.1, h2.2.2⟩
  · rintro ⟨m, h1, h2, h3, h4, h5⟩
    refine ⟨m, h1, ?_⟩
    simp only [Bool.and_eq_true, decide_eq_true_eq, Bool.not_eq_true']
    exact ⟨⟨h2, h3⟩, h4, h5⟩
theorem ps_mr_l {A : ps_T} {σ : vz_I} {T a c f u w b : Nat} (hok : ps_Ok A) (h : ps_C A σ T) (hr : ps_rc σ a c f u) (hc : c < 8) (hf : f < 60) (hu : u < 60) (hb : b ≤ 1) (hw : w < 10) : ∀ (n i : Nat) (j : Int64), i ≤ A 0 0 → A 0 0 - i < n → (∀ t, t < 64 → (ps_b j t = true ↔ t < 60 ∧ ∃ m, m < i ∧ A 2 m = w ∧ ps_at A m t b = c)) → ∃ j', f_X7_minutesRead_6 n T a (nI b) (nI w) j (nI i) σ = some j' ∧ ∀ t, t < 64 → (ps_b j' t = true ↔ t < 60 ∧ ps_P A 0 c f u w b t = true) := by
  have o1 := hok.1
  intro n
  induction n with
  | zero => intro i j _ q; omega
  | succ n ih =>
    intro i j hi hn hj
    rw [f_X7_minutesRead_6_s, h.1]
    by_cases e : A 0 0 ≤ i
    · obtain rfl : i = A 0 0 := by omega
      rw [if_pos (nI_le (Nat.le_refl _) (by omega))]
      refine ⟨_, rfl, fun t ht => ?_⟩
      rw [ps_b_and, ps_minutesOf hok h hr hf hu ht, Bool.and_eq_true, hj t ht, ps_P_iff]
      constructor
      · rintro ⟨⟨q1, m, q2, q3, q4⟩, q5⟩
        exact ⟨q1, m, q2, q3, by simp, q5, q4⟩
      · rintro ⟨q1, m, q2, q3, _, q5, q4⟩
        exact ⟨⟨q1, m, q2, q3, q4⟩, q5⟩
    · obtain ⟨ok1, ok2, -⟩ := hok.2.2.2.2.2.1 i (by omega)
      obtain ⟨g1, g2, -⟩ := h.2.2.2.2.2.1 i (by omega)
      have hin : vz_in (nI i) 4 := (ps_in (by omega)).mpr (by omega)
      rw [if_neg (nI_ge (by omega) (by omega)), if_pos hin, nI_clamp (by omega), g2, if_pos hin, hr.1, nI_1]
      by_cases e2 : A 2 i = w
      · obtain ⟨j2, s1, s2⟩ := ps_shown (b := b) hok h (show i < A 0 0 by omega) hc hb
        rw [if_pos (by rw [e2]), s1, vz_b1]
        refine ih (i + 1) _ (by omega) (by omega) (fun t ht => ?_)
        rw [ps_b_or, Bool.or_eq_true, hj t ht, s2 t ht]
        constructor
        · rintro (⟨q1, m, q2, q3, q4⟩ | ⟨q1, q2⟩)
          · exact ⟨q1, m, by omega, q3, q4⟩
          · exact ⟨q1, i, by omega, e2, q2⟩
        · rintro ⟨q1, m, q2, q3, q4⟩
          by_cases q : m = i
          · subst q; exact Or.inr ⟨q1, q4⟩
          · exact Or.inl ⟨q1, m, by omega, q3, q4⟩
      · rw [if_neg (fun q => e2 ((nI_eq (by omega) (by omega)).mp q))]
        refine ih (i + 1) _ (by omega) (by omega) (fun t ht => ?_)
        rw [hj t ht]
        constructor
        · rintro ⟨q1, m, q2, q3, q4⟩
          exact ⟨q1, m, by omega, q3, q4⟩
        · rintro ⟨q1, m, q2, q3, q4⟩
          by_cases q : m = i
          · subst q; exact absurd q3 e2
          · exact ⟨q1, m, by omega, q3, q4⟩
theorem ps_mr {A : ps_T} {σ : vz_I} {T a c f u w b : Nat} (hok : ps_Ok A) (h : ps_C A σ T) (hr : ps_rc σ a c f u) (hc : c < 8) (hf : f < 60) (hu : u < 60) (hb : b ≤ 1) (hw : w < 10) : ∃ j', f_X7_minutesRead T a (nI b) (nI w) σ = some j' ∧ ∀ t, t < 64 → (ps_b j' t = true ↔ t < 60 ∧ ps_P A 0 c f u w b t = true) := by
  have o1 := hok.1
  exact ps_mr_l hok h hr hc hf hu hb hw vz_fu 0 0 (by omega) (by have : vz_fu = 1000000 := rfl; omega) (fun t ht => by
    rw [ps_b_0]
    constructor
    · intro q; exact absurd q (by decide)
    · rintro ⟨_, m, q, _⟩; omega)
def ps_n (x : Nat) : Int32 := if x = 1000 then -4 else nI x
theorem ps_fm_l {j : Int64} {P : Nat → Bool} (hj : ∀ t, t < 60 → ps_b j t = P t) : ∀ (n k : Nat), k ≤ 60 → k < n → f_X8_firstMinute_2 n j (nI (60 - k)) = some (ps_n (ps_lo P k)) := by
  intro n
  induction n with
  | zero => intro k _ h; omega
  | succ n ih =>
    intro k hk hn
    rw [f_X8_firstMinute_2_s]
    rcases Nat.eq_zero_or_pos k with rfl | hpos
    · rw [if_pos (by decide)]
      rfl
    · obtain ⟨k', rfl⟩ : ∃ k', k = k' + 1 := ⟨k - 1, by omega⟩
      rw [if_neg (show ¬ (60 : Int32) ≤ nI (60 - (k' + 1)) from nI_ge (b := 60) (by omega) (by omega)), ps_lo]
      have e : 60 - (k' + 1) = 59 - k' := by omega
      rw [e]
      by_cases q : P (59 - k') = true
      · rw [if_pos ((ps_b_set (by omega)).mpr (by rw [hj _ (by omega)]; exact q)), if_pos q]
        unfold ps_n
        rw [if_neg (by omega)]
      · rw [if_neg (fun z => q (by rw [← hj _ (by omega)]; exact (ps_b_set (by omega)).mp z)), if_neg q, nI_1, show 59 - k' + 1 = 60 - k' by omega]
        exact ih k' (by omega) (by omega)
theorem ps_fm {j : Int64} {P : Nat → Bool} (hj : ∀ t, t < 60 → ps_b j t = P t) : f_X8_firstMinute j = some (ps_n (ps_lo P 60)) := by
  have q := ps_fm_l hj vz_fu 60 (by omega) (by have : vz_fu = 1000000 := rfl; omega)
  exact q
theorem ps_biff {a b : Bool} (h : a = true ↔ b = true) : a = b := by
  cases a <;> cases b <;> simp_all
theorem ps_n_4 {x : Nat} (h : x < 60 ∨ x = 1000) : ps_n x = -4 ↔ x = 1000 := by
  unfold ps_n
  constructor
  · intro q
    by_cases e : x = 1000
    · exact e
    · rw [if_neg e] at q
      exfalso
      have z : (nI x).toInt = x := nI_toInt (by omega)
      rw [q] at z
      have : (-4 : Int32).toInt = -4 := by decide
      omega
  · intro q; rw [if_pos q]
theorem ps_vmax {a b : Nat} (ha : a < 2 ^ 31) (hb : b < 2 ^ 31) : vz_max (nI a) (nI b) = nI (max a b) := by
  unfold vz_max
  by_cases h : a < b
  · rw [if_pos ((nI_ltI ha hb).mpr h), Nat.max_eq_right (by omega)]
  · rw [if_neg (fun q => h ((nI_ltI ha hb).mp q)), Nat.max_eq_left (by omega)]
theorem ps_fw {A : ps_T} {σ : vz_I} {T a c f u w : Nat} (hok : ps_Ok A) (h : ps_C A σ T) (hr : ps_rc σ a c f u) (hc : c < 8) (hf : f < 60) (hu : u < 60) (hw : w < 10) : f_X7_firstWhole T a (nI w) σ = some (ps_n (ps_W A 0 c f u w)) := by
  obtain ⟨j0, a1, a2⟩ := ps_mr (b := 0) hok h hr hc hf hu (by omega) hw
  obtain ⟨j1, b1, b2⟩ := ps_mr (b := 1) hok h hr hc hf hu (by omega) hw
  have a3 := ps_fm (j := j0) (P := ps_P A 0 c f u w 0) (fun t ht => ps_biff (by rw [a2 t (by omega)]; exact ⟨fun q => q.2, fun q => ⟨ht, q⟩⟩))
  have b3 := ps_fm (j := j1) (P := ps_P A 0 c f u w 1) (fun t ht => ps_biff (by rw [b2 t (by omega)]; exact ⟨fun q => q.2, fun q => ⟨ht, q⟩⟩))
  rw [show nI 0 = (0 : Int32) from rfl] at a1
  rw [show nI 1 = (1 : Int32) from rfl] at b1
  have m0 := ps_lo_max (ps_P A 0 c f u w 0)
  have m1 := ps_lo_max (ps_P A 0 c f u w 1)
  unfold f_X7_firstWhole
  rw [a1, vz_b1, a3, vz_b1, b1, vz_b1, b3, vz_b1]
  unfold ps_W ps_L
  by_cases e0 : ps_lo (ps_P A 0 c f u w 0) 60 = 1000
  · rw [if_pos ((ps_n_4 m0).mpr e0), e0, Nat.max_eq_left (by omega)]
    rfl
  · rw [if_neg (fun q => e0 ((ps_n_4 m0).mp q))]
    by_cases e1 : ps_lo (ps_P A 0 c f u w 1) 60 = 1000
    · rw [if_pos ((ps_n_4 m1).mpr e1), e1, Nat.max_eq_right (by omega)]
      rfl
    · rw [if_neg (fun q => e1 ((ps_n_4 m1).mp q))]
      unfold ps_n
      rw [if_neg e0, if_neg e1, if_neg (by omega), ps_vmax (by omega) (by omega)]
theorem ps_at_lt {A : ps_T} {m t b : Nat} (hok : ps_Ok A) (hm : m < A 0 0) : ps_at A m t b < 8 ∨ ps_at A m t b = 99 := by
  obtain ⟨ok1, ok2, ok3, ok4, ok5⟩ := hok.2.2.2.2.2.1 m hm
  unfold ps_at
  split
  · exact Or.inl (ok5 _ (Nat.mod_lt _ ok3))
  · exact Or.inr rfl
def ps_v (x : Nat) : Int32 := if x = 99 then -4 else nI x
theorem ps_ci {A : ps_T} {σ : vz_I} {T m t : Nat} (hok : ps_Ok A) (h : ps_C A σ T) (hm : m < A 0 0) (ht : t < 60) : f_X0_cornerIn (T + 5 + 2 * m) (nI t) σ = some (ps_v (ps_at A m t 0)) := by
  obtain ⟨ok1, ok2, ok3, ok4, ok5⟩ := hok.2.2.2.2.2.1 m hm
  obtain ⟨g1, g2, g3, g4⟩ := h.2.2.2.2.2.1 m hm
  obtain ⟨p1, p2⟩ := ps_pace_pos (A 1 m)
  have hpz : ¬ nI (ps_pace (A 1 m)) = 0 := nI_ne0 p1 (by omega)
  have hd : t / ps_pace (A 1 m) ≤ t := Nat.div_le_self _ _
  have hlt := Nat.mod_lt (t / ps_pace (A 1 m)) ok3
  unfold f_X0_cornerIn
  rw [g3, if_neg (show ¬ nI (A 3 m) < (1 : Int32) from nI_nlt (b := 1) ok3 (by omega)), ps_pace8 ok1 g1, if_neg hpz, pk_rem (by omega) p1 (by omega)]
  unfold ps_at
  by_cases e : t % ps_pace (A 1 m) = 0
  · rw [if_pos (by rw [e]; rfl), if_neg hpz, if_neg (nI_ne0 ok3 (by omega)), pk_div (by omega) p1 (by omega), pk_rem (by omega) ok3 (by omega), if_pos ((ps_in (by omega)).mpr (by omega)), nI_clamp (by omega), g4 _ hlt, if_pos ⟨e, Or.inl rfl⟩, Nat.sub_zero]
    unfold ps_v
    rw [if_neg]
    have := ok5 _ hlt
    omega
  · have hm2 : t % ps_pace (A 1 m) ≤ t := Nat.mod_le _ _
    rw [if_neg (nI_ne0 (by omega) (by omega)), if_neg (fun q => e q.1)]
    rfl
