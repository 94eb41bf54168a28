/-! pure: the class's day: news, pairs -/
theorem ps_nr_l {A : ps_T} {σ : vz_I} {T a c f u b h o l : Nat} {j : Int64} (hok : ps_Ok A) (hC : ps_C A σ T) (hr : ps_rc σ a c f u) (hc : c < 8) (hb : b ≤ 1) (ho : o < 16) (hh : ∀ m, m < A 0 0 → o.testBit m = !h.testBit m) (hj : ∀ t, t < 64 → (ps_b j t = true ↔ t < 60 ∧ t ≤ l ∧ ps_dry A f u t = true)) : ∀ (n i v : Nat), i ≤ A 0 0 → A 0 0 - i < n → v < 1024 → (∀ w, w < 10 → (v.testBit w = true ↔ ∃ m, m < i ∧ A 2 m = w ∧ h.testBit m = false ∧ ∃ t, t < 60 ∧ t ≤ l ∧ ps_dry A f u t = true ∧ ps_at A m t b = c)) → ∃ v', v' < 1024 ∧ f_X7_newsRead_15 n T a (nI b) (nI o) j (nI v) (nI i) σ = some (nI v') ∧ (∀ w, w < 10 → (v'.testBit w = true ↔ ∃ m, m < A 0 0 ∧ A 2 m = w ∧ h.testBit m = false ∧ ∃ t, t < 60 ∧ t ≤ l ∧ ps_dry A f u t = true ∧ ps_at A m t b = c)) := by
  have o1 := hok.1
  intro n
  induction n with
  | zero => intro i v _ q; omega
  | succ n ih =>
    intro i v hi hn hv hvt
    rw [f_X7_newsRead_15_s, hC.1]
    by_cases e : A 0 0 ≤ i
    · obtain rfl : i = A 0 0 := by omega
      rw [if_pos (nI_le (Nat.le_refl _) (by omega))]
      exact ⟨v, hv, rfl, hvt⟩
    · obtain ⟨ok1, ok2, -⟩ := hok.2.2.2.2.2.1 i (by omega)
      obtain ⟨g1, g2, -⟩ := hC.2.2.2.2.2.1 i (by omega)
      have hin : vz_in (nI i) 4 := (ps_in (by omega)).mpr (by omega)
      have skip : (∀ t, ¬ (t < 60 ∧ t ≤ l ∧ ps_dry A f u t = true ∧ ps_at A i t b = c)) ∨ h.testBit i = true → ∃ v', v' < 1024 ∧ f_X7_newsRead_15 n T a (nI b) (nI o) j (nI v) (nI (i + 1)) σ = some (nI v') ∧ (∀ w, w < 10 → (v'.testBit w = true ↔ ∃ m, m < A 0 0 ∧ A 2 m = w ∧ h.testBit m = false ∧ ∃ t, t < 60 ∧ t ≤ l ∧ ps_dry A f u t = true ∧ ps_at A m t b = c)) := by
        intro hs
        refine ih (i + 1) v (by omega) (by omega) hv (fun w hw => ?_)
        rw [hvt w hw]
        constructor
        · rintro ⟨m, q1, q2⟩
          exact ⟨m, by omega, q2⟩
        · rintro ⟨m, q1, q2, q3, t, q4⟩
          by_cases q : m = i
          · subst q
            rcases hs with hs | hs
            · exact absurd q4 (hs t)
            · rw [hs] at q3; exact absurd q3 (by decide)
          · exact ⟨m, by omega, q2, q3, t, q4⟩
      rw [if_neg (nI_ge (by omega) (by omega))]
      by_cases e2 : h.testBit i = true
      · rw [if_neg (fun q => by
          have := (ps_bit (by omega) (by omega)).mp q
          rw [hh i (by omega), e2] at this
          exact absurd this (by decide))]
        unfold f_X7_newsRead_40
        rw [if_pos rfl, nI_1]
        exact skip (Or.inr e2)
      · have e2' : h.testBit i = false := by simpa using e2
        rw [if_pos ((ps_bit (by omega) (by omega)).mpr (by rw [hh i (by omega), e2']; rfl))]
        unfold f_X7_newsRead_40
        obtain ⟨j2, s1, s2⟩ := ps_shown (b := b) hok hC (show i < A 0 0 by omega) hc hb
        rw [if_neg (by decide), if_pos hin, nI_clamp (by omega), hr.1, s1, vz_b1, nI_1]
        by_cases z : (lg_cmp (j2 &&& j) (0 : Int64)) = 0
        · rw [if_pos z]
          refine skip (Or.inl (fun t q => ?_))
          have z2 := (ps_b_zero _).mp z t (by omega)
          rw [ps_b_and, (s2 t (by omega)).mpr ⟨q.1, q.2.2.2⟩, (hj t (by omega)).mpr ⟨q.1, q.2.1, q.2.2.1⟩] at z2
          exact absurd z2 (by decide)
        · rw [if_neg z, if_pos hin, vz_let, g2, ps_shl1 _ (by omega), ps_or]
          have hlt : v ||| 2 ^ A 2 i < 1024 := Nat.or_lt_two_pow (n := 10) hv (Nat.pow_lt_pow_right (by decide) ok2)
          refine ih (i + 1) _ (by omega) (by omega) hlt (fun w hw => ?_)
          have hex : ∃ t, t < 60 ∧ t ≤ l ∧ ps_dry A f u t = true ∧ ps_at A i t b = c := by
            apply Classical.byContradiction
            intro hne
            apply z
            rw [ps_b_zero]
            intro t ht
            rw [ps_b_and]
            cases hx : ps_b j2 t
            · rfl
            · cases hy : ps_b j t
              · rfl
              · exfalso
                have r1 := (s2 t ht).mp hx
                have r2 := (hj t ht).mp hy
                exact hne ⟨t, r1.1, r2.2.1, r2.2.2, r1.2⟩
          rw [Nat.testBit_or, Bool.or_eq_true, hvt w hw, Nat.testBit_two_pow, decide_eq_true_eq]
          constructor
          · rintro (⟨m, q1, q2⟩ | q)
            · exact ⟨m, by omega, q2⟩
            · exact ⟨i, by omega, q, e2', hex⟩
          · rintro ⟨m, q1, q2, q3, q4⟩
            by_cases q : m = i
            · subst q; exact Or.inr q2
            · exact Or.inl ⟨m, by omega, q2, q3, q4⟩
theorem ps_L_iff {A : ps_T} {h c f u w b l : Nat} (hl : l < 60) : ps_L A h c f u w b ≤ l ↔ ∃ m, m < A 0 0 ∧ A 2 m = w ∧ h.testBit m = false ∧ ∃ t, t < 60 ∧ t ≤ l ∧ ps_dry A f u t = true ∧ ps_at A m t b = c := by
  unfold ps_L
  rw [ps_lo_iff (by omega)]
  constructor
  · rintro ⟨t, q1, q2, q3⟩
    obtain ⟨m, r1, r2, r3, r4, r5⟩ := ps_P_iff.mp q3
    exact ⟨m, r1, r2, r3, t, q1, q2, r4, r5⟩
  · rintro ⟨m, r1, r2, r3, t, q1, q2, r4, r5⟩
    exact ⟨t, q1, q2, ps_P_iff.mpr ⟨m, r1, r2, r3, r4, r5⟩⟩
theorem ps_nr {A : ps_T} {σ : vz_I} {T a c f u b h o l : Nat} {x : Int64} (hok : ps_Ok A) (hC : ps_C A σ T) (hr : ps_rc σ a c f u) (hc : c < 8) (hf : f < 60) (hu : u < 60) (hb : b ≤ 1) (ho : o < 16) (hh : ∀ m, m < A 0 0 → o.testBit m = !h.testBit m) (hl : l < 60) (hx : x = f_X8_span 0 (nI l)) : f_X7_newsRead T a (nI b) x (nI o) σ = some (nI (ps_mask 10 (fun w => decide (ps_L A h c f u w b ≤ l)))) := by
  have o1 := hok.1
  subst hx
  obtain ⟨v, v1, v2, v3⟩ := ps_nr_l (h := h) (l := l) (j := (f_X7_minutesOf T a σ) &&& f_X8_span 0 (nI l)) hok hC hr hc hb ho hh (fun t ht => by
    rw [ps_b_and, ps_minutesOf hok hC hr hf hu ht, show (0 : Int32) = nI 0 from rfl, ps_b_span (by omega) hl ht, Bool.and_eq_true, decide_eq_true_eq]
    constructor
    · rintro ⟨q1, q2⟩; exact ⟨by omega, by omega, q1⟩
    · rintro ⟨q1, q2, q3⟩; exact ⟨q3, by omega, q2⟩) vz_fu 0 0 (by omega) (by have : vz_fu = 1000000 := rfl; omega) (by omega) (fun w hw => by
    simp)
  unfold f_X7_newsRead
  rw [show nI 0 = (0 : Int32) from rfl] at v2
  rw [v2, ps_mask_eq (n := 10) v1]
  intro i hi
  apply ps_biff
  rw [v3 i hi, decide_eq_true_eq, ps_L_iff hl]
theorem ps_wn {A : ps_T} {σ : vz_I} {T a c f u h o l : Nat} {x : Int64} (hok : ps_Ok A) (hC : ps_C A σ T) (hr : ps_rc σ a c f u) (hc : c < 8) (hf : f < 60) (hu : u < 60) (ho : o < 16) (hh : ∀ m, m < A 0 0 → o.testBit m = !h.testBit m) (hl : l < 60) (hx : x = f_X8_span 0 (nI l)) : f_X7_wholeNews T a x (nI o) σ = some (nI (ps_mask 10 (fun w => decide (ps_W A h c f u w ≤ l)))) := by
  have q0 := ps_nr (b := 0) hok hC hr hc hf hu (by omega) ho hh hl hx
  have q1 := ps_nr (b := 1) hok hC hr hc hf hu (by omega) ho hh hl hx
  rw [show nI 0 = (0 : Int32) from rfl] at q0
  rw [show nI 1 = (1 : Int32) from rfl] at q1
  unfold f_X7_wholeNews
  rw [q0, vz_b1, q1, vz_b1, ps_and]
  congr 2
  apply ps_mask_eq
  · exact Nat.and_lt_two_pow _ (ps_mask_lt _ _)
  · intro i hi
    rw [Nat.testBit_and, ps_mask_t, ps_mask_t]
    apply ps_biff
    simp only [Bool.and_eq_true, decide_eq_true_eq, ps_W, Nat.max_le]
    exact ⟨fun q => ⟨q.1.2, q.2.2⟩, fun q => ⟨⟨hi, q.1⟩, hi, q.2⟩⟩
theorem ps_h0 {n : Nat} (hn : n ≤ 4) : ∀ m, m < n → (15 : Nat).testBit m = !(0 : Nat).testBit m := by
  intro m hm
  rcases (show m = 0 ∨ m = 1 ∨ m = 2 ∨ m = 3 by omega) with rfl | rfl | rfl | rfl <;> decide
theorem ps_rcOf {A : ps_T} {σ : vz_I} {T r : Nat} (h : ps_C A σ T) (hr : r < A 0 1) : ps_rc σ (T + 13 + r) (A 4 r) (A 5 r) (A 6 r) := h.2.2.2.2.2.2.1 r hr
theorem ps_rOk {A : ps_T} {r : Nat} (hok : ps_Ok A) (hr : r < A 0 1) : A 4 r < 8 ∧ A 5 r < 60 ∧ A 6 r < 60 := by
  obtain ⟨q1, q2, q3⟩ := hok.2.2.2.2.2.2.1 r hr
  omega
theorem ps_pr_l {A : ps_T} {σ : vz_I} {T h o : Nat} (hok : ps_Ok A) (hC : ps_C A σ T) (ho : o < 16) (hh : ∀ m, m < A 0 0 → o.testBit m = !h.testBit m) : ∀ (n i : Nat), i ≤ A 0 1 → A 0 1 - i < n → f_X7_pairs_4 n T (nI o) (nI (ps_sum i (fun r => ps_K A h (A 4 r) (A 5 r) (A 6 r)))) (nI i) σ = some (nI (ps_pairs A h)) := by
  have o1 := hok.2.1
  intro n
  induction n with
  | zero => intro i _ q; omega
  | succ n ih =>
    intro i hi hn
    rw [f_X7_pairs_4_s, hC.2.2.1]
    by_cases e : A 0 1 ≤ i
    · obtain rfl : i = A 0 1 := by omega
      rw [if_pos (nI_le (Nat.le_refl _) (by omega))]
      rfl
    · obtain ⟨k1, k2, k3⟩ := ps_rOk hok (show i < A 0 1 by omega)
      rw [if_neg (nI_ge (by omega) (by omega)), if_pos ((ps_in (by omega)).mpr (by omega)), nI_clamp (by omega), ps_wn (l := 59) hok hC (ps_rcOf hC (by omega)) k1 k2 k3 ho hh (by omega) ps_span_day.symm, vz_b1, ps_popm, nI_add, nI_1]
      exact ih (i + 1) (by omega) (by omega)
theorem ps_pr {A : ps_T} {σ : vz_I} {T h o : Nat} (hok : ps_Ok A) (hC : ps_C A σ T) (ho : o < 16) (hh : ∀ m, m < A 0 0 → o.testBit m = !h.testBit m) : f_X7_pairs T (nI o) σ = some (nI (ps_pairs A h)) := by
  have o1 := hok.2.1
  have q := ps_pr_l hok hC ho hh vz_fu 0 (by omega) (by have : vz_fu = 1000000 := rfl; omega)
  exact q
theorem ps_pr0 {A : ps_T} {σ : vz_I} {T : Nat} (hok : ps_Ok A) (hC : ps_C A σ T) : f_X7_pairs T (15 : Int32) σ = some (nI (ps_pairs A 0)) := ps_pr (o := 15) hok hC (by omega) (ps_h0 hok.1)
/-- reads: men whom a reader reads -/
theorem ps_mn_l {A : ps_T} {σ : vz_I} {T a c f u b s : Nat} {j : Int64} (hok : ps_Ok A) (hC : ps_C A σ T) (hr : ps_rc σ a c f u) (hc : c < 8) (hb : b ≤ 1) (hs : s < 60) (hj : ∀ t, t < 64 → (ps_b j t = true ↔ t = s ∧ ps_dry A f u t = true)) : ∀ (n i : Nat), i ≤ A 0 0 → A 0 0 - i < n → f_X7_menRead_19 n T a (nI b) j (nI (ps_mask i (fun m => ps_rd A c f u m s b))) (nI i) σ = some (nI (ps_mask (A 0 0) (fun m => ps_rd A c f u m s b))) := by
  have o1 := hok.1
  intro n
  induction n with
  | zero => intro i _ q; omega
  | succ n ih =>
    intro i hi hn
    rw [f_X7_menRead_19_s, hC.1]
    by_cases e : A 0 0 ≤ i
    · obtain rfl : i = A 0 0 := by omega
      rw [if_pos (nI_le (Nat.le_refl _) (by omega))]
    · obtain ⟨j2, s1, s2⟩ := ps_shown (b := b) hok hC (show i < A 0 0 by omega) hc hb
      rw [if_neg (nI_ge (by omega) (by omega)), if_pos ((ps_in (by omega)).mpr (by omega)), nI_clamp (by omega), hr.1, s1, vz_b1, nI_1]
      have hz : (lg_cmp (j2 &&& j) (0 : Int64)) = 0 ↔ ps_rd A c f u i s b = false := by
        rw [ps_b_zero]
        constructor
        · intro q
          have q2 := q s (by omega)
          cases hx : ps_rd A c f u i s b
          · rfl
          · exfalso
            unfold ps_rd at hx
            rw [Bool.and_eq_true, decide_eq_true_eq] at hx
            rw [ps_b_and, (s2 s (by omega)).mpr ⟨hs, hx.2⟩, (hj s (by omega)).mpr ⟨rfl, hx.1⟩] at q2
            exact absurd q2 (by decide)
        · intro q t ht
          rw [ps_b_and]
          cases hx : ps_b j2 t
          · rfl
          · cases hy : ps_b j t
            · rfl
            · exfalso
              have r1 := (s2 t ht).mp hx
              obtain ⟨rfl, r2⟩ := (hj t ht).mp hy
              unfold ps_rd at q
              rw [r2, decide_eq_true r1.2] at q
              exact absurd q (by decide)
      by_cases z : ps_rd A c f u i s b = true
      · rw [if_neg (fun q => by rw [hz.mp q] at z; exact absurd z (by decide)), ps_shl1 _ (by omega), ps_or]
        have q := ih (i + 1) (by omega) (by omega)
        rw [ps_mask, if_pos z] at q
        exact q
      · have z' : ps_rd A c f u i s b = false := by simpa using z
        rw [if_pos (hz.mpr z')]
        have q := ih (i + 1) (by omega) (by omega)
        rw [ps_mask, if_neg z, Nat.or_zero] at q
        exact q
theorem ps_mn {A : ps_T} {σ : vz_I} {T a c f u b s : Nat} (hok : ps_Ok A) (hC : ps_C A σ T) (hr : ps_rc σ a c f u) (hc : c < 8) (hf : f < 60) (hu : u < 60) (hb : b ≤ 1) (hs : s < 60) : f_X7_menRead T a (nI s) (nI b) σ = some (nI (ps_mask (A 0 0) (fun m => ps_rd A c f u m s b))) := by
  have o1 := hok.1
  have q := ps_mn_l (j := (f_X7_minutesOf T a σ) &&& (f_X8_span (nI s) (nI s))) hok hC hr hc hb hs (fun t ht => by
    rw [ps_b_and, ps_minutesOf hok hC hr hf hu ht, ps_b_span hs hs ht, Bool.and_eq_true, decide_eq_true_eq]
    constructor
    · rintro ⟨q1, q2⟩; exact ⟨by omega, q1⟩
    · rintro ⟨q1, q2⟩; exact ⟨q2, by omega⟩) vz_fu 0 (by omega) (by have : vz_fu = 1000000 := rfl; omega)
  exact q
