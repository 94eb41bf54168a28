/-! pure: the day: what is read when (one meaning for both sides) -/
def ps_any : Nat → (Nat → Bool) → Bool
  | 0, _ => false
  | n + 1, P => ps_any n P || P n
theorem ps_any_iff {P : Nat → Bool} : ∀ {n : Nat}, ps_any n P = true ↔ ∃ i, i < n ∧ P i = true := by
  intro n
  induction n with
  | zero => simp [ps_any]
  | succ n ih =>
    rw [ps_any, Bool.or_eq_true, ih]
    constructor
    · rintro (⟨i, h1, h2⟩ | h)
      · exact ⟨i, by omega, h2⟩
      · exact ⟨n, by omega, h⟩
    · rintro ⟨i, h1, h2⟩
      by_cases e : i = n
      · subst e; exact Or.inr h2
      · exact Or.inl ⟨i, by omega, h2⟩
def ps_lo (P : Nat → Bool) : Nat → Nat
  | 0 => 1000
  | n + 1 => if P (59 - n) then 59 - n else ps_lo P n
theorem ps_lo_spec (P : Nat → Bool) : ∀ k, k ≤ 60 → (ps_lo P k = 1000 ∧ ∀ t, 60 - k ≤ t → t < 60 → P t = false) ∨ (60 - k ≤ ps_lo P k ∧ ps_lo P k < 60 ∧ P (ps_lo P k) = true ∧ ∀ t, 60 - k ≤ t → t < ps_lo P k → P t = false) := by
  intro k
  induction k with
  | zero => intro _; exact Or.inl ⟨rfl, fun t _ _ => by omega⟩
  | succ n ih =>
    intro hk
    rw [ps_lo]
    by_cases h : P (59 - n) = true
    · rw [if_pos h]
      exact Or.inr ⟨by omega, by omega, h, fun t _ _ => by omega⟩
    · rw [if_neg h]
      have h' : P (59 - n) = false := by simpa using h
      rcases ih (by omega) with ⟨h1, h2⟩ | ⟨h1, h2, h3, h4⟩
      · refine Or.inl ⟨h1, fun t q1 q2 => ?_⟩
        by_cases e : t = 59 - n
        · subst e; exact h'
        · exact h2 t (by omega) q2
      · refine Or.inr ⟨by omega, h2, h3, fun t q1 q2 => ?_⟩
        by_cases e : t = 59 - n
        · subst e; exact h'
        · exact h4 t (by omega) q2
theorem ps_lo_iff {P : Nat → Bool} {l : Nat} (hl : l < 1000) : ps_lo P 60 ≤ l ↔ ∃ t, t < 60 ∧ t ≤ l ∧ P t = true := by
  rcases ps_lo_spec P 60 (by omega) with ⟨h1, h2⟩ | ⟨h1, h2, h3, h4⟩
  · rw [h1]
    constructor
    · intro h; omega
    · rintro ⟨t, q1, q2, q3⟩
      rw [h2 t (by omega) q1] at q3
      exact absurd q3 (by decide)
  · constructor
    · intro h; exact ⟨_, h2, h, h3⟩
    · rintro ⟨t, q1, q2, q3⟩
      by_cases e : t < ps_lo P 60
      · rw [h4 t (by omega) e] at q3; exact absurd q3 (by decide)
      · omega
theorem ps_lo_congr {P Q : Nat → Bool} (h : ∀ t, t < 60 → P t = Q t) : ∀ k, k ≤ 60 → ps_lo P k = ps_lo Q k := by
  intro k
  induction k with
  | zero => intro _; rfl
  | succ n ih => intro hk; rw [ps_lo, ps_lo, h _ (by omega), ih (by omega)]
theorem ps_lo_max (P : Nat → Bool) : ps_lo P 60 < 60 ∨ ps_lo P 60 = 1000 := by
  rcases ps_lo_spec P 60 (by omega) with h | h
  · exact Or.inr h.1
  · exact Or.inl h.2.1
def ps_pace (k : Nat) : Nat := if k = 1 then 1 else if k = 2 then 3 else if k = 3 then 6 else 2
def ps_at (A : ps_T) (m t b : Nat) : Nat := if t % ps_pace (A 1 m) = 0 ∧ (b = 0 ∨ (t ≠ 0 ∧ A 3 m ≠ 1)) then A (10 + m) ((t / ps_pace (A 1 m) - b) % A 3 m) else 99
def ps_dry (A : ps_T) (f u t : Nat) : Bool := decide (f ≤ t ∧ t ≤ u) && !decide (A 7 0 ≤ t ∧ t < A 7 0 + A 7 1)
def ps_rd (A : ps_T) (c f u m t b : Nat) : Bool := ps_dry A f u t && decide (ps_at A m t b = c)
/-- at minute t side b of news w is read by one at c from f until u; h: the men at home -/
def ps_P (A : ps_T) (h c f u w b t : Nat) : Bool := ps_any (A 0 0) (fun m => decide (A 2 m = w) && !h.testBit m && ps_rd A c f u m t b)
def ps_L (A : ps_T) (h c f u w b : Nat) : Nat := ps_lo (ps_P A h c f u w b) 60
def ps_W (A : ps_T) (h c f u w : Nat) : Nat := max (ps_L A h c f u w 0) (ps_L A h c f u w 1)
def ps_mask : Nat → (Nat → Bool) → Nat
  | 0, _ => 0
  | n + 1, P => ps_mask n P ||| (if P n then 2 ^ n else 0)
def ps_cnt : Nat → (Nat → Bool) → Nat
  | 0, _ => 0
  | n + 1, P => ps_cnt n P + (if P n then 1 else 0)
def ps_sum : Nat → (Nat → Nat) → Nat
  | 0, _ => 0
  | n + 1, P => ps_sum n P + P n
def ps_K (A : ps_T) (h c f u : Nat) : Nat := ps_cnt 10 (fun w => decide (ps_W A h c f u w ≤ 59))
def ps_pairs (A : ps_T) (h : Nat) : Nat := ps_sum (A 0 1) (fun r => ps_K A h (A 4 r) (A 5 r) (A 6 r))
theorem ps_mask_t (P : Nat → Bool) : ∀ n i, (ps_mask n P).testBit i = (decide (i < n) && P i) := by
  intro n
  induction n with
  | zero => intro i; simp [ps_mask]
  | succ n ih =>
    intro i
    rw [ps_mask, Nat.testBit_or, ih]
    by_cases e : i = n
    · subst e
      by_cases h : P i = true
      · simp [h]
      · simp [h]
    · have e2 : (if P n = true then 2 ^ n else 0).testBit i = false := by
        by_cases h : P n = true
        · rw [if_pos h]; simp [Nat.testBit_two_pow]; omega
        · rw [if_neg h]; simp
      rw [e2]
      by_cases q : i < n
      · simp [q, show i < n + 1 by omega]
      · simp [q, show ¬ i < n + 1 by omega]
theorem ps_mask_lt (P : Nat → Bool) : ∀ n, ps_mask n P < 2 ^ n := by
  intro n
  apply Nat.lt_pow_two_of_testBit
  intro i hi
  rw [ps_mask_t]
  simp [show ¬ i < n by omega]
theorem ps_mask_eq {v n : Nat} {P : Nat → Bool} (h1 : v < 2 ^ n) (h : ∀ i, i < n → v.testBit i = P i) : v = ps_mask n P := by
  apply Nat.eq_of_testBit_eq
  intro i
  rw [ps_mask_t]
  by_cases e : i < n
  · simp [e, h i e]
  · simp [e]
    exact Nat.testBit_lt_two_pow (Nat.lt_of_lt_of_le h1 (Nat.pow_le_pow_right (by decide) (by omega)))
theorem ps_mask_congr {n : Nat} {P Q : Nat → Bool} (h : ∀ i, i < n → P i = Q i) : ps_mask n P = ps_mask n Q := by
  apply ps_mask_eq (ps_mask_lt P n)
  intro i hi
  rw [ps_mask_t, h i hi]
  simp [hi]
theorem ps_cnt_congr {P Q : Nat → Bool} : ∀ {n : Nat}, (∀ i, i < n → P i = Q i) → ps_cnt n P = ps_cnt n Q := by
  intro n
  induction n with
  | zero => intro _; rfl
  | succ n ih => intro h; rw [ps_cnt, ps_cnt, ih (fun i hi => h i (by omega)), h n (by omega)]
theorem ps_cnt_le (P : Nat → Bool) : ∀ n, ps_cnt n P ≤ n := by
  intro n
  induction n with
  | zero => exact Nat.le_refl _
  | succ n ih => rw [ps_cnt]; split <;> omega
theorem ps_sum_congr {P Q : Nat → Nat} : ∀ {n : Nat}, (∀ i, i < n → P i = Q i) → ps_sum n P = ps_sum n Q := by
  intro n
  induction n with
  | zero => intro _; rfl
  | succ n ih => intro h; rw [ps_sum, ps_sum, ih (fun i hi => h i (by omega)), h n (by omega)]
theorem ps_K_le (A : ps_T) (h c f u : Nat) : ps_K A h c f u ≤ 10 := ps_cnt_le _ _
theorem ps_sum_le {P : Nat → Nat} {B : Nat} (hP : ∀ i, P i ≤ B) : ∀ n, ps_sum n P ≤ n * B := by
  intro n
  induction n with
  | zero => simp [ps_sum]
  | succ n ih => rw [ps_sum, Nat.succ_mul]; have := hP n; omega
theorem ps_pairs_le {A : ps_T} (hok : ps_Ok A) (h : Nat) : ps_pairs A h ≤ 40 := by
  have q := ps_sum_le (P := fun r => ps_K A h (A 4 r) (A 5 r) (A 6 r)) (B := 10) (fun r => ps_K_le A h _ _ _) (A 0 1)
  have := hok.2.1
  unfold ps_pairs
  omega
/-! 32 bit masks -/
theorem ps_or (a b : Nat) : nI a ||| nI b = nI (a ||| b) := by
  apply Int32.toBitVec_inj.mp
  apply BitVec.eq_of_toNat_eq
  show ((BitVec.ofNat 32 a) ||| (BitVec.ofNat 32 b)).toNat = (BitVec.ofNat 32 (a ||| b)).toNat
  rw [BitVec.toNat_or, BitVec.toNat_ofNat, BitVec.toNat_ofNat, BitVec.toNat_ofNat, Nat.or_mod_two_pow]
theorem ps_and (a b : Nat) : nI a &&& nI b = nI (a &&& b) := by
  apply Int32.toBitVec_inj.mp
  apply BitVec.eq_of_toNat_eq
  show ((BitVec.ofNat 32 a) &&& (BitVec.ofNat 32 b)).toNat = (BitVec.ofNat 32 (a &&& b)).toNat
  rw [BitVec.toNat_and, BitVec.toNat_ofNat, BitVec.toNat_ofNat, BitVec.toNat_ofNat, Nat.and_mod_two_pow]
theorem ps_shl1 : ∀ w, w < 16 → (1 : Int32) <<< (nI w &&& 31) = nI (2 ^ w) := by decide +kernel
theorem ps_sh32 : ∀ w, w < 16 → ((nI w &&& 31).toBitVec.smod 32).toNat = w := by decide +kernel
theorem ps_shb {v w : Nat} (hv : v < 2 ^ 31) (hw : w < 16) : (nI v >>> (nI w &&& 31)) &&& (1 : Int32) = nI (v / 2 ^ w % 2) := by
  rw [pk_shrN hv _ w (ps_sh32 w hw)]
  exact pk_andN (Nat.lt_of_le_of_lt (Nat.div_le_self _ _) (by omega)) 1 (by decide)
theorem ps_bit {v w : Nat} (hv : v < 2 ^ 31) (hw : w < 16) : ((nI v >>> (nI w &&& 31)) &&& (1 : Int32)) = (1 : Int32) ↔ v.testBit w = true := by
  rw [ps_shb hv hw, Nat.testBit_eq_decide_div_mod_eq, decide_eq_true_eq]
  exact nI_eq (b := 1) (by omega) (by decide)
theorem ps_pop : ∀ v, v < 1024 → f_J6_bitCount_0f7a4 (nI v) = nI (ps_cnt 10 (fun w => v.testBit w)) := by decide +kernel
theorem ps_popm (P : Nat → Bool) : f_J6_bitCount_0f7a4 (nI (ps_mask 10 P)) = nI (ps_cnt 10 P) := by
  rw [ps_pop _ (ps_mask_lt P 10)]
  congr 1
  apply ps_cnt_congr
  intro i hi
  rw [ps_mask_t]
  simp [hi]
