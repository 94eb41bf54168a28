/-! pure: rows of minutes -/
def ps_b (j : Int64) (t : Nat) : Bool := j.toBitVec.getLsbD t
theorem ps_b_ext {x y : Int64} (h : ∀ t, t < 64 → ps_b x t = ps_b y t) : x = y := by
  apply Int64.toBitVec_inj.mp
  apply BitVec.eq_of_getLsbD_eq
  intro i hi
  exact h i hi
theorem ps_b_and (x y : Int64) (t : Nat) : ps_b (x &&& y) t = (ps_b x t && ps_b y t) := by simp [ps_b]
theorem ps_b_or (x y : Int64) (t : Nat) : ps_b (x ||| y) t = (ps_b x t || ps_b y t) := by simp [ps_b]
theorem ps_b_0 (t : Nat) : ps_b 0 t = false := by simp [ps_b]
theorem ps_b_not (x : Int64) {t : Nat} (h : t < 64) : ps_b (x ^^^ (-1 : Int64)) t = !ps_b x t := by
  have e : ∀ t, t < 64 → (Int64.toBitVec (-1)).getLsbD t = true := by decide +kernel
  simp only [ps_b, Int64.toBitVec_xor, BitVec.getLsbD_xor, e t h]
  simp
theorem ps_sh64 : ∀ t, t < 64 → ((lN t &&& 63).toBitVec.smod 64).toNat = t := by decide +kernel
theorem ps_b_shl (x : Int64) {s t : Nat} (hs : s < 64) (ht : t < 64) : ps_b (x <<< ((nI s).toInt64 &&& 63)) t = (decide (s ≤ t) && ps_b x (t - s)) := by
  rw [nI_l (by omega)]
  simp only [ps_b, Int64.toBitVec_shiftLeft, BitVec.shiftLeft_eq', ps_sh64 s hs, BitVec.getLsbD_shiftLeft]
  by_cases h : t < s
  · simp [h, ht, show ¬ s ≤ t by omega]
  · simp [h, ht, show s ≤ t by omega]
theorem ps_b_day : ∀ t, t < 64 → ps_b 1152921504606846975 t = decide (t < 60) := by decide +kernel
theorem ps_b_one : ∀ s, s < 64 → ∀ t, t < 64 → ps_b ((1 : Int64) <<< (lN s &&& 63)) t = decide (t = s) := by decide +kernel
theorem ps_b_low : ∀ s, s < 60 → ∀ t, t < 64 → ps_b (((1 : Int64) <<< (lN s &&& 63)) - 1) t = decide (t < s) := by decide +kernel
theorem ps_b_down : ∀ y, y < 60 → ∀ t, t < 64 → ps_b (((1152921504606846975 : Int64).toUInt64 >>> (((59 : Int32) - nI y).toInt64.toUInt64 &&& Int64.toUInt64 63)).toInt64) t = decide (t ≤ y) := by decide +kernel
theorem ps_b_span {x y t : Nat} (hx : x < 60) (hy : y < 60) (ht : t < 64) : ps_b (f_X8_span (nI x) (nI y)) t = decide (x ≤ t ∧ t ≤ y) := by
  unfold f_X8_span
  rw [ps_b_and, ps_b_down y hy t ht, ps_b_shl _ (by omega) ht, ps_b_day _ (by omega)]
  by_cases h1 : x ≤ t <;> by_cases h2 : t ≤ y <;> simp [h1, h2]
  omega
theorem ps_span_day : f_X8_span 0 (nI 59) = 1152921504606846975 := by decide +kernel
theorem ps_b_wet {a n t : Nat} (ha : a < 60) (hn : n < 60) (ht : t < 64) : ps_b ((((1 : Int64) <<< ((nI n).toInt64 &&& 63)) - (1 : Int64)) <<< ((nI a).toInt64 &&& 63)) t = decide (a ≤ t ∧ t < a + n) := by
  rw [ps_b_shl _ (by omega) ht, nI_l (by omega), ps_b_low n hn _ (by omega)]
  by_cases h1 : a ≤ t <;> by_cases h2 : t < a + n <;> simp [h1, h2] <;> omega
theorem ps_b_set {j : Int64} {t : Nat} (ht : t < 60) : (lg_cmp ((j >>> ((nI t).toInt64 &&& 63)) &&& (1 : Int64)) (1 : Int64)) = 0 ↔ ps_b j t = true := by
  have e1 : ∀ k, k < 64 → (Int64.toBitVec 1).getLsbD k = decide (k = 0) := by decide +kernel
  have e : ps_b (j >>> ((nI t).toInt64 &&& 63)) 0 = ps_b j t := by
    rw [nI_l (by omega)]
    simp only [ps_b, Int64.toBitVec_shiftRight, BitVec.sshiftRight_eq', ps_sh64 t (by omega), BitVec.getLsbD_sshiftRight]
    simp [show t < 64 by omega]
  rw [← e]
  generalize (j >>> ((nI t).toInt64 &&& 63)) = y
  constructor
  · intro h
    have h2 : y &&& 1 = 1 := by
      unfold lg_cmp at h
      by_cases q : (y &&& 1) > 1
      · rw [if_pos q] at h; exact absurd h (by decide)
      · rw [if_neg q] at h
        by_cases q2 : (y &&& 1) = 1
        · exact q2
        · rw [if_neg q2] at h; exact absurd h (by decide)
    have h3 : ps_b (y &&& 1) 0 = true := by rw [h2]; decide
    rw [ps_b_and] at h3
    simp at h3
    exact h3.1
  · intro h
    have h2 : y &&& 1 = 1 := by
      apply ps_b_ext
      intro k hk
      rw [ps_b_and]
      unfold ps_b at *
      rw [e1 k hk]
      by_cases q : k = 0
      · subst q; simp [h]
      · simp [q]
    rw [h2]
    decide
theorem ps_b_zero (x : Int64) : (lg_cmp x (0 : Int64)) = 0 ↔ ∀ t, t < 64 → ps_b x t = false := by
  constructor
  · intro h
    have h2 : x = 0 := by
      unfold lg_cmp at h
      by_cases q : x > 0
      · rw [if_pos q] at h; exact absurd h (by decide)
      · rw [if_neg q] at h
        by_cases q2 : x = 0
        · exact q2
        · rw [if_neg q2] at h; exact absurd h (by decide)
    subst h2
    intro t _
    exact ps_b_0 t
  · intro h
    have h2 : x = 0 := ps_b_ext (fun t ht => by rw [h t ht, ps_b_0])
    rw [h2]
    decide
/-- a row repeated -/
theorem ps_rep {p : Nat} (hp : 0 < p) (j0 : Int64) : ∀ (n i : Nat) (j : Int64), (∀ t, t < 64 → (ps_b j t = true ↔ ∃ k, k < 2 ^ i ∧ p * k ≤ t ∧ ps_b j0 (t - p * k) = true)) → p * 2 ^ i < 120 → 60 - p * 2 ^ i < n → ∃ j', f_X8_repeated_2 n j (nI (p * 2 ^ i)) = some j' ∧ ∀ t, t < 64 → (ps_b j' t = true ↔ t < 60 ∧ ∃ k, p * k ≤ t ∧ ps_b j0 (t - p * k) = true) := by
  intro n
  induction n with
  | zero => intro i j _ _ h; omega
  | succ n ih =>
    intro i j hj hb hn
    have h2 : 0 < 2 ^ i := Nat.two_pow_pos i
    have hpos : 0 < p * 2 ^ i := Nat.mul_pos hp h2
    rw [f_X8_repeated_2_s, if_neg (nI_nle hpos (by omega))]
    by_cases e : 60 ≤ p * 2 ^ i
    · rw [if_pos (show (60 : Int32) ≤ nI (p * 2 ^ i) from nI_le (a := 60) e (by omega))]
      refine ⟨_, rfl, fun t ht => ?_⟩
      rw [ps_b_and, ps_b_day t ht, Bool.and_eq_true, decide_eq_true_eq, hj t ht]
      constructor
      · rintro ⟨⟨k, _, k2, k3⟩, h⟩
        exact ⟨h, k, k2, k3⟩
      · rintro ⟨h, k, k2, k3⟩
        refine ⟨⟨k, ?_, k2, k3⟩, h⟩
        apply Nat.lt_of_mul_lt_mul_left (a := p)
        omega
    · rw [if_neg (show ¬ (60 : Int32) ≤ nI (p * 2 ^ i) from nI_ge (b := 60) (by omega) (by omega)), show nI (p * 2 ^ i) * (2 : Int32) = nI (p * 2 ^ (i + 1)) by rw [show (2 : Int32) = nI 2 from rfl, pk_mul, Nat.pow_succ, Nat.mul_assoc]]
      have e3 : p * 2 ^ (i + 1) = 2 * (p * 2 ^ i) := by rw [Nat.pow_succ, ← Nat.mul_assoc, Nat.mul_comm]
      refine ih (i + 1) _ (fun t ht => ?_) (by omega) (by omega)
      rw [ps_b_or, ps_b_shl _ (by omega) ht, Bool.or_eq_true, Bool.and_eq_true, decide_eq_true_eq, hj t ht]
      have e2 : 2 ^ (i + 1) = 2 ^ i + 2 ^ i := by rw [Nat.pow_succ]; omega
      constructor
      · rintro (⟨k, k1, k2, k3⟩ | ⟨h, h'⟩)
        · exact ⟨k, by omega, k2, k3⟩
        · obtain ⟨k, k1, k2, k3⟩ := (hj _ (by omega)).mp h'
          refine ⟨k + 2 ^ i, by omega, by rw [Nat.mul_add]; omega, ?_⟩
          rw [Nat.mul_add, show t - (p * k + p * 2 ^ i) = t - p * 2 ^ i - p * k by omega]
          exact k3
      · rintro ⟨k, k1, k2, k3⟩
        by_cases q : k < 2 ^ i
        · exact Or.inl ⟨k, q, k2, k3⟩
        · obtain ⟨k', rfl⟩ : ∃ k', k = k' + 2 ^ i := ⟨k - 2 ^ i, by omega⟩
          rw [Nat.mul_add] at k2 k3
          refine Or.inr ⟨by omega, (hj _ (by omega)).mpr ⟨k', by omega, by omega, ?_⟩⟩
          rw [show t - p * 2 ^ i - p * k' = t - (p * k' + p * 2 ^ i) by omega]
          exact k3
theorem ps_repeated {p : Nat} (hp : 0 < p) (hp2 : p < 60) (j : Int64) : ∃ j', f_X8_repeated j (nI p) = some j' ∧ ∀ t, t < 64 → (ps_b j' t = true ↔ t < 60 ∧ ∃ k, p * k ≤ t ∧ ps_b j (t - p * k) = true) := by
  have q := ps_rep hp j vz_fu 0 j (fun t ht => by
    constructor
    · intro h
      exact ⟨0, by simp, by omega, h⟩
    · rintro ⟨k, k1, k2, k3⟩
      obtain rfl : k = 0 := by simpa using k1
      exact k3) (by omega) (by have : vz_fu = 1000000 := rfl; omega)
  rw [Nat.pow_zero, Nat.mul_one] at q
  exact q
