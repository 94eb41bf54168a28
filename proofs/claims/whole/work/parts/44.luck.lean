/-! pure: luck, mean -/
theorem ps_10n {v : Nat} (hv : v ≤ 10) : (10 : Int32) - nI v = nI (10 - v) := pk_sub (a := 10) hv
def ps_od (v s : Nat) : Nat → Nat
  | 0 => 1
  | m + 1 => ps_od v s m * (if s.testBit m = true then v else 10 - v)
theorem ps_od_le {v : Nat} (hv : v ≤ 10) (s : Nat) : ∀ m, ps_od v s m ≤ 10 ^ m := by
  intro m
  induction m with
  | zero => exact Nat.le_refl _
  | succ m ih =>
    rw [show ps_od v s (m + 1) = ps_od v s m * (if s.testBit m = true then v else 10 - v) from rfl, Nat.pow_succ]
    exact Nat.mul_le_mul ih (by split <;> omega)
theorem ps_wt_l {A : ps_T} {σ : vz_I} {T v h o : Nat} (hok : ps_Ok A) (hC : ps_C A σ T) (hv : v ≤ 10) (ho : o < 16) (hh : ∀ m, m < A 0 0 → o.testBit m = !h.testBit m) : ∀ n i, i ≤ A 0 0 → A 0 0 - i < n → f_X7_weight_5 n T (nI v) (nI o) (lN (ps_od v h i)) (nI i) σ = some (lN (ps_od v h (A 0 0))) := by
  have o1 := hok.1
  intro n
  induction n with
  | zero => intro i _ q; omega
  | succ n ih =>
    intro i hi hn
    rw [f_X7_weight_5_s, hC.1]
    by_cases e : A 0 0 ≤ i
    · obtain rfl : i = A 0 0 := by omega
      rw [if_pos (nI_le (Nat.le_refl _) (by omega))]
    · have q := ih (i + 1) (by omega) (by omega)
      rw [show ps_od v h (i + 1) = ps_od v h i * (if h.testBit i = true then v else 10 - v) from rfl] at q
      have t := hh i (by omega)
      rw [if_neg (nI_ge (by omega) (by omega)), ps_10n hv, nI_l (by omega), nI_l (by omega), lN_mul, lN_mul, nI_1]
      by_cases z : h.testBit i = true
      · rw [z] at t
        rw [if_neg (fun w => by rw [(ps_bit (by omega) (by omega)).mp w] at t; cases t)]
        rw [if_pos z] at q
        exact q
      · have z' : h.testBit i = false := by simpa using z
        rw [z'] at t
        rw [if_pos ((ps_bit (by omega) (by omega)).mpr t)]
        rw [if_neg z] at q
        exact q
theorem ps_wt {A : ps_T} {σ : vz_I} {T v h o : Nat} (hok : ps_Ok A) (hC : ps_C A σ T) (hv : v ≤ 10) (ho : o < 16) (hh : ∀ m, m < A 0 0 → o.testBit m = !h.testBit m) : f_X7_weight T (nI v) (nI o) σ = some (lN (ps_od v h (A 0 0))) :=
  ps_wt_l hok hC hv ho hh vz_fu 0 (by omega) (by have := hok.1; have : vz_fu = 1000000 := rfl; omega)
theorem ps_wa_l {A : ps_T} {σ : vz_I} {T : Nat} (hok : ps_Ok A) (hC : ps_C A σ T) : ∀ n i, i ≤ A 0 0 → A 0 0 - i < n → f_X7_weightOfAll_4 n T (lN (10 ^ i)) (nI i) σ = some (lN (10 ^ A 0 0)) := by
  have o1 := hok.1
  intro n
  induction n with
  | zero => intro i _ q; omega
  | succ n ih =>
    intro i hi hn
    rw [f_X7_weightOfAll_4_s, hC.1]
    by_cases e : A 0 0 ≤ i
    · obtain rfl : i = A 0 0 := by omega
      rw [if_pos (nI_le (Nat.le_refl _) (by omega))]
    · rw [if_neg (nI_ge (by omega) (by omega)), show lN (10 ^ i) * (10 : Int64) = lN (10 ^ (i + 1)) by rw [Nat.pow_succ]; exact lN_mul _ 10, nI_1]
      exact ih (i + 1) (by omega) (by omega)
theorem ps_wa {A : ps_T} {σ : vz_I} {T : Nat} (hok : ps_Ok A) (hC : ps_C A σ T) : f_X7_weightOfAll T σ = some (lN (10 ^ A 0 0)) :=
  ps_wa_l hok hC vz_fu 0 (by omega) (by have := hok.1; have : vz_fu = 1000000 := rfl; omega)
/-! sums, turned round -/
theorem ps_sum_front (f : Nat → Nat) : ∀ n, ps_sum (n + 1) f = f 0 + ps_sum n (fun i => f (i + 1)) := by
  intro n
  induction n with
  | zero => simp [ps_sum]
  | succ n ih =>
    rw [show ps_sum (n + 1 + 1) f = ps_sum (n + 1) f + f (n + 1) from rfl, ih, show ps_sum (n + 1) (fun i => f (i + 1)) = ps_sum n (fun i => f (i + 1)) + f (n + 1) from rfl]
    omega
theorem ps_sum_rev (f : Nat → Nat) : ∀ n, ps_sum n (fun i => f (n - 1 - i)) = ps_sum n f := by
  intro n
  induction n with
  | zero => rfl
  | succ n ih =>
    have e : ps_sum n (fun i => f (n + 1 - 1 - (i + 1))) = ps_sum n (fun i => f (n - 1 - i)) := ps_sum_congr (fun i hi => by rw [show n + 1 - 1 - (i + 1) = n - 1 - i by omega])
    rw [ps_sum_front, e, ih, show ps_sum (n + 1) f = ps_sum n f + f n from rfl, show n + 1 - 1 - 0 = n by omega]
    omega
theorem ps_com {o n : Nat} (h : o < 2 ^ n) : ∀ m, m < n → o.testBit m = !(2 ^ n - 1 - o).testBit m := by
  intro m hm
  rw [show 2 ^ n - 1 - o = 2 ^ n - (o + 1) by omega, Nat.testBit_two_pow_sub_succ h]
  simp [hm]
theorem ps_p16 {n : Nat} (h : n ≤ 4) : 2 ^ n ≤ 16 := Nat.pow_le_pow_right (n := 2) (by omega) h
theorem ps_t4 {n : Nat} (h : n ≤ 4) : 10 ^ n ≤ 10000 := Nat.pow_le_pow_right (n := 10) (by omega) h
/-! the greatest divisor -/
theorem ps_cz {b : Nat} (hb : b < 2 ^ 63) : lg_cmp (lN b) 0 = 0 ↔ b = 0 := by
  have h0 : (0 : Int64) = lN 0 := rfl
  unfold lg_cmp
  rw [h0]
  simp only [gt_iff_lt]
  by_cases e : b = 0
  · subst e
    exact ⟨fun _ => rfl, fun _ => by rw [if_neg (fun w => by rw [pk_lLT (by decide) (by decide)] at w; omega), if_pos rfl]⟩
  · rw [if_pos ((pk_lLT (by omega) hb).mpr (by omega))]
    exact ⟨fun w => absurd w (by decide), fun w => absurd w e⟩
theorem ps_lne {b : Nat} (hb : b < 2 ^ 63) (h : b ≠ 0) : ¬ lN b = 0 := fun w => h ((pk_lEQ hb (by decide)).mp (show lN b = lN 0 from w))
theorem ps_gr (a b : Nat) : Nat.gcd a b = Nat.gcd b (a % b) := (Nat.gcd_comm a b).trans ((Nat.gcd_rec b a).trans (Nat.gcd_comm _ _))
theorem ps_half {b c k : Nat} (hc : 0 < c) (h : c < b) (hb : b < 2 ^ (k + 1)) : b % c < 2 ^ k := by
  have d := Nat.mod_lt b hc
  have e := Nat.div_add_mod b c
  have f := Nat.mul_le_mul_left c (Nat.div_pos (Nat.le_of_lt h) hc)
  rw [Nat.pow_succ] at hb
  omega
theorem ps_gd : ∀ (k a b i n : Nat), b < 2 ^ k → k ≤ 60 → i + 2 * k ≤ 199 → 2 * k < n → a < 2 ^ 63 → f_X8_greatestDivisor_3 n (lN a) (lN b) (nI i) = some (lN (Nat.gcd a b)) := by
  intro k
  induction k with
  | zero =>
    intro a b i n hb _ hi hn ha
    obtain ⟨n, rfl⟩ : ∃ m, n = m + 1 := ⟨n - 1, by omega⟩
    obtain rfl : b = 0 := by simpa using hb
    rw [f_X8_greatestDivisor_3_s, if_neg (show ¬ (200 : Int32) ≤ nI i from nI_ge (b := 200) (by omega) (by omega)), if_pos ((ps_cz (by omega)).mpr rfl), Nat.gcd_zero_right]
  | succ k ih =>
    intro a b i n hb hk hi hn ha
    obtain ⟨n, rfl⟩ : ∃ m, n = m + 1 + 1 := ⟨n - 2, by omega⟩
    have hb' : b < 2 ^ 63 := Nat.lt_of_lt_of_le hb (Nat.pow_le_pow_right (by omega) (by omega))
    rw [f_X8_greatestDivisor_3_s, if_neg (show ¬ (200 : Int32) ≤ nI i from nI_ge (b := 200) (by omega) (by omega))]
    by_cases e : b = 0
    · subst e
      rw [if_pos ((ps_cz (by omega)).mpr rfl), Nat.gcd_zero_right]
    · have hc := Nat.mod_lt a (show 0 < b by omega)
      rw [if_neg (fun w => e ((ps_cz hb').mp w)), if_neg (ps_lne hb' e), pk_lRem ha (by omega) hb', nI_1, f_X8_greatestDivisor_3_s, if_neg (show ¬ (200 : Int32) ≤ nI (i + 1) from nI_ge (b := 200) (by omega) (by omega)), ps_gr a b]
      by_cases f : a % b = 0
      · rw [f, if_pos ((ps_cz (by omega)).mpr rfl), Nat.gcd_zero_right]
      · rw [if_neg (fun w => f ((ps_cz (by omega)).mp w)), if_neg (ps_lne (by omega) f), pk_lRem hb' (by omega) (by omega), nI_1, ps_gr b (a % b)]
        exact ih (a % b) (b % (a % b)) (i + 1 + 1) n (ps_half (by omega) hc hb) (by omega) (by omega) (by omega) (by omega)
theorem ps_lw_l {j0 j2 : Int64} {x4 : Int32} : ∀ (n a b : Nat), b < n → (0 < a ∨ 0 < b) → a < 2 ^ 63 → b < 2 ^ 63 → f_X9_lowest_6 n j0 j2 x4 (lN a) (lN b) = some (if x4 = 0 then j0 / lN (Nat.gcd a b) else j2 / lN (Nat.gcd a b)) := by
  intro n
  induction n with
  | zero => intro a b h; omega
  | succ n ih =>
    intro a b hn h0 ha hb
    rw [f_X9_lowest_6_s]
    by_cases e : b = 0
    · subst e
      rw [if_pos ((ps_cz (by omega)).mpr rfl), Nat.gcd_zero_right]
      by_cases z : x4 = 0
      · rw [if_pos z, if_pos z, if_neg (ps_lne ha (by omega))]
      · rw [if_neg z, if_neg z, if_neg (ps_lne ha (by omega))]
    · have hc := Nat.mod_lt a (show 0 < b by omega)
      rw [if_neg (fun w => e ((ps_cz hb).mp w)), if_neg (ps_lne hb e), pk_lRem ha (by omega) hb, ps_gr a b]
      exact ih b (a % b) (by omega) (by omega) hb (by omega)
def ps_fr (u d : Nat) (x4 : Int32) : Int64 := if x4 = 0 then lN u / lN (Nat.gcd u d) else lN d / lN (Nat.gcd u d)
theorem ps_lw {u d : Nat} (x4 : Int32) (hu : u < 2 ^ 63) (h0 : 0 < d) (hd : d ≤ 10000) : f_X9_lowest (lN u) (lN d) x4 = some (ps_fr u d x4) :=
  ps_lw_l vz_fu u d (by have : vz_fu = 1000000 := rfl; omega) (by omega) hu (by omega)
theorem ps_pf {u d : Nat} (x4 : Int32) (hu : u < 2 ^ 63) (h0 : 0 < d) (hd : d ≤ 10000) : f_X8_partOfFraction (lN u) (lN d) x4 = some (ps_fr u d x4) := by
  have hg : 0 < Nat.gcd u d := Nat.gcd_pos_of_pos_right u h0
  have hl : Nat.gcd u d ≤ d := Nat.gcd_le_right u h0
  have e : f_X8_greatestDivisor (lN u) (lN d) = some (lN (Nat.gcd u d)) := ps_gd 14 u d 0 vz_fu (by omega) (by omega) (by omega) (by have : vz_fu = 1000000 := rfl; omega) hu
  have z1 : ¬ lg_cmp (lN (Nat.gcd u d)) 0 = 0 := fun w => by have := (ps_cz (by omega)).mp w; omega
  have z2 : ¬ lN (Nat.gcd u d) = 0 := ps_lne (by omega) (by omega)
  have z3 : ∀ j : Int64, f_X8_partOfFraction_17 (lN (Nat.gcd u d)) j = some (j / lN (Nat.gcd u d)) := fun j => by
    unfold f_X8_partOfFraction_17
    rw [if_neg z1, if_neg z2]
  unfold f_X8_partOfFraction ps_fr
  rw [e, vz_b1, z3, z3]
  split <;> rfl
/-! the sums over who stays at home -/
def ps_G (v n : Nat) (X : Nat → Nat) (s : Nat) : Nat := ps_od v s n * X s
def ps_up (v n : Nat) (X : Nat → Nat) : Nat := ps_sum (2 ^ n) (ps_G v n X)
theorem ps_up_lt {v n : Nat} {X : Nat → Nat} (hv : v ≤ 10) (hn : n ≤ 4) (hX : ∀ s, X s ≤ 40) : ps_up v n X < 2 ^ 63 := by
  have q := ps_sum_le (P := ps_G v n X) (B := 10000 * 40) (fun s => Nat.mul_le_mul (Nat.le_trans (ps_od_le hv s n) (ps_t4 hn)) (hX s)) (2 ^ n)
  have p := Nat.mul_le_mul_right (10000 * 40) (ps_p16 hn)
  unfold ps_up
  omega
theorem ps_up_rev (v n : Nat) (X : Nat → Nat) : ps_sum (2 ^ n) (fun o => ps_G v n X (2 ^ n - 1 - o)) = ps_up v n X := ps_sum_rev (ps_G v n X) (2 ^ n)
def ps_xl (A : ps_T) (r w s : Nat) : Nat := ps_mask 10 (fun w => decide (ps_W A s (A 4 r) (A 5 r) (A 6 r) w ≤ 59)) / 2 ^ w % 2
theorem ps_xl_le (A : ps_T) (r w s : Nat) : ps_xl A r w s ≤ 40 := by
  have := Nat.mod_lt (ps_mask 10 (fun w => decide (ps_W A s (A 4 r) (A 5 r) (A 6 r) w ≤ 59)) / 2 ^ w) (show 0 < 2 by omega)
  unfold ps_xl
  omega
theorem ps_xl_e {A : ps_T} {r w s : Nat} (hw : w < 10) : ps_xl A r w s = if ps_W A s (A 4 r) (A 5 r) (A 6 r) w = 1000 then 0 else 1 := by
  have t := ps_mask_t (fun w => decide (ps_W A s (A 4 r) (A 5 r) (A 6 r) w ≤ 59)) 10 w
  rw [Nat.testBit_eq_decide_div_mod_eq] at t
  have m := Nat.mod_lt (ps_mask 10 (fun w => decide (ps_W A s (A 4 r) (A 5 r) (A 6 r) w ≤ 59)) / 2 ^ w) (show 0 < 2 by omega)
  have mx := ps_W_max A s (A 4 r) (A 5 r) (A 6 r) w
  unfold ps_xl
  by_cases z : ps_W A s (A 4 r) (A 5 r) (A 6 r) w = 1000
  · rw [if_pos z]
    rw [z] at t
    simp at t
    omega
  · rw [if_neg z]
    have z' : ps_W A s (A 4 r) (A 5 r) (A 6 r) w ≤ 59 := by omega
    simp only [hw, z', decide_true, Bool.and_self, decide_eq_true_eq] at t
    exact t
theorem ps_luck8 {A : ps_T} {σ : vz_I} {v w r : Nat} {x4 : Int32} (hok : ps_Ok A) (hC : ps_C A σ 21) (hv : v ≤ 10) (hw : w < 10) (hr : r < A 0 1) : ∀ n o, o ≤ 2 ^ A 0 0 → 2 ^ A 0 0 - o < n → f_X8_luck_50 n (nI v) (nI w) x4 (21 + 13 + r) (lN (ps_sum o (fun o => ps_G v (A 0 0) (ps_xl A r w) (2 ^ A 0 0 - 1 - o)))) (nI o) σ = some (ps_fr (ps_up v (A 0 0) (ps_xl A r w)) (10 ^ A 0 0) x4) := by
  have o1 := hok.1
  have hp := ps_p16 o1
  obtain ⟨k1, k2, k3⟩ := ps_rOk hok hr
  intro n
  induction n with
  | zero => intro o _ q; omega
  | succ n ih =>
    intro o hi hn
    rw [f_X8_luck_50_s, hC.1, ps_shl1 _ (by omega)]
    by_cases e : 2 ^ A 0 0 ≤ o
    · obtain rfl : o = 2 ^ A 0 0 := by omega
      rw [if_pos (nI_le (Nat.le_refl _) (by omega)), ps_wa hok hC, vz_b1, ps_up_rev, ps_pf x4 (ps_up_lt hv o1 (ps_xl_le A r w)) (Nat.pow_pos (by omega)) (ps_t4 o1), vz_b1]
    · have q := ih (o + 1) (by omega) (by omega)
      rw [show ps_sum (o + 1) (fun o => ps_G v (A 0 0) (ps_xl A r w) (2 ^ A 0 0 - 1 - o)) = ps_sum o (fun o => ps_G v (A 0 0) (ps_xl A r w) (2 ^ A 0 0 - 1 - o)) + ps_od v (2 ^ A 0 0 - 1 - o) (A 0 0) * ps_xl A r w (2 ^ A 0 0 - 1 - o) from rfl] at q
      have hh := ps_com (show o < 2 ^ A 0 0 by omega)
      have hb := ps_mask_lt (fun w => decide (ps_W A (2 ^ A 0 0 - 1 - o) (A 4 r) (A 5 r) (A 6 r) w ≤ 59)) 10
      have hx := ps_xl_le A r w (2 ^ A 0 0 - 1 - o)
      rw [if_neg (nI_ge (by omega) (by omega)), ps_wt hok hC hv (by omega) hh, vz_b1, ps_wn hok hC (ps_rcOf hC hr) k1 k2 k3 (by omega) hh (show 59 < 60 by omega) ps_span_day.symm, vz_b1, ps_shb (by omega) (by omega), nI_l (show ps_mask 10 (fun w => decide (ps_W A (2 ^ A 0 0 - 1 - o) (A 4 r) (A 5 r) (A 6 r) w ≤ 59)) / 2 ^ w % 2 < 2 ^ 31 by unfold ps_xl at hx; omega), lN_mul, lN_add, nI_1]
      exact q
theorem ps_mean8 {A : ps_T} {σ : vz_I} {v : Nat} {x4 : Int32} (hok : ps_Ok A) (hC : ps_C A σ 21) (hv : v ≤ 10) : ∀ n o, o ≤ 2 ^ A 0 0 → 2 ^ A 0 0 - o < n → f_X8_mean_26 n (nI v) x4 (lN (ps_sum o (fun o => ps_G v (A 0 0) (ps_pairs A) (2 ^ A 0 0 - 1 - o)))) (nI o) σ = some (ps_fr (ps_up v (A 0 0) (ps_pairs A)) (10 ^ A 0 0) x4) := by
  have o1 := hok.1
  have hp := ps_p16 o1
  intro n
  induction n with
  | zero => intro o _ q; omega
  | succ n ih =>
    intro o hi hn
    rw [f_X8_mean_26_s, hC.1, ps_shl1 _ (by omega)]
    by_cases e : 2 ^ A 0 0 ≤ o
    · obtain rfl : o = 2 ^ A 0 0 := by omega
      rw [if_pos (nI_le (Nat.le_refl _) (by omega)), ps_wa hok hC, vz_b1, ps_up_rev, ps_pf x4 (ps_up_lt hv o1 (ps_pairs_le hok)) (Nat.pow_pos (by omega)) (ps_t4 o1), vz_b1]
    · have q := ih (o + 1) (by omega) (by omega)
      rw [show ps_sum (o + 1) (fun o => ps_G v (A 0 0) (ps_pairs A) (2 ^ A 0 0 - 1 - o)) = ps_sum o (fun o => ps_G v (A 0 0) (ps_pairs A) (2 ^ A 0 0 - 1 - o)) + ps_od v (2 ^ A 0 0 - 1 - o) (A 0 0) * ps_pairs A (2 ^ A 0 0 - 1 - o) from rfl] at q
      have hh := ps_com (show o < 2 ^ A 0 0 by omega)
      have hx := ps_pairs_le hok (2 ^ A 0 0 - 1 - o)
      rw [if_neg (nI_ge (by omega) (by omega)), ps_wt hok hC hv (by omega) hh, vz_b1, ps_pr hok hC (by omega) hh, vz_b1, nI_l (by omega), lN_mul, lN_add, nI_1]
      exact q
/-! the reference -/
def ps_H (σ σ' : vz_I) : Prop := (∀ b, b ≠ 108 → b ≠ 114 → b ≠ 115 → σ' b = σ b) ∧ ∀ j, j ≠ 18 → σ' 108 j = σ 108 j
theorem ps_H_refl (σ : vz_I) : ps_H σ σ := ⟨fun _ _ _ _ => rfl, fun _ _ => rfl⟩
theorem ps_H_trans {σ τ υ : vz_I} (h : ps_H σ τ) (g : ps_H τ υ) : ps_H σ υ := ⟨fun b h1 h2 h3 => by rw [g.1 b h1 h2 h3, h.1 b h1 h2 h3], fun j hj => by rw [g.2 j hj, h.2 j hj]⟩
def ps_F (A : ps_T) (σ : vz_I) : Prop := ps_M A (σ 109) 0 ∧ σ 108 1 = nI (A 0 0) ∧ σ 108 2 = nI (A 0 1)
theorem ps_F_H {A : ps_T} {σ σ' : vz_I} (h : ps_F A σ) (g : ps_H σ σ') : ps_F A σ' := ⟨by rw [g.1 109 (by omega) (by omega) (by omega)]; exact h.1, by rw [g.2 1 (by omega)]; exact h.2.1, by rw [g.2 2 (by omega)]; exact h.2.2⟩
theorem ps_h52 {A : ps_T} {σ : vz_I} {v s : Nat} {x2 x3 x4 : Int32} {j5 j7 : Int64} {k35 : Int32 → Int32 → Int32 → Int32 → Int64 → Int64 → Int32 → vz_I → Option (Int64 × vz_I)} (hok : ps_Ok A) (h1 : σ 108 1 = nI (A 0 0)) (hv : v ≤ 10) (hs : s < 16) : ∀ n i, i ≤ A 0 0 → A 0 0 - i < n → f_X9_byHomes_52 k35 n (nI v) x2 x3 x4 j5 j7 (nI s) (lN (ps_od v s i)) (nI i) σ = f_X9_byHomes_52 k35 (0 + 1) (nI v) x2 x3 x4 j5 j7 (nI s) (lN (ps_od v s (A 0 0))) (nI (A 0 0)) σ := by
  have o1 := hok.1
  intro n
  induction n with
  | zero => intro i _ q; omega
  | succ n ih =>
    intro i hi hn
    by_cases e : A 0 0 ≤ i
    · obtain rfl : i = A 0 0 := by omega
      rw [f_X9_byHomes_52_s, f_X9_byHomes_52_s, h1, if_pos (nI_le (Nat.le_refl _) (by omega)), if_pos (nI_le (Nat.le_refl _) (by omega))]
    · have q := ih (i + 1) (by omega) (by omega)
      rw [show ps_od v s (i + 1) = ps_od v s i * (if s.testBit i = true then v else 10 - v) from rfl] at q
      rw [f_X9_byHomes_52_s _ n, h1, if_neg (nI_ge (by omega) (by omega)), ps_10n hv, nI_l (by omega), nI_l (by omega), lN_mul, lN_mul, nI_1]
      by_cases z : s.testBit i = true
      · rw [if_pos z] at q
        rw [if_pos ((ps_bit (by omega) (by omega)).mpr z)]
        exact q
      · rw [if_neg z] at q
        rw [if_neg (fun w => z ((ps_bit (by omega) (by omega)).mp w))]
        exact q
def ps_hst (A : ps_T) (v : Nat) (X : Nat → Nat) (x2 x3 x4 : Int32) : Prop := ∀ (s : Nat) (σ : vz_I) (j5 j7 : Int64) (k35 : Int32 → Int32 → Int32 → Int32 → Int64 → Int64 → Int32 → vz_I → Option (Int64 × vz_I)), s < 16 → ps_F A σ → ∃ σ', f_X9_byHomes_52 k35 (0 + 1) (nI v) x2 x3 x4 j5 j7 (nI s) (lN (ps_od v s (A 0 0))) (nI (A 0 0)) σ = k35 (nI v) x2 x3 x4 (j5 + lN (ps_od v s (A 0 0) * X s)) j7 (nI (s + 1)) σ' ∧ ps_H σ σ'
theorem ps_bh {A : ps_T} {v : Nat} {X : Nat → Nat} {x2 x3 x4 : Int32} (hok : ps_Ok A) (hv : v ≤ 10) (hX : ∀ s, X s ≤ 40) (hst : ps_hst A v X x2 x3 x4) : ∀ (n s : Nat) (σ : vz_I), ps_F A σ → s ≤ 2 ^ A 0 0 → 2 ^ A 0 0 - s < n → ∃ σ', f_X9_byHomes_35 n (nI v) x2 x3 x4 (lN (ps_sum s (ps_G v (A 0 0) X))) (lN (10 ^ A 0 0)) (nI s) σ = some (ps_fr (ps_up v (A 0 0) X) (10 ^ A 0 0) x4, vz_up σ' 108 18 0) ∧ ps_H σ σ' := by
  have o1 := hok.1
  have hp := ps_p16 o1
  intro n
  induction n with
  | zero => intro s σ _ _ q; omega
  | succ n ih =>
    intro s σ hF hi hn
    rw [f_X9_byHomes_35_s, hF.2.1, ps_shl1 _ (by omega)]
    by_cases e : 2 ^ A 0 0 ≤ s
    · obtain rfl : s = 2 ^ A 0 0 := by omega
      refine ⟨σ, ?_, ps_H_refl σ⟩
      rw [if_pos (nI_le (Nat.le_refl _) (by omega)), show ps_sum (2 ^ A 0 0) (ps_G v (A 0 0) X) = ps_up v (A 0 0) X from rfl, ps_lw x4 (ps_up_lt hv o1 hX) (Nat.pow_pos (by omega)) (ps_t4 o1), vz_b1]
    · have q := ps_h52 (x2 := x2) (x3 := x3) (x4 := x4) (j5 := lN (ps_sum s (ps_G v (A 0 0) X))) (j7 := lN (10 ^ A 0 0)) (k35 := f_X9_byHomes_35 n) hok hF.2.1 hv (show s < 16 by omega) vz_fu 0 (by omega) (by have : vz_fu = 1000000 := rfl; omega)
      rw [show lN (ps_od v s 0) = (1 : Int64) from rfl, show nI 0 = (0 : Int32) from rfl] at q
      obtain ⟨τ, t1, t2⟩ := hst s σ (lN (ps_sum s (ps_G v (A 0 0) X))) (lN (10 ^ A 0 0)) (f_X9_byHomes_35 n) (by omega) hF
      obtain ⟨σ', e1, e2⟩ := ih (s + 1) τ (ps_F_H hF t2) (by omega) (by omega)
      refine ⟨σ', ?_, ps_H_trans t2 e2⟩
      rw [if_neg (nI_ge (by omega) (by omega)), q, t1, lN_add]
      exact e1
theorem ps_bh9_l {A : ps_T} {σ : vz_I} {x1 x2 x3 x4 : Int32} {j5 : Int64} (hok : ps_Ok A) (h1 : σ 108 1 = nI (A 0 0)) : ∀ n i, i ≤ A 0 0 → A 0 0 - i < n → f_X9_byHomes_9 n x1 x2 x3 x4 j5 (lN (10 ^ i)) (nI i) σ = f_X9_byHomes_35 vz_fu x1 x2 x3 x4 j5 (lN (10 ^ A 0 0)) 0 σ := by
  have o1 := hok.1
  intro n
  induction n with
  | zero => intro i _ q; omega
  | succ n ih =>
    intro i hi hn
    rw [f_X9_byHomes_9_s, h1]
    by_cases e : A 0 0 ≤ i
    · obtain rfl : i = A 0 0 := by omega
      rw [if_pos (nI_le (Nat.le_refl _) (by omega))]
    · rw [if_neg (nI_ge (by omega) (by omega)), show lN (10 ^ i) * (10 : Int64) = lN (10 ^ (i + 1)) by rw [Nat.pow_succ]; exact lN_mul _ 10, nI_1]
      exact ih (i + 1) (by omega) (by omega)
theorem ps_homes {A : ps_T} {σ : vz_I} {v : Nat} {X : Nat → Nat} {x2 x3 x4 : Int32} (hok : ps_Ok A) (hF : ps_F A σ) (hf : σ 108 18 = 0) (hv : v ≤ 10) (hX : ∀ s, X s ≤ 40) (hst : ps_hst A v X x2 x3 x4) : ∃ σ', f_X9_byHomes (nI v) x2 x3 x4 σ = some (ps_fr (ps_up v (A 0 0) X) (10 ^ A 0 0) x4, σ') ∧ ps_Q σ σ' := by
  have o1 := hok.1
  have hp := ps_p16 o1
  have q := ps_bh9_l (x1 := nI v) (x2 := x2) (x3 := x3) (x4 := x4) (j5 := 0) hok hF.2.1 vz_fu 0 (by omega) (by have : vz_fu = 1000000 := rfl; omega)
  obtain ⟨τ, t1, t2⟩ := ps_bh hok hv hX hst vz_fu 0 σ hF (Nat.zero_le _) (by have : vz_fu = 1000000 := rfl; omega)
  refine ⟨vz_up τ 108 18 0, q.trans t1, fun b hb => ?_, fun k hk => ?_, fun j hj => ?_⟩
  · rw [vz_up_ne _ _ _ (by omega), t2.1 b (by omega) (by omega) (by omega)]
  · rw [vz_up_ne _ _ _ (by omega), t2.1 109 (by omega) (by omega) (by omega)]
  · by_cases z : j = 18
    · subst z
      rw [ps_upS, hf]
    · rw [ps_upN _ _ z, t2.2 j z]
theorem ps_hstp {A : ps_T} {σ : vz_I} {s : Nat} (hok : ps_Ok A) (hs : s < 16) (hF : ps_F A σ) : ∃ σ', f_X9_pairsOn 0 (vz_up σ 108 18 (nI s)) = some (nI (ps_pairs A s), σ') ∧ ps_N A σ' s 60 ∧ ps_H σ σ' := by
  have hE : ps_E A (vz_up σ 108 18 (nI s)) 0 s := ⟨by rw [vz_up_ne _ _ _ (by omega)]; exact hF.1, by rw [ps_upN _ _ (by omega)]; exact hF.2.1, by rw [ps_upN _ _ (by omega)]; exact hF.2.2, ps_upS _ _ _ _⟩
  obtain ⟨τ, t1, t2, t3⟩ := ps_po hok hE (by omega) hs
  exact ⟨τ, t1, t2, fun b h1 h2 h3 => by rw [t3 b h2 h3, vz_up_ne _ _ _ h1], fun j hj => by rw [t3 108 (by omega) (by omega), ps_upN _ _ hj]⟩
theorem ps_hst_m {A : ps_T} {v : Nat} {x3 x4 : Int32} (hok : ps_Ok A) : ps_hst A v (ps_pairs A) (-4) x3 x4 := by
  have o1 := hok.1
  intro s σ j5 j7 k35 hs hF
  obtain ⟨τ, t1, t2, t3⟩ := ps_hstp hok hs hF
  have hx := ps_pairs_le hok s
  refine ⟨τ, ?_, t3⟩
  rw [f_X9_byHomes_52_s, hF.2.1, if_pos (nI_le (Nat.le_refl _) (by omega)), t1, vz_b2, if_pos rfl]
  unfold f_X9_byHomes_138
  rw [nI_l (by omega), lN_mul, nI_1]
theorem ps_hst_l {A : ps_T} {v r w : Nat} {x4 : Int32} (hok : ps_Ok A) (hr : r < A 0 1) (hw : w < 10) : ps_hst A v (ps_xl A r w) (nI r) (nI w) x4 := by
  have o1 := hok.1
  have o2 := hok.2.1
  intro s σ j5 j7 k35 hs hF
  obtain ⟨τ, t1, t2, t3⟩ := ps_hstp hok hs hF
  refine ⟨τ, ?_, t3⟩
  rw [f_X9_byHomes_52_s, hF.2.1, if_pos (nI_le (Nat.le_refl _) (by omega)), t1, vz_b2, if_neg (ps_n4 (by omega)), ps_wo hok t2 hr hw, vz_b1, ps_xl_e hw]
  unfold f_X9_byHomes_138
  by_cases z : ps_W A s (A 4 r) (A 5 r) (A 6 r) w = 1000
  · rw [if_pos ((ps_never A s _ _ _ w).mpr z), if_pos z, nI_1, show (0 : Int32).toInt64 = lN 0 from rfl, lN_mul]
  · rw [if_neg (fun q => z ((ps_never A s _ _ _ w).mp q)), if_neg z, nI_1, show (1 : Int32).toInt64 = lN 1 from rfl, lN_mul]
theorem sm_luck : sim_luck ps_R := by
  intro σ h x1 x2 x3 x4
  have h' := h
  obtain ⟨⟨A, a1, a2, a3, a4, a5, a6, a7, a8⟩, hP, hF, hS, hX⟩ := h'
  have o1 := a1.1
  have hp := ps_p16 o1
  by_cases hv : 0 ≤ x1.toInt ∧ x1.toInt ≤ (10 : Nat)
  · have hv8 : f_X8_isWithin x1 0 10 = 1 := ps_w0t (n := 10) (by decide) hv
    have hv9 : f_X9_in x1.toInt64 0 10 = 1 := ps_ilt 10 (by decide) hv
    by_cases hr : 0 ≤ x2.toInt ∧ x2.toInt < A 0 1
    · obtain ⟨r, hr', rfl⟩ := ps_ofM hr
      by_cases hn : 0 ≤ x3.toInt ∧ x3.toInt ≤ (9 : Nat)
      · have hn8 : f_X8_isNews x3 = 1 := by rw [ps_n8, if_pos hn]
        have hn9 : f_X9_isNews x3 = 1 := by rw [ps_n9, if_pos hn]
        by_cases hw : 0 ≤ x4.toInt ∧ x4.toInt ≤ (1 : Nat)
        · have hw9 : f_X9_in x4.toInt64 0 1 = 1 := ps_ilt 1 (by decide) hw
          obtain ⟨v, hv', rfl⟩ := ps_ofL hv
          obtain ⟨w, hw', rfl⟩ := ps_ofL hn
          obtain ⟨ω, w1, w2⟩ := ps_homes (x4 := x4) a1 (σ := σ) ⟨a3, a4, a5⟩ hX.2.2 hv' (ps_xl_le A r w) (ps_hst_l a1 hr' (by omega))
          refine ⟨ps_fr (ps_up v (A 0 0) (ps_xl A r w)) (10 ^ A 0 0) x4, σ, ω, ⟨?_, rfl⟩, ?_, ps_R_Q h w2⟩
          · unfold f_X8_luck
            rw [ps_rdY a1 a2 hr', vz_b1, vz_mo, hv8, if_neg ps_10, hn8, if_neg ps_10, ps_e8, if_pos hw, if_neg ps_10]
            exact ps_luck8 a1 a2 hv' (by omega) hr' vz_fu 0 (Nat.zero_le _) (by have : vz_fu = 1000000 := rfl; omega)
          · unfold f_X9_luck
            rw [hv9, if_neg ps_10, ps_isRdY a1 a5 hr', if_neg ps_10, hn9, if_neg ps_10, hw9, if_neg ps_10, w1, vz_b2]
        · have hw9 : f_X9_in x4.toInt64 0 1 = 0 := ps_ilf 1 (by decide) hw
          refine ⟨-1, σ, σ, ⟨?_, rfl⟩, ?_, h⟩
          · unfold f_X8_luck
            rw [ps_rdY a1 a2 hr', vz_b1, vz_mo, hv8, if_neg ps_10, hn8, if_neg ps_10, ps_e8, if_neg hw, if_pos rfl]
          · unfold f_X9_luck
            rw [hv9, if_neg ps_10, ps_isRdY a1 a5 hr', if_neg ps_10, hn9, if_neg ps_10, hw9, if_pos rfl]
      · refine ⟨-1, σ, σ, ⟨?_, rfl⟩, ?_, h⟩
        · unfold f_X8_luck
          rw [ps_rdY a1 a2 hr', vz_b1, vz_mo, hv8, if_neg ps_10, ps_n8, if_neg hn, if_pos rfl]
        · unfold f_X9_luck
          rw [hv9, if_neg ps_10, ps_isRdY a1 a5 hr', if_neg ps_10, ps_n9, if_neg hn, if_pos rfl]
    · refine ⟨-1, σ, σ, ⟨?_, rfl⟩, ?_, h⟩
      · unfold f_X8_luck
        rw [ps_rdN a1 a2 hr, vz_b1, vz_mo, hv8, if_neg ps_10]
      · unfold f_X9_luck
        rw [hv9, if_neg ps_10, ps_isRd a1 a5, if_neg hr, if_pos rfl]
  · have hv8 : f_X8_isWithin x1 0 10 = 0 := ps_w0f (n := 10) (by decide) hv
    have hv9 : f_X9_in x1.toInt64 0 10 = 0 := ps_ilf 10 (by decide) hv
    refine ⟨-1, σ, σ, ⟨?_, rfl⟩, ?_, h⟩
    · unfold f_X8_luck
      by_cases hr : 0 ≤ x2.toInt ∧ x2.toInt < A 0 1
      · obtain ⟨r, hr', rfl⟩ := ps_ofM hr
        rw [ps_rdY a1 a2 hr', vz_b1, vz_mo, hv8, if_pos rfl]
      · rw [ps_rdN a1 a2 hr, vz_b1, vz_mo, hv8, if_pos rfl]
    · unfold f_X9_luck
      rw [hv9, if_pos rfl]
theorem sm_mean : sim_mean ps_R := by
  intro σ h x1 x2
  have h' := h
  obtain ⟨⟨A, a1, a2, a3, a4, a5, a6, a7, a8⟩, hP, hF, hS, hX⟩ := h'
  have o1 := a1.1
  have hp := ps_p16 o1
  by_cases hv : 0 ≤ x1.toInt ∧ x1.toInt ≤ (10 : Nat)
  · have hv8 : f_X8_isWithin x1 0 10 = 1 := ps_w0t (n := 10) (by decide) hv
    have hv9 : f_X9_in x1.toInt64 0 10 = 1 := ps_ilt 10 (by decide) hv
    by_cases hw : 0 ≤ x2.toInt ∧ x2.toInt ≤ (1 : Nat)
    · have hw9 : f_X9_in x2.toInt64 0 1 = 1 := ps_ilt 1 (by decide) hw
      obtain ⟨v, hv', rfl⟩ := ps_ofL hv
      obtain ⟨ω, w1, w2⟩ := ps_homes (x3 := -4) (x4 := x2) a1 (σ := σ) ⟨a3, a4, a5⟩ hX.2.2 hv' (ps_pairs_le a1) (ps_hst_m a1)
      refine ⟨ps_fr (ps_up v (A 0 0) (ps_pairs A)) (10 ^ A 0 0) x2, σ, ω, ⟨?_, rfl⟩, ?_, ps_R_Q h w2⟩
      · unfold f_X8_mean
        rw [hv8, if_neg ps_10, ps_e8, if_pos hw, if_neg ps_10]
        exact ps_mean8 a1 a2 hv' vz_fu 0 (Nat.zero_le _) (by have : vz_fu = 1000000 := rfl; omega)
      · unfold f_X9_mean
        rw [hv9, if_neg ps_10, hw9, if_neg ps_10, w1, vz_b2]
    · have hw9 : f_X9_in x2.toInt64 0 1 = 0 := ps_ilf 1 (by decide) hw
      refine ⟨-1, σ, σ, ⟨?_, rfl⟩, ?_, h⟩
      · unfold f_X8_mean
        rw [hv8, if_neg ps_10, ps_e8, if_neg hw, if_pos rfl]
      · unfold f_X9_mean
        rw [hv9, if_neg ps_10, hw9, if_pos rfl]
  · have hv8 : f_X8_isWithin x1 0 10 = 0 := ps_w0f (n := 10) (by decide) hv
    have hv9 : f_X9_in x1.toInt64 0 10 = 0 := ps_ilf 10 (by decide) hv
    refine ⟨-1, σ, σ, ⟨?_, rfl⟩, ?_, h⟩
    · unfold f_X8_mean
      rw [hv8, if_pos rfl]
    · unfold f_X9_mean
      rw [hv9, if_pos rfl]
