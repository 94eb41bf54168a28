/-! pure: the reference's day -/
def ps_E (A : ps_T) (σ : vz_I) (p h : Nat) : Prop := ps_M A (σ 109) p ∧ σ 108 1 = nI (A 0 0) ∧ σ 108 2 = nI (A 0 1) ∧ σ 108 18 = nI h
theorem ps_E_fr {A : ps_T} {σ σ' : vz_I} {p h : Nat} (hE : ps_E A σ p h) (h1 : σ' 109 = σ 109) (h2 : σ' 108 = σ 108) : ps_E A σ' p h := by
  unfold ps_E
  rw [h1, h2]
  exact hE
theorem ps_paceOn {A : ps_T} {σ : vz_I} {p h m : Nat} (hok : ps_Ok A) (hE : ps_E A σ p h) (hp : p + 61 ≤ 305) (hm : m < A 0 0) : f_X9_paceOn (nI p) (nI m) σ = some (nI (ps_pace (A 1 m))) := by
  have o1 := hok.1
  have k := (hok.2.2.2.2.2.1 m hm).1
  have g := (hE.1.2.2.2.1 m hm).1
  unfold f_X9_paceOn
  rw [nI_add, if_pos ((ps_in (by omega)).mpr (by omega)), nI_clamp (by omega), g]
  rcases (show A 1 m = 0 ∨ A 1 m = 1 ∨ A 1 m = 2 ∨ A 1 m = 3 by omega) with e | e | e | e <;> rw [e] <;> decide
theorem ps_atOn {A : ps_T} {σ : vz_I} {p h m t b : Nat} (hok : ps_Ok A) (hE : ps_E A σ p h) (hp : p + 61 ≤ 305) (hh : h < 16) (hm : m < A 0 0) (ht : t < 60) (hb : b ≤ 1) : f_X9_atOn (nI p) (nI m) (nI t) (nI b) σ = some (if h.testBit m = true then -4 else ps_v (ps_at A m t b)) := by
  have o1 := hok.1
  obtain ⟨ok1, ok2, ok3, ok4, ok5⟩ := hok.2.2.2.2.2.1 m hm
  obtain ⟨g1, g2, g3, g4⟩ := hE.1.2.2.2.1 m hm
  obtain ⟨p1, p2⟩ := ps_pace_pos (A 1 m)
  have hd : t / ps_pace (A 1 m) ≤ t := Nat.div_le_self _ _
  have hpz : ¬ nI (ps_pace (A 1 m)) = 0 := nI_ne0 p1 (by omega)
  have hm2 : t % ps_pace (A 1 m) ≤ t := Nat.mod_le _ _
  unfold f_X9_atOn
  rw [ps_paceOn hok hE hp hm, vz_b1, show nI p + (8 : Int32) = nI (p + 8) from nI_add p 8, nI_add, if_pos ((ps_in (by omega)).mpr (by omega)), nI_clamp (by omega), g3, hE.2.2.2]
  by_cases e : h.testBit m = true
  · rw [if_pos ((ps_bit (by omega) (by omega)).mpr e), if_pos e]
  · rw [if_neg (fun q => e ((ps_bit (by omega) (by omega)).mp q)), if_neg e, if_neg hpz, pk_rem (by omega) p1 (by omega)]
    have e12 : (nI p + (12 : Int32)) + ((4 : Int32) * nI m) = nI (p + 12 + 4 * m) := by
      rw [show nI p + (12 : Int32) = nI (p + 12) from nI_add p 12, show (4 : Int32) * nI m = nI (4 * m) from pk_mul 4 m, nI_add]
    have go : ∀ s, s < 60 → f_X9_atOn_58 (nI p) (nI m) (nI t) (nI b) (nI (ps_pace (A 1 m))) (nI (A 3 m)) σ = some (nI (A (10 + m) ((t / ps_pace (A 1 m) - b) % A 3 m))) ∨ ¬ (b ≤ t / ps_pace (A 1 m)) := by
      intro _ _
      by_cases hbt : b ≤ t / ps_pace (A 1 m)
      · left
        have hlt := Nat.mod_lt (t / ps_pace (A 1 m) - b) ok3
        unfold f_X9_atOn_58
        rw [if_neg hpz, if_neg (nI_ne0 ok3 (by omega)), pk_div (by omega) p1 (by omega), e12]
        rcases (show b = 0 ∨ b = 1 by omega) with rfl | rfl
        · rw [if_pos (by rfl), show nI (t / ps_pace (A 1 m)) - (0 : Int32) = nI (t / ps_pace (A 1 m) - 0) by simp, pk_rem (by omega) ok3 (by omega), nI_add, if_pos ((ps_in (by omega)).mpr (by omega)), nI_clamp (by omega), g4 _ hlt]
        · obtain ⟨q, hq⟩ : ∃ q, t / ps_pace (A 1 m) = q + 1 := ⟨t / ps_pace (A 1 m) - 1, by omega⟩
          have hq2 : t / ps_pace (A 1 m) - 1 = q := by omega
          rw [hq2] at hlt ⊢
          rw [if_neg (by decide), if_neg (nI_ne0 ok3 (by omega)), hq, nI_pred, pk_rem (by omega) ok3 (by omega), nI_add, if_pos ((ps_in (by omega)).mpr (by omega)), nI_clamp (by omega), g4 _ hlt]
      · exact Or.inr hbt
    by_cases e2 : t % ps_pace (A 1 m) = 0
    · have hdm := Nat.div_add_mod t (ps_pace (A 1 m))
      rw [if_pos (by rw [e2]; rfl)]
      by_cases e3 : b = 0 ∨ (t ≠ 0 ∧ A 3 m ≠ 1)
      · have hbt : b ≤ t / ps_pace (A 1 m) := by
          rcases e3 with rfl | ⟨e3, _⟩
          · exact Nat.zero_le _
          · refine Nat.le_trans hb ?_
            apply Nat.pos_of_ne_zero
            intro z
            rw [z, Nat.mul_zero] at hdm
            omega
        have hgo : f_X9_atOn_58 (nI p) (nI m) (nI t) (nI b) (nI (ps_pace (A 1 m))) (nI (A 3 m)) σ = some (nI (A (10 + m) ((t / ps_pace (A 1 m) - b) % A 3 m))) := (go 0 (by omega)).resolve_right (fun q => q hbt)
        have hlt := ok5 _ (Nat.mod_lt (t / ps_pace (A 1 m) - b) ok3)
        have hat : ps_at A m t b = A (10 + m) ((t / ps_pace (A 1 m) - b) % A 3 m) := by
          unfold ps_at
          rw [if_pos ⟨e2, e3⟩]
        have hv : ps_v (A (10 + m) ((t / ps_pace (A 1 m) - b) % A 3 m)) = nI (A (10 + m) ((t / ps_pace (A 1 m) - b) % A 3 m)) := by
          unfold ps_v
          rw [if_neg (by omega)]
        rw [hat, hv]
        by_cases e5 : b = 0
        · rw [if_pos (show nI b = 0 by rw [e5]; rfl)]
          exact hgo
        · have e4 : t ≠ 0 ∧ A 3 m ≠ 1 := e3.resolve_left e5
          rw [if_neg (nI_ne0 (by omega) (by omega)), if_neg (nI_ne0 (by omega) (by omega)), if_neg (show ¬ nI (A 3 m) = (1 : Int32) from fun q => e4.2 ((nI_eq (b := 1) (by omega) (by omega)).mp q))]
          exact hgo
      · have hat : ps_at A m t b = 99 := by
          unfold ps_at
          rw [if_neg (fun q => e3 q.2)]
        have hb1 : b = 1 := by omega
        subst hb1
        rw [hat, if_neg (show ¬ nI 1 = 0 by decide)]
        by_cases e4 : t = 0
        · rw [if_pos (show nI t = 0 by rw [e4]; rfl)]
          rfl
        · rw [if_neg (nI_ne0 (by omega) (by omega)), if_pos (show nI (A 3 m) = (1 : Int32) by rw [show A 3 m = 1 by omega]; rfl)]
          rfl
    · have hat : ps_at A m t b = 99 := by
        unfold ps_at
        rw [if_neg (fun q => e2 q.1)]
      rw [hat, if_neg (nI_ne0 (by omega) (by omega))]
      rfl
def ps_rdh (A : ps_T) (h c f u m t b : Nat) : Bool := !h.testBit m && ps_rd A c f u m t b
theorem ps_v_eq {x c : Nat} (hx : x < 8 ∨ x = 99) (hc : c < 8) : ps_v x = nI c ↔ x = c := by
  unfold ps_v
  rcases hx with hx | hx
  · rw [if_neg (by omega)]
    exact nI_eq (by omega) (by omega)
  · rw [if_pos hx]
    constructor
    · intro q
      exfalso
      have z : (nI c).toInt = c := nI_toInt (by omega)
      rw [← q] at z
      have : (-4 : Int32).toInt = -4 := by decide
      omega
    · intro q; omega
theorem ps_readsOn {A : ps_T} {σ : vz_I} {p h r m t b : Nat} (hok : ps_Ok A) (hE : ps_E A σ p h) (hp : p + 61 ≤ 305) (hh : h < 16) (hr : r < A 0 1) (hm : m < A 0 0) (ht : t < 60) (hb : b ≤ 1) : f_X9_readsOn (nI p) (nI r) (nI m) (nI t) (nI b) σ = some (if ps_rdh A h (A 4 r) (A 5 r) (A 6 r) m t b = true then 1 else 0) := by
  have o2 := hok.2.1
  obtain ⟨k1, k2, k3⟩ := ps_rOk hok hr
  obtain ⟨g1, g2, g3⟩ := hE.1.2.2.2.2.1 r hr
  have w0 := hok.2.2.2.1
  have w1 := hok.2.2.2.2.1
  have w2 := hE.1.1
  have w3 := hE.1.2.1
  have hwet : f_X9_isWetOn (nI p) (nI t) σ = some (if A 7 0 ≤ t ∧ t < A 7 0 + A 7 1 then 1 else 0) := by
    unfold f_X9_isWetOn
    rw [show nI p + (40 : Int32) = nI (p + 40) from nI_add p 40, show nI p + (41 : Int32) = nI (p + 41) from nI_add p 41, if_pos ((ps_in (by omega)).mpr (by omega)), nI_clamp (by omega), w2, if_pos ((ps_in (by omega)).mpr (by omega)), if_pos ((ps_in (by omega)).mpr (by omega)), nI_clamp (by omega), w3, nI_add]
    by_cases q1 : A 7 0 ≤ t
    · rw [if_neg (nI_nlt q1 (by omega))]
      by_cases q2 : t < A 7 0 + A 7 1
      · rw [if_neg (nI_ge q2 (by omega)), if_pos ⟨q1, q2⟩]
      · rw [if_pos (nI_le (by omega) (by omega)), if_neg (fun q => q2 q.2)]
    · rw [if_pos (nI_lt (by omega) (by omega)), if_neg (fun q => q1 q.1)]
  unfold f_X9_readsOn ps_rdh ps_rd ps_dry
  rw [hwet, vz_b1]
  by_cases q : A 7 0 ≤ t ∧ t < A 7 0 + A 7 1
  · rw [if_pos q, if_neg ps_10, decide_eq_true q]
    simp
  · have e32 : nI p + (32 : Int32) + nI r = nI (p + 32 + r) := by rw [show nI p + (32 : Int32) = nI (p + 32) from nI_add p 32, nI_add]
    have e36 : nI p + (36 : Int32) + nI r = nI (p + 36 + r) := by rw [show nI p + (36 : Int32) = nI (p + 36) from nI_add p 36, nI_add]
    have e28 : nI p + (28 : Int32) + nI r = nI (p + 28 + r) := by rw [show nI p + (28 : Int32) = nI (p + 28) from nI_add p 28, nI_add]
    rw [if_neg q, if_pos rfl, e32, e36, e28, if_pos ((ps_in (by omega)).mpr (by omega)), if_pos ((ps_in (by omega)).mpr (by omega)), nI_clamp (by omega), nI_clamp (by omega), nI_clamp (by omega), g1, g2, g3, decide_eq_false q, ps_i, ps_x64, ps_x64, ps_x64, nI_toInt (by omega), nI_toInt (by omega), nI_toInt (by omega)]
    by_cases q2 : A 5 r ≤ t ∧ t ≤ A 6 r
    · rw [if_pos (show ((A 5 r : Nat) : Int) ≤ (t : Int) ∧ (t : Int) ≤ ((A 6 r : Nat) : Int) by omega), if_neg ps_10, ps_atOn hok hE hp hh hm ht hb, vz_b1, if_pos ((ps_in (by omega)).mpr (by omega)), decide_eq_true q2]
      by_cases e : h.testBit m = true
      · rw [if_pos e, e, if_neg]
        · simp
        · intro z
          have y : (nI (A 4 r)).toInt = (A 4 r : Nat) := nI_toInt (by omega)
          rw [← z] at y
          have : (-4 : Int32).toInt = -4 := by decide
          omega
      · have e' : h.testBit m = false := by simpa using e
        rw [if_neg e, e']
        by_cases z : ps_at A m t b = A 4 r
        · rw [if_pos ((ps_v_eq (ps_at_lt hok hm) k1).mpr z), decide_eq_true z]
          simp
        · rw [if_neg (fun y => z ((ps_v_eq (ps_at_lt hok hm) k1).mp y)), decide_eq_false z]
          simp
    · rw [if_neg (show ¬ (((A 5 r : Nat) : Int) ≤ (t : Int) ∧ (t : Int) ≤ ((A 6 r : Nat) : Int)) by omega), if_pos rfl, decide_eq_false q2]
      simp
/-! learnsOn -/
theorem ps_ln_step {A : ps_T} {σ : vz_I} {p h r m t : Nat} {k35 : Int32 → Int32 → vz_I → Option vz_I} {k41 : Int32 → Int32 → Int32 → vz_I → Option vz_I} (n : Nat) (hok : ps_Ok A) (hE : ps_E A σ p h) (hp : p + 61 ≤ 305) (hh : h < 16) (hr : r < A 0 1) (hm : m < A 0 0) (ht : t < 60) : f_X9_learnsOn_52 k35 k41 (n + 1) (nI p) (nI t) (nI m) (nI r) σ = f_X9_learnsOn_52 k35 k41 n (nI p) (nI t) (nI m) (nI (r + 1)) (vz_up (vz_up σ 114 (10 * r + A 2 m) (if ps_rdh A h (A 4 r) (A 5 r) (A 6 r) m t 0 = true then nI t else σ 114 (10 * r + A 2 m))) 115 (10 * r + A 2 m) (if ps_rdh A h (A 4 r) (A 5 r) (A 6 r) m t 1 = true then nI t else σ 115 (10 * r + A 2 m))) := by
  have o1 := hok.1
  have o2 := hok.2.1
  obtain ⟨ok1, ok2, -⟩ := hok.2.2.2.2.2.1 m hm
  obtain ⟨g1, g2, -⟩ := hE.1.2.2.2.1 m hm
  have eK : (10 : Int32) * nI r + nI (A 2 m) = nI (10 * r + A 2 m) := by rw [show (10 : Int32) * nI r = nI (10 * r) from pk_mul 10 r, nI_add]
  have hin : vz_in (nI (10 * r + A 2 m)) 40 := (ps_in (by omega)).mpr (by omega)
  have r0 := ps_readsOn (b := 0) hok hE hp hh hr hm ht (by omega)
  rw [show nI 0 = (0 : Int32) from rfl] at r0
  have r1 : ∀ x, f_X9_readsOn (nI p) (nI r) (nI m) (nI t) (1 : Int32) (vz_up σ 114 (10 * r + A 2 m) x) = some (if ps_rdh A h (A 4 r) (A 5 r) (A 6 r) m t 1 = true then 1 else 0) := fun x => ps_readsOn (b := 1) hok (ps_E_fr hE (vz_up_ne _ _ _ (by omega)) (vz_up_ne _ _ _ (by omega))) hp hh hr hm ht (by omega)
  have e115 : ∀ x, (vz_up σ 114 (10 * r + A 2 m) x) 115 = σ 115 := fun x => vz_up_ne _ _ _ (by omega)
  rw [f_X9_learnsOn_52_s, hE.2.2.1, if_neg (nI_ge hr (by omega)), show nI p + (4 : Int32) = nI (p + 4) from nI_add p 4, nI_add, if_pos ((ps_in (by omega)).mpr (by omega)), nI_clamp (show p + 4 + m < 2 ^ 31 by omega), g2, eK, nI_clamp (show 10 * r + A 2 m < 2 ^ 31 by omega), r0, vz_b1, nI_1]
  by_cases q0 : ps_rdh A h (A 4 r) (A 5 r) (A 6 r) m t 0 = true
  · rw [if_pos q0, if_neg ps_10, if_pos hin, vz_let, r1, vz_b1, e115]
    by_cases q1 : ps_rdh A h (A 4 r) (A 5 r) (A 6 r) m t 1 = true
    · rw [if_pos q1, if_neg ps_10, if_pos hin, vz_let, if_pos q0, if_pos q1]
    · rw [if_neg q1, if_pos rfl, if_pos hin, if_pos hin, vz_let, if_pos q0, if_neg q1]
  · rw [if_neg q0, if_pos rfl, if_pos hin, if_pos hin, vz_let, r1, vz_b1, e115]
    by_cases q1 : ps_rdh A h (A 4 r) (A 5 r) (A 6 r) m t 1 = true
    · rw [if_pos q1, if_neg ps_10, if_pos hin, vz_let, if_neg q0, if_pos q1]
    · rw [if_neg q1, if_pos rfl, if_pos hin, if_pos hin, vz_let, if_neg q0, if_neg q1]
def ps_c (A : ps_T) (h t r w b m : Nat) : Bool := decide (A 2 m = w) && !h.testBit m && ps_rd A (A 4 r) (A 5 r) (A 6 r) m t b
/-- while minute t = 59 - k is learnt: men before m are through, and of m the readers before r -/
def ps_J (A : ps_T) (σ : vz_I) (h k m r : Nat) : Prop := ∀ r', r' < A 0 1 → ∀ w, w < 10 → (σ 114 (10 * r' + w) = nI (if (ps_any m (ps_c A h (59 - k) r' w 0) || (decide (r' < r) && ps_c A h (59 - k) r' w 0 m)) = true then 59 - k else ps_lo (ps_P A h (A 4 r') (A 5 r') (A 6 r') w 0) k)) ∧ (σ 115 (10 * r' + w) = nI (if (ps_any m (ps_c A h (59 - k) r' w 1) || (decide (r' < r) && ps_c A h (59 - k) r' w 1 m)) = true then 59 - k else ps_lo (ps_P A h (A 4 r') (A 5 r') (A 6 r') w 1) k))
theorem ps_ln52 {A : ps_T} {p h m k : Nat} {k35 : Int32 → Int32 → vz_I → Option vz_I} {k41 : Int32 → Int32 → Int32 → vz_I → Option vz_I} (hok : ps_Ok A) (hp : p + 61 ≤ 305) (hh : h < 16) (hm : m < A 0 0) (hk : k < 60) : ∀ (n r : Nat) (σ : vz_I), ps_E A σ p h → r ≤ A 0 1 → A 0 1 - r < n → ps_J A σ h k m r → ∃ σ', f_X9_learnsOn_52 k35 k41 n (nI p) (nI (59 - k)) (nI m) (nI r) σ = k41 (nI p) (nI (59 - k)) (nI (m + 1)) σ' ∧ ps_J A σ' h k (m + 1) 0 ∧ ∀ b, b ≠ 114 → b ≠ 115 → σ' b = σ b := by
  have o1 := hok.1
  have o2 := hok.2.1
  obtain ⟨ok1, ok2, -⟩ := hok.2.2.2.2.2.1 m hm
  intro n
  induction n with
  | zero => intro r σ _ _ q; omega
  | succ n ih =>
    intro r σ hE hr hn hJ
    by_cases e : A 0 1 ≤ r
    · obtain rfl : r = A 0 1 := by omega
      rw [f_X9_learnsOn_52_s, hE.2.2.1, if_pos (nI_le (Nat.le_refl _) (by omega)), nI_1]
      refine ⟨σ, rfl, fun r' hr' w hw => ?_, fun _ _ _ => rfl⟩
      obtain ⟨j1, j2⟩ := hJ r' hr' w hw
      rw [decide_eq_true hr', Bool.true_and] at j1 j2
      rw [ps_any, ps_any, decide_eq_false (show ¬ r' < 0 by omega), Bool.false_and, Bool.false_and, Bool.or_false, Bool.or_false]
      exact ⟨j1, j2⟩
    · rw [ps_ln_step n hok hE hp hh (show r < A 0 1 by omega) hm (by omega)]
      generalize hs : (vz_up (vz_up σ 114 (10 * r + A 2 m) (if ps_rdh A h (A 4 r) (A 5 r) (A 6 r) m (59 - k) 0 = true then nI (59 - k) else σ 114 (10 * r + A 2 m))) 115 (10 * r + A 2 m) (if ps_rdh A h (A 4 r) (A 5 r) (A 6 r) m (59 - k) 1 = true then nI (59 - k) else σ 115 (10 * r + A 2 m))) = τ
      have t1 : ∀ b, b ≠ 114 → b ≠ 115 → τ b = σ b := fun b q1 q2 => by rw [← hs, vz_up_ne _ _ _ q2, vz_up_ne _ _ _ q1]
      have u0 : τ 114 = upd (σ 114) (10 * r + A 2 m) (if ps_rdh A h (A 4 r) (A 5 r) (A 6 r) m (59 - k) 0 = true then nI (59 - k) else σ 114 (10 * r + A 2 m)) := by rw [← hs, vz_up_ne _ _ _ (by omega), vz_up_self]
      have u1 : τ 115 = upd (σ 115) (10 * r + A 2 m) (if ps_rdh A h (A 4 r) (A 5 r) (A 6 r) m (59 - k) 1 = true then nI (59 - k) else σ 115 (10 * r + A 2 m)) := by rw [← hs, vz_up_self, vz_up_ne _ _ _ (by omega)]
      have hJ' : ps_J A τ h k m (r + 1) := by
        intro r' hr' w hw
        obtain ⟨j1, j2⟩ := hJ r' hr' w hw
        rw [u0, u1]
        by_cases q : 10 * r' + w = 10 * r + A 2 m
        · obtain rfl : r' = r := by omega
          obtain rfl : w = A 2 m := by omega
          rw [ps_updS, ps_updS, j1, j2, decide_eq_false (Nat.lt_irrefl r'), decide_eq_true (show r' < r' + 1 by omega), Bool.false_and, Bool.false_and, Bool.or_false, Bool.or_false, Bool.true_and, Bool.true_and]
          have ec : ∀ b, ps_c A h (59 - k) r' (A 2 m) b m = ps_rdh A h (A 4 r') (A 5 r') (A 6 r') m (59 - k) b := fun b => by
            unfold ps_c ps_rdh
            rw [decide_eq_true rfl, Bool.true_and]
          rw [ec, ec]
          constructor
          · cases ps_rdh A h (A 4 r') (A 5 r') (A 6 r') m (59 - k) 0 <;> cases ps_any m (ps_c A h (59 - k) r' (A 2 m) 0) <;> simp
          · cases ps_rdh A h (A 4 r') (A 5 r') (A 6 r') m (59 - k) 1 <;> cases ps_any m (ps_c A h (59 - k) r' (A 2 m) 1) <;> simp
        · rw [ps_updN _ _ q, ps_updN _ _ q, j1, j2]
          by_cases q2 : r' = r
          · subst q2
            have hne : ¬ A 2 m = w := by omega
            have ec : ∀ b, ps_c A h (59 - k) r' w b m = false := fun b => by
              unfold ps_c
              rw [decide_eq_false hne, Bool.false_and, Bool.false_and]
            rw [ec, ec, Bool.and_false, Bool.and_false]
            exact ⟨rfl, rfl⟩
          · rw [show decide (r' < r + 1) = decide (r' < r) from decide_eq_decide.mpr (by omega)]
            exact ⟨rfl, rfl⟩
      obtain ⟨σ', e1, e2, e3⟩ := ih (r + 1) τ (ps_E_fr hE (t1 _ (by omega) (by omega)) (t1 _ (by omega) (by omega))) (by omega) (by omega) hJ'
      exact ⟨σ', e1, e2, fun b q1 q2 => by rw [e3 b q1 q2, t1 b q1 q2]⟩
theorem ps_ln41 {A : ps_T} {p h k : Nat} {k35 : Int32 → Int32 → vz_I → Option vz_I} (hok : ps_Ok A) (hp : p + 61 ≤ 305) (hh : h < 16) (hk : k < 60) : ∀ (n m : Nat) (σ : vz_I), ps_E A σ p h → m ≤ A 0 0 → A 0 0 - m < n → ps_J A σ h k m 0 → ∃ σ', f_X9_learnsOn_41 k35 n (nI p) (nI (59 - k)) (nI m) σ = k35 (nI p) (nI (59 - k) + (-1)) σ' ∧ ps_J A σ' h k (A 0 0) 0 ∧ ∀ b, b ≠ 114 → b ≠ 115 → σ' b = σ b := by
  have o1 := hok.1
  have o2 := hok.2.1
  intro n
  induction n with
  | zero => intro r σ _ _ q; omega
  | succ n ih =>
    intro m σ hE hm hn hJ
    rw [f_X9_learnsOn_41_s, hE.2.1]
    by_cases e : A 0 0 ≤ m
    · obtain rfl : m = A 0 0 := by omega
      rw [if_pos (nI_le (Nat.le_refl _) (by omega))]
      exact ⟨σ, rfl, hJ, fun _ _ _ => rfl⟩
    · rw [if_neg (nI_ge (by omega) (by omega))]
      obtain ⟨τ, e1, e2, e3⟩ := ps_ln52 (k35 := k35) (k41 := f_X9_learnsOn_41 k35 n) hok hp hh (show m < A 0 0 by omega) hk vz_fu 0 σ hE (by omega) (by have : vz_fu = 1000000 := rfl; omega) hJ
      rw [show nI 0 = (0 : Int32) from rfl] at e1
      rw [e1]
      obtain ⟨σ', f1, f2, f3⟩ := ih (m + 1) τ (ps_E_fr hE (e3 _ (by omega) (by omega)) (e3 _ (by omega) (by omega))) (by omega) (by omega) e2
      exact ⟨σ', f1, f2, fun b q1 q2 => by rw [f3 b q1 q2, e3 b q1 q2]⟩
/-- what is learnt in the last k minutes -/
def ps_N (A : ps_T) (σ : vz_I) (h k : Nat) : Prop := ∀ r, r < A 0 1 → ∀ w, w < 10 → σ 114 (10 * r + w) = nI (ps_lo (ps_P A h (A 4 r) (A 5 r) (A 6 r) w 0) k) ∧ σ 115 (10 * r + w) = nI (ps_lo (ps_P A h (A 4 r) (A 5 r) (A 6 r) w 1) k)
theorem ps_ln35 {A : ps_T} {p h : Nat} (hok : ps_Ok A) (hp : p + 61 ≤ 305) (hh : h < 16) : ∀ (n k : Nat) (σ : vz_I), ps_E A σ p h → k ≤ 60 → 60 - k < n → ps_N A σ h k → ∃ σ', f_X9_learnsOn_35 n (nI p) (nI (60 - k) + (-1)) σ = some σ' ∧ ps_N A σ' h 60 ∧ ∀ b, b ≠ 114 → b ≠ 115 → σ' b = σ b := by
  have o1 := hok.1
  intro n
  induction n with
  | zero => intro r σ _ _ q; omega
  | succ n ih =>
    intro k σ hE hk hn hN
    rw [f_X9_learnsOn_35_s]
    by_cases e : k = 60
    · subst e
      rw [if_pos (by decide)]
      exact ⟨σ, rfl, hN, fun _ _ _ => rfl⟩
    · rw [show 60 - k = (59 - k) + 1 by omega, pk_m1, if_neg (nI_pos (by omega))]
      obtain ⟨τ, e1, e2, e3⟩ := ps_ln41 (k35 := f_X9_learnsOn_35 n) hok hp hh (show k < 60 by omega) vz_fu 0 σ hE (by omega) (by have : vz_fu = 1000000 := rfl; omega) (fun r' hr' w hw => by
        rw [ps_any, ps_any, decide_eq_false (show ¬ r' < 0 by omega), Bool.false_and, Bool.false_and, Bool.or_false, if_neg (by decide), if_neg (by decide)]
        exact hN r' hr' w hw)
      rw [show nI 0 = (0 : Int32) from rfl] at e1
      rw [e1]
      obtain ⟨σ', f1, f2, f3⟩ := ih (k + 1) τ (ps_E_fr hE (e3 _ (by omega) (by omega)) (e3 _ (by omega) (by omega))) (by omega) (by omega) (fun r hr w hw => by
        obtain ⟨j1, j2⟩ := e2 r hr w hw
        rw [decide_eq_false (show ¬ r < 0 by omega), Bool.false_and, Bool.or_false] at j1 j2
        rw [ps_lo, ps_lo]
        exact ⟨j1, j2⟩)
      rw [show 59 - k = 60 - (k + 1) by omega]
      exact ⟨σ', f1, f2, fun b q1 q2 => by rw [f3 b q1 q2, e3 b q1 q2]⟩
theorem ps_ln2 {A : ps_T} {p h : Nat} (hok : ps_Ok A) (hp : p + 61 ≤ 305) (hh : h < 16) : ∀ (n i : Nat) (σ : vz_I), ps_E A σ p h → i ≤ 40 → 40 - i < n → (∀ k, k < i → σ 114 k = 1000 ∧ σ 115 k = 1000) → ∃ σ', f_X9_learnsOn_2 n (nI p) (nI i) σ = some σ' ∧ ps_N A σ' h 60 ∧ ∀ b, b ≠ 114 → b ≠ 115 → σ' b = σ b := by
  have o2 := hok.2.1
  intro n
  induction n with
  | zero => intro r σ _ _ q; omega
  | succ n ih =>
    intro i σ hE hi hn h1
    rw [f_X9_learnsOn_2_s]
    by_cases e : i = 40
    · subst e
      rw [if_pos (by decide)]
      have q := ps_ln35 hok hp hh vz_fu 0 σ hE (by omega) (by have : vz_fu = 1000000 := rfl; omega) (fun r hr w hw => h1 (10 * r + w) (by omega))
      exact q
    · have hin : vz_in (nI i) 40 := (ps_in (by omega)).mpr (by omega)
      rw [if_neg (show ¬ (40 : Int32) ≤ nI i from nI_ge (b := 40) (by omega) (by omega)), if_pos hin, if_pos hin, vz_let, nI_clamp (by omega), nI_1]
      generalize hs : vz_up (vz_up σ 114 i 1000) 115 i 1000 = τ
      have t1 : ∀ b, b ≠ 114 → b ≠ 115 → τ b = σ b := fun b q1 q2 => by rw [← hs, vz_up_ne _ _ _ q2, vz_up_ne _ _ _ q1]
      obtain ⟨σ', f1, f2, f3⟩ := ih (i + 1) τ (ps_E_fr hE (t1 _ (by omega) (by omega)) (t1 _ (by omega) (by omega))) (by omega) (by omega) (fun k hk => by
        rw [← hs]
        by_cases q : k = i
        · subst q
          exact ⟨by rw [vz_up_ne _ _ _ (by omega), ps_upS], by rw [ps_upS]⟩
        · rw [ps_upN _ _ q, vz_up_ne _ _ _ (show (114 : Nat) ≠ 115 by omega), ps_upN _ _ q, vz_up_ne _ _ _ (show (115 : Nat) ≠ 114 by omega)]
          exact h1 k (by omega))
      exact ⟨σ', f1, f2, fun b q1 q2 => by rw [f3 b q1 q2, t1 b q1 q2]⟩
/-- the reference learns a page -/
theorem ps_learn {A : ps_T} {σ : vz_I} {p h : Nat} (hok : ps_Ok A) (hE : ps_E A σ p h) (hp : p + 61 ≤ 305) (hh : h < 16) : ∃ σ', f_X9_learnsOn (nI p) σ = some σ' ∧ ps_N A σ' h 60 ∧ ∀ b, b ≠ 114 → b ≠ 115 → σ' b = σ b := by
  have q := ps_ln2 hok hp hh vz_fu 0 σ hE (by omega) (by have : vz_fu = 1000000 := rfl; omega) (fun k hk => by omega)
  exact q
theorem ps_wo {A : ps_T} {σ : vz_I} {h r w : Nat} (hok : ps_Ok A) (hN : ps_N A σ h 60) (hr : r < A 0 1) (hw : w < 10) : f_X9_wholeOf (nI r) (nI w) σ = some (nI (ps_W A h (A 4 r) (A 5 r) (A 6 r) w)) := by
  have o2 := hok.2.1
  obtain ⟨n1, n2⟩ := hN r hr w hw
  have m0 := ps_lo_max (ps_P A h (A 4 r) (A 5 r) (A 6 r) w 0)
  have m1 := ps_lo_max (ps_P A h (A 4 r) (A 5 r) (A 6 r) w 1)
  have hin : vz_in (nI (10 * r + w)) 40 := (ps_in (by omega)).mpr (by omega)
  unfold f_X9_wholeOf ps_W ps_L
  rw [show (10 : Int32) * nI r = nI (10 * r) from pk_mul 10 r, nI_add, if_pos hin, if_pos hin, if_pos hin, if_pos hin, nI_clamp (by omega), n1, n2]
  by_cases q : ps_lo (ps_P A h (A 4 r) (A 5 r) (A 6 r) w 0) 60 ≤ ps_lo (ps_P A h (A 4 r) (A 5 r) (A 6 r) w 1) 60
  · rw [if_pos (nI_le q (by omega)), Nat.max_eq_right q]
  · rw [if_neg (nI_ge (by omega) (by omega)), Nat.max_eq_left (by omega)]
theorem ps_W_max (A : ps_T) (h c f u w : Nat) : ps_W A h c f u w < 60 ∨ ps_W A h c f u w = 1000 := by
  have m0 := ps_lo_max (ps_P A h c f u w 0)
  have m1 := ps_lo_max (ps_P A h c f u w 1)
  unfold ps_W ps_L
  omega
theorem ps_ko_l {A : ps_T} {σ : vz_I} {h r : Nat} (hok : ps_Ok A) (hN : ps_N A σ h 60) (hr : r < A 0 1) : ∀ (n i : Nat), i ≤ 10 → 10 - i < n → f_X9_knownOf_4 n (nI r) (nI (ps_cnt i (fun w => decide (ps_W A h (A 4 r) (A 5 r) (A 6 r) w ≤ 59)))) (nI i) σ = some (nI (ps_K A h (A 4 r) (A 5 r) (A 6 r))) := by
  intro n
  induction n with
  | zero => intro i _ q; omega
  | succ n ih =>
    intro i hi hn
    rw [f_X9_knownOf_4_s]
    by_cases e : i = 10
    · subst e
      rw [if_pos (by decide)]
      rfl
    · have hx := ps_W_max A h (A 4 r) (A 5 r) (A 6 r) i
      rw [if_neg (show ¬ (10 : Int32) ≤ nI i from nI_ge (b := 10) (by omega) (by omega)), ps_wo hok hN hr (by omega), vz_b1, nI_1]
      have q := ih (i + 1) (by omega) (by omega)
      rw [ps_cnt] at q
      by_cases z : ps_W A h (A 4 r) (A 5 r) (A 6 r) i ≤ 59
      · rw [decide_eq_true z, if_pos rfl] at q
        rw [if_neg (show ¬ (1000 : Int32) ≤ nI (ps_W A h (A 4 r) (A 5 r) (A 6 r) i) from nI_ge (b := 1000) (by omega) (by omega)), nI_1]
        exact q
      · rw [decide_eq_false z, if_neg (by decide), Nat.add_zero] at q
        rw [if_pos (show (1000 : Int32) ≤ nI (ps_W A h (A 4 r) (A 5 r) (A 6 r) i) from nI_le (a := 1000) (by omega) (by omega)), show ∀ x : Nat, nI x + (0 : Int32) = nI x from fun x => nI_add x 0]
        exact q
theorem ps_ko {A : ps_T} {σ : vz_I} {h r : Nat} (hok : ps_Ok A) (hN : ps_N A σ h 60) (hr : r < A 0 1) : f_X9_knownOf (nI r) σ = some (nI (ps_K A h (A 4 r) (A 5 r) (A 6 r))) :=
  ps_ko_l hok hN hr vz_fu 0 (by omega) (by have : vz_fu = 1000000 := rfl; omega)
theorem ps_po_l {A : ps_T} {σ : vz_I} {h : Nat} (hok : ps_Ok A) (hN : ps_N A σ h 60) (h2 : σ 108 2 = nI (A 0 1)) : ∀ (n i : Nat), i ≤ A 0 1 → A 0 1 - i < n → f_X9_pairsOn_9 n (nI (ps_sum i (fun r => ps_K A h (A 4 r) (A 5 r) (A 6 r)))) (nI i) σ = some (nI (ps_pairs A h), σ) := by
  have o2 := hok.2.1
  intro n
  induction n with
  | zero => intro i _ q; omega
  | succ n ih =>
    intro i hi hn
    rw [f_X9_pairsOn_9_s, h2]
    by_cases e : A 0 1 ≤ i
    · obtain rfl : i = A 0 1 := by omega
      rw [if_pos (nI_le (Nat.le_refl _) (by omega))]
      rfl
    · rw [if_neg (nI_ge (by omega) (by omega)), ps_ko hok hN (by omega), vz_b1, nI_1, nI_add]
      exact ih (i + 1) (by omega) (by omega)
/-- the reference counts pairs -/
theorem ps_po {A : ps_T} {σ : vz_I} {p h : Nat} (hok : ps_Ok A) (hE : ps_E A σ p h) (hp : p + 61 ≤ 305) (hh : h < 16) : ∃ σ', f_X9_pairsOn (nI p) σ = some (nI (ps_pairs A h), σ') ∧ ps_N A σ' h 60 ∧ ∀ b, b ≠ 114 → b ≠ 115 → σ' b = σ b := by
  have o2 := hok.2.1
  obtain ⟨σ', e1, e2, e3⟩ := ps_learn hok hE hp hh
  refine ⟨σ', ?_, e2, e3⟩
  unfold f_X9_pairsOn
  rw [e1, vz_b1]
  exact ps_po_l hok e2 (by rw [e3 _ (by omega) (by omega)]; exact hE.2.2.1) vz_fu 0 (by omega) (by have : vz_fu = 1000000 := rfl; omega)
