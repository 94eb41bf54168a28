/-! pure: streets, walks that can be walked, detour -/
def ps_sq (A : ps_T) (a b s : Nat) : Bool := decide ((A 8 s = a ∧ A 9 s = b) ∨ (A 8 s = b ∧ A 9 s = a))
def ps_st (A : ps_T) (a b : Nat) : Bool := ps_any (A 0 2) (ps_sq A a b)
def ps_wk (A : ps_T) (m : Nat) : Bool := decide (A 3 m ≤ 1) || !ps_any (A 3 m) (fun i => !ps_st A (A (10 + m) i) (A (10 + m) ((i + 1) % A 3 m)))
theorem ps_anyF {P : Nat → Bool} {n i : Nat} (h : ps_any n P = false) (hi : i < n) : P i = false := by
  cases q : P i
  · rfl
  · have := ps_any_iff.mpr ⟨i, hi, q⟩
    rw [h] at this
    exact absurd this (by decide)
theorem ps_anyT {P : Nat → Bool} {n i : Nat} (hi : i < n) (q : P i = true) : ps_any n P = true := ps_any_iff.mpr ⟨i, hi, q⟩
theorem ps_any_up {P : Nat → Bool} {i : Nat} (h : ps_any i P = false) (q : P i = false) : ps_any (i + 1) P = false := by rw [ps_any, h, q]; rfl
theorem ps_hs_l {A : ps_T} {σ : vz_I} {T a b : Nat} (hok : ps_Ok A) (hC : ps_C A σ T) (ha : a < 8) (hb : b < 8) : ∀ n i, i ≤ A 0 2 → A 0 2 - i < n → ps_any i (ps_sq A a b) = false → f_X7_hasStreet_2 n T (nI a) (nI b) (nI i) σ = some (if ps_st A a b = true then 1 else 0) := by
  have o3 := hok.2.2.1
  intro n
  induction n with
  | zero => intro i _ h; omega
  | succ n ih =>
    intro i hi hn hF
    rw [f_X7_hasStreet_2_s, hC.2.1]
    by_cases e : A 0 2 ≤ i
    · obtain rfl : i = A 0 2 := by omega
      rw [if_pos (nI_le (Nat.le_refl _) (by omega))]
      unfold ps_st
      rw [hF, if_neg (by decide)]
    · obtain ⟨g1, g2⟩ := hC.2.2.2.2.2.2.2 i (by omega)
      obtain ⟨k1, k2⟩ := hok.2.2.2.2.2.2.2 i (by omega)
      have hin : vz_in (nI i) 9 := (ps_in (by omega)).mpr (by omega)
      have eq : ∀ x y : Nat, x < 8 → y < 8 → (nI x = nI y ↔ x = y) := fun x y hx hy => nI_eq (by omega) (by omega)
      have yes : ps_sq A a b i = true → some (1 : Int32) = some (if ps_st A a b = true then 1 else 0) := fun q => by
        unfold ps_st
        rw [ps_anyT (show i < A 0 2 by omega) q, if_pos rfl]
      have no : ps_sq A a b i = false → f_X7_hasStreet_2 n T (nI a) (nI b) (nI i + (1 : Int32)) σ = some (if ps_st A a b = true then 1 else 0) := fun q => by
        rw [nI_1]
        exact ih (i + 1) (by omega) (by omega) (ps_any_up hF q)
      have rest : ¬ (A 8 i = a ∧ A 9 i = b) → f_X7_hasStreet_30 (fun a0 x1 x2 x3 => f_X7_hasStreet_2 n a0 x1 x2 x3 σ) T (nI a) (nI b) (nI i) σ = some (if ps_st A a b = true then 1 else 0) := fun q => by
        unfold f_X7_hasStreet_30
        rw [if_pos hin, nI_clamp (by omega), g1, if_pos hin, g2]
        by_cases z : A 8 i = b
        · rw [if_pos ((eq _ _ k1 hb).mpr z)]
          by_cases y : A 9 i = a
          · rw [if_pos ((eq _ _ k2 ha).mpr y)]
            exact yes (decide_eq_true (Or.inr ⟨z, y⟩))
          · rw [if_neg (fun w => y ((eq _ _ k2 ha).mp w))]
            exact no (decide_eq_false (by rintro (w | w); exact q w; exact y w.2))
        · rw [if_neg (fun w => z ((eq _ _ k1 hb).mp w))]
          exact no (decide_eq_false (by rintro (w | w); exact q w; exact z w.1))
      rw [if_neg (nI_ge (by omega) (by omega)), if_pos hin, nI_clamp (by omega), g1, if_pos hin, g2]
      by_cases z : A 8 i = a
      · rw [if_pos ((eq _ _ k1 ha).mpr z)]
        by_cases y : A 9 i = b
        · rw [if_pos ((eq _ _ k2 hb).mpr y)]
          exact yes (decide_eq_true (Or.inl ⟨z, y⟩))
        · rw [if_neg (fun w => y ((eq _ _ k2 hb).mp w))]
          exact rest (fun w => y w.2)
      · rw [if_neg (fun w => z ((eq _ _ k1 ha).mp w))]
        exact rest (fun w => z w.1)
theorem ps_hs {A : ps_T} {σ : vz_I} {T a b : Nat} (hok : ps_Ok A) (hC : ps_C A σ T) (ha : a < 8) (hb : b < 8) : f_X7_hasStreet T (nI a) (nI b) σ = some (if ps_st A a b = true then 1 else 0) := by
  have o3 := hok.2.2.1
  exact ps_hs_l hok hC ha hb vz_fu 0 (by omega) (by have : vz_fu = 1000000 := rfl; omega) rfl
theorem ps_cw_l {A : ps_T} {σ : vz_I} {T m : Nat} (hok : ps_Ok A) (hC : ps_C A σ T) (hm : m < A 0 0) (h2 : 1 < A 3 m) : ∀ n i, i ≤ A 3 m → A 3 m - i < n → ps_any i (fun i => !ps_st A (A (10 + m) i) (A (10 + m) ((i + 1) % A 3 m))) = false → f_X7_canWalk_2 n T (T + 5 + 2 * m) (nI i) σ = some (if ps_wk A m = true then 1 else 0) := by
  obtain ⟨ok1, ok2, ok3, ok4, ok5⟩ := hok.2.2.2.2.2.1 m hm
  obtain ⟨g1, g2, g3, g4⟩ := hC.2.2.2.2.2.1 m hm
  intro n
  induction n with
  | zero => intro i _ h; omega
  | succ n ih =>
    intro i hi hn hF
    rw [f_X7_canWalk_2_s, g3, if_neg (show ¬ nI (A 3 m) ≤ (1 : Int32) from nI_ge (a := 1) h2 (by omega))]
    by_cases e : A 3 m ≤ i
    · obtain rfl : i = A 3 m := by omega
      rw [if_pos (nI_le (Nat.le_refl _) (by omega))]
      unfold ps_wk
      rw [hF, Bool.not_false, Bool.or_true, if_pos rfl]
    · have hlt := Nat.mod_lt (i + 1) ok3
      have go : ∀ x : Int32, x = nI ((i + 1) % A 3 m) → f_X7_canWalk_35 (fun a0 a1 x2 => f_X7_canWalk_2 n a0 a1 x2 σ) T (T + 5 + 2 * m) (nI i) x σ = some (if ps_wk A m = true then 1 else 0) := by
        rintro x rfl
        unfold f_X7_canWalk_35
        rw [if_pos ((ps_in (by omega)).mpr (by omega)), if_pos ((ps_in (by omega)).mpr (by omega)), nI_clamp (by omega), nI_clamp (by omega), g4 i (by omega), g4 _ hlt, ps_hs hok hC (ok5 _ (by omega)) (ok5 _ hlt), vz_b1]
        by_cases z : ps_st A (A (10 + m) i) (A (10 + m) ((i + 1) % A 3 m)) = true
        · rw [if_pos z, if_neg ps_10, nI_1]
          exact ih (i + 1) (by omega) (by omega) (ps_any_up hF (by rw [z]; rfl))
        · have z' : ps_st A (A (10 + m) i) (A (10 + m) ((i + 1) % A 3 m)) = false := by simpa using z
          rw [if_neg z, if_pos rfl]
          unfold ps_wk
          rw [ps_anyT (show i < A 3 m by omega) (by rw [z']; rfl), decide_eq_false (by omega), if_neg (by decide)]
      rw [if_neg (nI_ge (by omega) (by omega)), nI_1]
      by_cases q : A 3 m ≤ i + 1
      · rw [if_pos (nI_le q (by omega))]
        exact go 0 (by rw [show i + 1 = A 3 m by omega, Nat.mod_self]; rfl)
      · rw [if_neg (nI_ge (by omega) (by omega))]
        exact go (nI (i + 1)) (by rw [Nat.mod_eq_of_lt (by omega)])
theorem ps_cw {A : ps_T} {σ : vz_I} {T m : Nat} (hok : ps_Ok A) (hC : ps_C A σ T) (hm : m < A 0 0) : f_X7_canWalk T (T + 5 + 2 * m) σ = some (if ps_wk A m = true then 1 else 0) := by
  obtain ⟨ok1, ok2, ok3, ok4, ok5⟩ := hok.2.2.2.2.2.1 m hm
  obtain ⟨g1, g2, g3, g4⟩ := hC.2.2.2.2.2.1 m hm
  by_cases h2 : 1 < A 3 m
  · exact ps_cw_l hok hC hm h2 vz_fu 0 (by omega) (by have : vz_fu = 1000000 := rfl; omega) rfl
  · unfold f_X7_canWalk
    rw [show vz_fu = 999999 + 1 from rfl, f_X7_canWalk_2_s, g3, if_pos (show nI (A 3 m) ≤ (1 : Int32) from nI_le (b := 1) (by omega) (by omega))]
    unfold ps_wk
    rw [decide_eq_true (by omega), Bool.true_or, if_pos rfl]
/-! the reference -/
theorem ps_ss_l {A : ps_T} {σ : vz_I} {p a b : Nat} (hok : ps_Ok A) (hM : ps_M A (σ 109) p) (hp : p + 61 ≤ 305) (ha : a < 8) (hb : b < 8) : ∀ n i, i ≤ A 0 2 → A 0 2 - i < n → f_X9_isStreetOn_6 n (nI p) (nI a) (nI b) (if ps_any i (ps_sq A a b) = true then 1 else 0) (nI i) σ = some (if ps_st A a b = true then 1 else 0) := by
  have o3 := hok.2.2.1
  have g0 := hM.2.2.1
  intro n
  induction n with
  | zero => intro i _ h; omega
  | succ n ih =>
    intro i hi hn
    rw [f_X9_isStreetOn_6_s, show nI p + (42 : Int32) = nI (p + 42) from nI_add p 42, if_pos ((ps_in (by omega)).mpr (by omega)), nI_clamp (by omega), g0]
    by_cases e : A 0 2 ≤ i
    · obtain rfl : i = A 0 2 := by omega
      rw [if_pos (nI_le (Nat.le_refl _) (by omega)), if_pos]
      · rfl
      · split
        · exact Or.inr rfl
        · exact Or.inl rfl
    · obtain ⟨g1, g2⟩ := hM.2.2.2.2.2 i (by omega)
      obtain ⟨k1, k2⟩ := hok.2.2.2.2.2.2.2 i (by omega)
      have eq : ∀ x y : Nat, x < 8 → y < 8 → (nI x = nI y ↔ x = y) := fun x y hx hy => nI_eq (by omega) (by omega)
      have q2 := ih (i + 1) (by omega) (by omega)
      rw [ps_any] at q2
      have e43 : (nI p + (43 : Int32)) + nI i = nI (p + 43 + i) := by rw [show nI p + (43 : Int32) = nI (p + 43) from nI_add p 43, nI_add]
      have e52 : (nI p + (52 : Int32)) + nI i = nI (p + 52 + i) := by rw [show nI p + (52 : Int32) = nI (p + 52) from nI_add p 52, nI_add]
      rw [if_neg (nI_ge (by omega) (by omega)), e43, e52, if_pos ((ps_in (by omega)).mpr (by omega)), if_pos ((ps_in (by omega)).mpr (by omega)), nI_clamp (by omega), nI_clamp (by omega), g1, g2, nI_1]
      by_cases z0 : ps_any i (ps_sq A a b) = true
      · rw [z0, Bool.true_or, if_pos rfl] at q2
        rw [if_pos z0, if_neg ps_10]
        exact q2
      · have z0' : ps_any i (ps_sq A a b) = false := by simpa using z0
        rw [z0', Bool.false_or] at q2
        rw [if_neg z0, if_pos rfl]
        have rest : ¬ (A 8 i = a ∧ A 9 i = b) → f_X9_isStreetOn_65 (fun x1 x2 x3 x4 x5 => f_X9_isStreetOn_6 n x1 x2 x3 x4 x5 σ) (nI p) (nI a) (nI b) (nI i) (nI (A 8 i)) (nI (A 9 i)) σ = some (if ps_st A a b = true then 1 else 0) := fun q => by
          unfold f_X9_isStreetOn_65
          rw [nI_1]
          by_cases z : A 8 i = b
          · rw [if_pos ((eq _ _ k1 hb).mpr z)]
            by_cases y : A 9 i = a
            · rw [show ps_sq A a b i = true from decide_eq_true (Or.inr ⟨z, y⟩), if_pos rfl] at q2
              rw [if_pos ((eq _ _ k2 ha).mpr y)]
              exact q2
            · rw [show ps_sq A a b i = false from decide_eq_false (by rintro (w | w); exact q w; exact y w.2), if_neg (by decide)] at q2
              rw [if_neg (fun w => y ((eq _ _ k2 ha).mp w))]
              exact q2
          · rw [show ps_sq A a b i = false from decide_eq_false (by rintro (w | w); exact q w; exact z w.1), if_neg (by decide)] at q2
            rw [if_neg (fun w => z ((eq _ _ k1 hb).mp w))]
            exact q2
        by_cases z : A 8 i = a
        · rw [if_pos ((eq _ _ k1 ha).mpr z)]
          by_cases y : A 9 i = b
          · rw [show ps_sq A a b i = true from decide_eq_true (Or.inl ⟨z, y⟩), if_pos rfl] at q2
            rw [if_pos ((eq _ _ k2 hb).mpr y)]
            exact q2
          · rw [if_neg (fun w => y ((eq _ _ k2 hb).mp w))]
            exact rest (fun w => y w.2)
        · rw [if_neg (fun w => z ((eq _ _ k1 ha).mp w))]
          exact rest (fun w => z w.1)
theorem ps_ss {A : ps_T} {σ : vz_I} {p a b : Nat} (hok : ps_Ok A) (hM : ps_M A (σ 109) p) (hp : p + 61 ≤ 305) (ha : a < 8) (hb : b < 8) : f_X9_isStreetOn (nI p) (nI a) (nI b) σ = some (if ps_st A a b = true then 1 else 0) := by
  have o3 := hok.2.2.1
  exact ps_ss_l hok hM hp ha hb vz_fu 0 (by omega) (by have : vz_fu = 1000000 := rfl; omega)
theorem ps_wo_l {A : ps_T} {σ : vz_I} {p m : Nat} (hok : ps_Ok A) (hM : ps_M A (σ 109) p) (hp : p + 61 ≤ 305) (hm : m < A 0 0) : ∀ n i, i ≤ A 3 m → A 3 m - i < n → f_X9_isWalkOn_18 n (nI p) (nI m) (nI (A 3 m)) (if (decide (A 3 m ≤ 1) || !ps_any i (fun i => !ps_st A (A (10 + m) i) (A (10 + m) ((i + 1) % A 3 m)))) = true then 1 else 0) (nI i) σ = some (if ps_wk A m = true then 1 else 0) := by
  have o1 := hok.1
  obtain ⟨ok1, ok2, ok3, ok4, ok5⟩ := hok.2.2.2.2.2.1 m hm
  obtain ⟨g1, g2, g3, g4⟩ := hM.2.2.2.1 m hm
  intro n
  induction n with
  | zero => intro i _ h; omega
  | succ n ih =>
    intro i hi hn
    have h01 : ∀ c : Bool, ((if c = true then (1 : Int32) else 0) = 0 ∨ (if c = true then (1 : Int32) else 0) = 1) := fun c => by cases c <;> decide
    rw [f_X9_isWalkOn_18_s]
    by_cases e : A 3 m ≤ i
    · obtain rfl : i = A 3 m := by omega
      rw [if_pos (nI_le (Nat.le_refl _) (by omega)), if_pos (h01 _)]
      rfl
    · rw [if_neg (nI_ge (by omega) (by omega))]
      by_cases h2 : A 3 m ≤ 1
      · rw [if_pos (show nI (A 3 m) ≤ (1 : Int32) from nI_le (b := 1) (by omega) (by omega)), if_pos (h01 _)]
        unfold ps_wk
        rw [decide_eq_true h2, Bool.true_or, Bool.true_or]
      · rw [if_neg (show ¬ nI (A 3 m) ≤ (1 : Int32) from nI_ge (a := 1) (by omega) (by omega)), decide_eq_false h2, Bool.false_or, nI_1]
        have q2 := ih (i + 1) (by omega) (by omega)
        rw [decide_eq_false h2, Bool.false_or, ps_any] at q2
        have hlt := Nat.mod_lt (i + 1) ok3
        by_cases z0 : ps_any i (fun i => !ps_st A (A (10 + m) i) (A (10 + m) ((i + 1) % A 3 m))) = true
        · rw [z0, Bool.true_or, Bool.not_true, if_neg (by decide)] at q2
          rw [z0, Bool.not_true, if_pos (show (if false = true then (1 : Int32) else 0) = 0 by decide)]
          exact q2
        · have z0' : ps_any i (fun i => !ps_st A (A (10 + m) i) (A (10 + m) ((i + 1) % A 3 m))) = false := by simpa using z0
          rw [z0', Bool.false_or] at q2
          have e12 : ∀ j : Nat, (nI p + (12 : Int32)) + ((4 : Int32) * nI m) + nI j = nI (p + 12 + 4 * m + j) := fun j => by
            rw [show nI p + (12 : Int32) = nI (p + 12) from nI_add p 12, show (4 : Int32) * nI m = nI (4 * m) from pk_mul 4 m, nI_add, nI_add]
          rw [z0', Bool.not_false, if_pos rfl, if_neg ps_10, e12, if_pos ((ps_in (by omega)).mpr (by omega)), if_neg (nI_ne0 ok3 (by omega)), pk_rem (by omega) ok3 (by omega), e12, if_pos ((ps_in (by omega)).mpr (by omega)), nI_clamp (by omega), nI_clamp (by omega), g4 i (by omega), g4 _ hlt, ps_ss hok hM hp (ok5 _ (by omega)) (ok5 _ hlt), vz_b1]
          by_cases z : ps_st A (A (10 + m) i) (A (10 + m) ((i + 1) % A 3 m)) = true
          · rw [z, Bool.not_true, Bool.not_false, if_pos rfl] at q2
            rw [if_pos z, if_neg ps_10]
            exact q2
          · have z' : ps_st A (A (10 + m) i) (A (10 + m) ((i + 1) % A 3 m)) = false := by simpa using z
            rw [z', Bool.not_false, Bool.not_true, if_neg (by decide)] at q2
            rw [if_neg z, if_pos rfl]
            exact q2
theorem ps_wko {A : ps_T} {σ : vz_I} {p m : Nat} (hok : ps_Ok A) (hM : ps_M A (σ 109) p) (hp : p + 61 ≤ 305) (hm : m < A 0 0) : f_X9_isWalkOn (nI p) (nI m) σ = some (if ps_wk A m = true then 1 else 0) := by
  have o1 := hok.1
  obtain ⟨ok1, ok2, ok3, ok4, ok5⟩ := hok.2.2.2.2.2.1 m hm
  obtain ⟨g1, g2, g3, g4⟩ := hM.2.2.2.1 m hm
  have q := ps_wo_l hok hM hp hm vz_fu 0 (by omega) (by have : vz_fu = 1000000 := rfl; omega)
  rw [ps_any, Bool.not_false, Bool.or_true, if_pos rfl] at q
  unfold f_X9_isWalkOn
  rw [show nI p + (8 : Int32) = nI (p + 8) from nI_add p 8, nI_add, if_pos ((ps_in (by omega)).mpr (by omega)), nI_clamp (by omega), g3]
  exact q
theorem ps_upR (σ : vz_I) (a k : Nat) (x : Int32) : vz_up (vz_up σ a k x) a k (σ a k) = σ := by
  funext b j
  by_cases h : b = a
  · subst h
    by_cases hj : j = k
    · subst hj; rw [ps_upS]
    · rw [ps_upN _ _ hj, ps_upN _ _ hj]
  · rw [vz_up_ne _ _ _ h, vz_up_ne _ _ _ h]
theorem sm_detour : sim_detour ps_R := by
  intro σ h x1 x2 x3
  have h' := h
  obtain ⟨⟨A, a1, a2, a3, a4, a5, a6, a7, a8⟩, hP, hF, hS, hX⟩ := h'
  have h4 := a1.1
  by_cases hc : 0 ≤ x1.toInt ∧ x1.toInt < A 0 0
  · obtain ⟨m, hm, rfl⟩ := ps_ofM hc
    obtain ⟨ok1, ok2, ok3, ok4, ok5⟩ := a1.2.2.2.2.2.1 m hm
    obtain ⟨g1, g2, g3, g4⟩ := a2.2.2.2.2.2.1 m hm
    obtain ⟨k1, k2, k3, k4⟩ := a3.2.2.2.1 m hm
    by_cases hd : 0 ≤ x2.toInt ∧ x2.toInt < A 3 m
    · have hd' := hd
      obtain ⟨i, hi, rfl⟩ := ps_ofM hd
      by_cases he : 0 ≤ x3.toInt ∧ x3.toInt ≤ (7 : Nat)
      · have he' := he
        obtain ⟨c, hc8, rfl⟩ := ps_ofL he
        have hok := ps_Ok_pth (m := m) (W := fun j => if j = i then c else A (10 + m) j) a1 (fun j hj => by
          show (if j = i then c else A (10 + m) j) < 8
          split
          · omega
          · exact ok5 j hj)
        have hC' : ps_C (ps_pth A m (fun j => if j = i then c else A (10 + m) j)) (vz_up σ (21 + 5 + 2 * m + 1) i (nI c)) 21 := ps_C_pth a1 hm a2 (fun b _ _ q => vz_up_ne _ _ _ q) (fun j hj => by
          show (vz_up σ (21 + 5 + 2 * m + 1) i (nI c)) (21 + 5 + 2 * m + 1) j = nI (if j = i then c else A (10 + m) j)
          by_cases q : j = i
          · subst q; rw [ps_upS, if_pos rfl]
          · rw [ps_upN _ _ q, if_neg q]; exact g4 j hj)
        have hM' : ∀ τ : vz_I, τ 109 = upd (σ 109) (12 + 4 * m + i) (nI c) → ps_M (ps_pth A m (fun j => if j = i then c else A (10 + m) j)) (τ 109) 0 := fun τ ht => by
          rw [ht]
          refine ps_M_pth a1 hm a3 (fun b _ _ q => ps_updN _ _ (by omega)) (fun j hj => ?_)
          show upd (σ 109) (12 + 4 * m + i) (nI c) (0 + 12 + 4 * m + j) = nI (if j = i then c else A (10 + m) j)
          by_cases q : j = i
          · subst q; rw [show 0 + 12 + 4 * m + j = 12 + 4 * m + j by omega, ps_updS, if_pos rfl]
          · rw [ps_updN _ _ (by omega), if_neg q]; exact k4 j hj
        have hm' : m < (ps_pth A m (fun j => if j = i then c else A (10 + m) j)) 0 0 := by rw [ps_pthN _ _ _ (by omega)]; exact hm
        have c8 := ps_cw hok hC' hm'
        have hin : vz_in (nI i) 4 := (ps_in (by omega)).mpr (by omega)
        have kv := k4 i hi
        rw [show 0 + 12 + 4 * m + i = 12 + 4 * m + i by omega] at kv
        have e12 : (12 : Int32) + ((4 : Int32) * nI m) + nI i = nI (12 + 4 * m + i) := by
          rw [show (4 : Int32) * nI m = nI (4 * m) from pk_mul 4 m, show (12 : Int32) + nI (4 * m) = nI (12 + 4 * m) from nI_add 12 _, nI_add]
        have hin2 : vz_in (nI (12 + 4 * m + i)) 305 := (ps_in (by omega)).mpr (by omega)
        by_cases w : ps_wk (ps_pth A m (fun j => if j = i then c else A (10 + m) j)) m = true
        · rw [if_pos w] at c8
          refine ⟨nI (A (10 + m) i), vz_up σ (21 + 5 + 2 * m + 1) i (nI c), vz_up (vz_up σ (21 + 5 + 2 * m + 1) i (nI c)) 109 (12 + 4 * m + i) (nI c), ?_, ?_, ?_, ?_, ?_, ?_, ?_⟩
          · unfold f_X8_detour
            rw [ps_manY a1 a2 hm, vz_b1, vz_mo, ps_hp (show A 3 m < 2 ^ 30 by omega) g3, if_pos hd', if_neg ps_10, ps_c8, if_pos he', if_neg ps_10, if_pos hin, if_pos hin, nI_clamp (by omega), c8, vz_b1, if_neg ps_10, g4 i hi]
          · generalize hs : vz_up σ (21 + 5 + 2 * m + 1) i (nI c) = τ
            have t109 : τ 109 = σ 109 := by rw [← hs, vz_up_ne _ _ _ (by omega)]
            have t108 : τ 108 = σ 108 := by rw [← hs, vz_up_ne _ _ _ (by omega)]
            have pl := ps_isPl (x := nI i) (σ := τ) a1 (by rw [t109]; exact a3) (by rw [t108]; exact a4) hm
            rw [if_pos hd'] at pl
            have c9 := ps_wko (σ := vz_up τ 109 (12 + 4 * m + i) (nI c)) hok (hM' _ (by rw [vz_up_self, t109])) (by omega) hm'
            rw [if_pos w, show nI 0 = (0 : Int32) from rfl] at c9
            unfold f_X9_detour
            rw [pl, vz_b1, if_neg ps_10, ps_c9, if_pos he', if_neg ps_10, e12, if_pos hin2, if_pos hin2, vz_let, nI_clamp (by omega), c9, vz_b1, if_neg ps_10, t109, kv]
          · refine ps_town_up a1 hok (ps_C_fr hok hC' (fun b _ _ => by rw [vz_up_ne _ _ _ (by omega)])) (hM' _ (by rw [vz_up_self, vz_up_ne _ _ _ (by omega)])) (ps_pthN _ _ _ (by omega)) (ps_pthN _ _ _ (by omega)) a4 a5 a6 a7 a8 (fun b hb => by simp (disch := omega) only [vz_up_ne]) (fun b q1 q2 => by simp (disch := omega) only [vz_up_ne, ps_upN]) (fun j hj => by simp (disch := omega) only [vz_up_ne])
          · exact ps_tape_fr hP (fun b hb => by simp (disch := omega) only [vz_up_ne]) (by simp (disch := omega) only [vz_up_ne])
          · exact ps_ft_fr hF (by simp (disch := omega) only [vz_up_ne]) (by simp (disch := omega) only [vz_up_ne]) (by simp (disch := omega) only [vz_up_ne]) (by simp (disch := omega) only [vz_up_ne])
          · exact ps_sheet_fr hS (fun b hb => by simp (disch := omega) only [vz_up_ne])
          · exact ps_fix_fr hX (fun b hb => by simp (disch := omega) only [vz_up_ne]) (by simp (disch := omega) only [vz_up_ne])
        · rw [if_neg w] at c8
          refine ⟨-2, σ, σ, ?_, ?_, h⟩
          · unfold f_X8_detour
            rw [ps_manY a1 a2 hm, vz_b1, vz_mo, ps_hp (show A 3 m < 2 ^ 30 by omega) g3, if_pos hd', if_neg ps_10, ps_c8, if_pos he', if_neg ps_10, if_pos hin, if_pos hin, nI_clamp (by omega), c8, vz_b1, if_pos rfl, if_pos hin, vz_let, ps_upR]
          · have pl := ps_isPl (x := nI i) (σ := σ) a1 a3 a4 hm
            rw [if_pos hd'] at pl
            have c9 := ps_wko (σ := vz_up σ 109 (12 + 4 * m + i) (nI c)) hok (hM' _ (by rw [vz_up_self])) (by omega) hm'
            rw [if_neg w, show nI 0 = (0 : Int32) from rfl] at c9
            unfold f_X9_detour
            rw [pl, vz_b1, if_neg ps_10, ps_c9, if_pos he', if_neg ps_10, e12, if_pos hin2, if_pos hin2, vz_let, nI_clamp (by omega), c9, vz_b1, if_pos rfl, if_pos hin2, vz_let, ps_upR]
      · refine ⟨-1, σ, σ, ?_, ?_, h⟩
        · simp only [f_X8_detour, ps_manY a1 a2 hm, vz_b1, vz_mo, ps_hp (show A 3 m < 2 ^ 30 by omega) g3, if_pos hd', if_neg ps_10, ps_c8, if_neg he, if_true]
        · simp only [f_X9_detour, ps_isPl a1 a3 a4 hm, if_pos hd', vz_b1, if_neg ps_10, ps_c9, if_neg he, if_true]
    · refine ⟨-1, σ, σ, ?_, ?_, h⟩
      · simp only [f_X8_detour, ps_manY a1 a2 hm, vz_b1, vz_mo, ps_hp (show A 3 m < 2 ^ 30 by omega) g3, if_neg hd, if_true]
      · simp only [f_X9_detour, ps_isPl a1 a3 a4 hm, if_neg hd, vz_b1, if_true]
  · refine ⟨-1, σ, σ, ?_, ?_, h⟩
    · simp only [f_X8_detour, ps_manN a1 a2 hc, vz_b1, vz_mo]
    · simp only [f_X9_detour, ps_isPlN a1 a4 hc, vz_b1, if_true]
