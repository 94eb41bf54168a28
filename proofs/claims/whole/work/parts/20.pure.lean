/-! pure: numbers, and what the two sides' cells stand for -/
theorem ps_lit (n : Nat) : (OfNat.ofNat n : Int32) = nI n := rfl
theorem ps_litL (n : Nat) : (OfNat.ofNat n : Int64) = lN n := rfl
theorem ps_x64 (x : Int32) : x.toInt64.toInt = x.toInt := by simp
theorem ps_lN {n : Nat} (h : n < 2 ^ 31) : (lN n).toInt = (n : Int) := lN_toInt h
theorem ps_w (x y w : Int32) : f_X8_isWithin x y w = if y.toInt ≤ x.toInt ∧ x.toInt ≤ w.toInt then 1 else 0 := by
  unfold f_X8_isWithin
  simp only [Int32.lt_iff_toInt_lt]
  by_cases h1 : x.toInt < y.toInt
  · rw [if_pos h1, if_neg (by omega)]
  · rw [if_neg h1]
    by_cases h2 : w.toInt < x.toInt
    · rw [if_pos h2, if_neg (by omega)]
    · rw [if_neg h2, if_pos (by omega)]
theorem ps_i (x y w : Int64) : f_X9_in x y w = if y.toInt ≤ x.toInt ∧ x.toInt ≤ w.toInt then 1 else 0 := by
  unfold f_X9_in lg_cmp
  simp only [gt_iff_lt, Int64.lt_iff_toInt_lt, ← Int64.toInt_inj]
  by_cases h1 : y.toInt < x.toInt
  · rw [if_pos h1, if_neg (by decide)]
    by_cases h2 : w.toInt < x.toInt
    · rw [if_pos h2, if_pos (by decide), if_neg (by omega)]
    · rw [if_neg h2]
      by_cases h3 : x.toInt = w.toInt
      · rw [if_pos h3, if_neg (by decide), if_pos (by omega)]
      · rw [if_neg h3, if_neg (by decide), if_pos (by omega)]
  · rw [if_neg h1]
    by_cases h3 : x.toInt = y.toInt
    · rw [if_pos h3, if_neg (by decide)]
      by_cases h2 : w.toInt < x.toInt
      · rw [if_pos h2, if_pos (by decide), if_neg (by omega)]
      · rw [if_neg h2]
        by_cases h4 : x.toInt = w.toInt
        · rw [if_pos h4, if_neg (by decide), if_pos (by omega)]
        · rw [if_neg h4, if_neg (by decide), if_pos (by omega)]
    · rw [if_neg h3, if_pos (by decide), if_neg (by omega)]
theorem ps_m1 {n : Nat} (h : n < 2 ^ 30) : (nI n - 1).toInt = (n : Int) - 1 := pk_sub_toInt (b := 1) h (by decide)
/-- in bounds: the class's way, the reference's way -/
theorem ps_w0 (x : Int32) {n : Nat} (h : n < 2 ^ 30) : f_X8_isWithin x 0 (nI n) = if 0 ≤ x.toInt ∧ x.toInt ≤ n then 1 else 0 := by
  rw [ps_w, nI_toInt (by omega)]; simp
theorem ps_wm (x : Int32) {n : Nat} (h : n < 2 ^ 30) : f_X8_isWithin x 0 (nI n - 1) = if 0 ≤ x.toInt ∧ x.toInt < n then 1 else 0 := by
  rw [ps_w, ps_m1 h]
  congr 1
  simp
  omega
theorem ps_i0 (x : Int32) {n : Nat} (h : n < 2 ^ 30) : f_X9_in x.toInt64 0 (nI n).toInt64 = if 0 ≤ x.toInt ∧ x.toInt ≤ n then 1 else 0 := by
  rw [ps_i, ps_x64, ps_x64, nI_toInt (by omega)]; simp
theorem ps_il (x : Int32) {n : Nat} (h : n < 2 ^ 30) : f_X9_in x.toInt64 0 (lN n) = if 0 ≤ x.toInt ∧ x.toInt ≤ n then 1 else 0 := by
  rw [ps_i, ps_x64, ps_lN (by omega)]; simp
theorem ps_im (x : Int32) {n : Nat} (h : n < 2 ^ 30) : f_X9_in x.toInt64 0 (nI n - 1).toInt64 = if 0 ≤ x.toInt ∧ x.toInt < n then 1 else 0 := by
  rw [ps_i, ps_x64, ps_x64, ps_m1 h]
  congr 1
  simp
  omega
theorem ps_of {x : Int32} (h0 : 0 ≤ x.toInt) : x = nI x.toInt.toNat := by
  have h1 : x.toInt < 2 ^ 31 := by have := x.toInt_lt; omega
  apply Int32.toInt_inj.mp
  rw [nI_toInt (by omega)]
  omega
theorem ps_ofL {x : Int32} {n : Nat} (h : 0 ≤ x.toInt ∧ x.toInt ≤ n) : ∃ j, j ≤ n ∧ x = nI j := ⟨x.toInt.toNat, by omega, ps_of h.1⟩
theorem ps_ofM {x : Int32} {n : Nat} (h : 0 ≤ x.toInt ∧ x.toInt < n) : ∃ j, j < n ∧ x = nI j := ⟨x.toInt.toNat, by omega, ps_of h.1⟩
theorem ps_in {a n : Nat} (h : a < 2 ^ 31) : vz_in (nI a) n ↔ a < n := by
  simp only [vz_in, nI_toInt h]
  omega
theorem ps_upS (σ : vz_I) (a k : Nat) (x : Int32) : vz_up σ a k x a k = x := by simp [vz_up, upd]
theorem ps_upN (σ : vz_I) {a k j : Nat} (x : Int32) (h : j ≠ k) : vz_up σ a k x a j = σ a j := by simp [vz_up, upd, h]
/-! a town: 0: men, readers, streets; 1: kinds; 2: news; 3: lengths; 4, 5, 6: readers' corners, from, until; 7: rain from, for; 8, 9: streets' ends; 10 + m: man m's walk -/
abbrev ps_T : Type := Nat → Nat → Nat
def ps_Ok (A : ps_T) : Prop := A 0 0 ≤ 4 ∧ A 0 1 ≤ 4 ∧ A 0 2 ≤ 9 ∧ A 7 0 < 60 ∧ A 7 1 < 60 ∧ (∀ m, m < A 0 0 → A 1 m < 4 ∧ A 2 m < 10 ∧ 1 ≤ A 3 m ∧ A 3 m ≤ 4 ∧ ∀ i, i < A 3 m → A (10 + m) i < 8) ∧ (∀ r, r < A 0 1 → A 4 r < 8 ∧ A 5 r ≤ A 6 r ∧ A 6 r < 60) ∧ (∀ i, i < A 0 2 → A 8 i < 8 ∧ A 9 i < 8)
/-- the class's town at T -/
def ps_C (A : ps_T) (σ : vz_I) (T : Nat) : Prop := σ T 0 = nI (A 0 0) ∧ σ T 1 = nI (A 0 2) ∧ σ T 2 = nI (A 0 1) ∧ σ T 3 = nI (A 7 0) ∧ σ T 4 = nI (A 7 1) ∧ (∀ m, m < A 0 0 → σ (T + 5 + 2 * m) 0 = nI (A 1 m) ∧ σ (T + 5 + 2 * m) 1 = nI (A 2 m) ∧ σ (T + 5 + 2 * m) 2 = nI (A 3 m) ∧ ∀ i, i < A 3 m → σ (T + 5 + 2 * m + 1) i = nI (A (10 + m) i)) ∧ (∀ r, r < A 0 1 → σ (T + 13 + r) 0 = nI (A 4 r) ∧ σ (T + 13 + r) 1 = nI (A 5 r) ∧ σ (T + 13 + r) 2 = nI (A 6 r)) ∧ (∀ i, i < A 0 2 → σ (T + 3) i = nI (A 8 i) ∧ σ (T + 4) i = nI (A 9 i))
/-- the reference's page at p of its state -/
def ps_M (A : ps_T) (f : Nat → Int32) (p : Nat) : Prop := f (p + 40) = nI (A 7 0) ∧ f (p + 41) = nI (A 7 1) ∧ f (p + 42) = nI (A 0 2) ∧ (∀ m, m < A 0 0 → f (p + m) = nI (A 1 m) ∧ f (p + 4 + m) = nI (A 2 m) ∧ f (p + 8 + m) = nI (A 3 m) ∧ ∀ i, i < A 3 m → f (p + 12 + 4 * m + i) = nI (A (10 + m) i)) ∧ (∀ r, r < A 0 1 → f (p + 28 + r) = nI (A 4 r) ∧ f (p + 32 + r) = nI (A 5 r) ∧ f (p + 36 + r) = nI (A 6 r)) ∧ (∀ i, i < A 0 2 → f (p + 43 + i) = nI (A 8 i) ∧ f (p + 52 + i) = nI (A 9 i))
theorem ps_C_fr {A : ps_T} {σ σ' : vz_I} {T : Nat} (hok : ps_Ok A) (h : ps_C A σ T) (hf : ∀ b, T ≤ b → b ≤ T + 16 → σ' b = σ b) : ps_C A σ' T := by
  obtain ⟨h1, h2, h3, h4, h5, h6, h7, h8⟩ := h
  obtain ⟨o1, o2, -⟩ := hok
  have e0 := hf T (by omega) (by omega)
  refine ⟨by rw [e0]; exact h1, by rw [e0]; exact h2, by rw [e0]; exact h3, by rw [e0]; exact h4, by rw [e0]; exact h5, fun m hm => ?_, fun r hr => ?_, fun i hi => ?_⟩
  · rw [hf (T + 5 + 2 * m) (by omega) (by omega), hf (T + 5 + 2 * m + 1) (by omega) (by omega)]
    exact h6 m hm
  · rw [hf (T + 13 + r) (by omega) (by omega)]
    exact h7 r hr
  · rw [hf (T + 3) (by omega) (by omega), hf (T + 4) (by omega) (by omega)]
    exact h8 i hi
theorem ps_M_fr {A : ps_T} {f f' : Nat → Int32} {p : Nat} (hok : ps_Ok A) (h : ps_M A f p) (hf : ∀ b, p ≤ b → b ≤ p + 60 → f' b = f b) : ps_M A f' p := by
  obtain ⟨h1, h2, h3, h6, h7, h8⟩ := h
  obtain ⟨o1, o2, o3, -, -, o6, -⟩ := hok
  refine ⟨by rw [hf _ (by omega) (by omega)]; exact h1, by rw [hf _ (by omega) (by omega)]; exact h2, by rw [hf _ (by omega) (by omega)]; exact h3, fun m hm => ?_, fun r hr => ?_, fun i hi => ?_⟩
  · have ho := o6 m hm
    refine ⟨?_, ?_, ?_, fun i hi => ?_⟩
    · rw [hf _ (by omega) (by omega)]; exact (h6 m hm).1
    · rw [hf _ (by omega) (by omega)]; exact (h6 m hm).2.1
    · rw [hf _ (by omega) (by omega)]; exact (h6 m hm).2.2.1
    · rw [hf _ (by omega) (by omega)]; exact (h6 m hm).2.2.2 i hi
  · rw [hf _ (by omega) (by omega), hf _ (by omega) (by omega), hf _ (by omega) (by omega)]; exact h7 r hr
  · rw [hf _ (by omega) (by omega), hf _ (by omega) (by omega)]; exact h8 i hi
/-- the tapes -/
def ps_tape (σ : vz_I) : Prop := ∃ n, n ≤ 160 ∧ σ 2 0 = nI n ∧ σ 108 8 = nI n ∧ ∀ i, i < n → ∃ c, c < 128 ∧ σ 3 i = nI c ∧ σ 111 i = nI c
/-- what is seen -/
def ps_seen (A : ps_T) (σ : vz_I) : Prop := ∃ n, n ≤ 6 ∧ σ 57 0 = nI n ∧ σ 108 24 = nI n ∧ ∀ i, i < n → ∃ r w t k, r < A 0 1 ∧ w < 10 ∧ t < 60 ∧ k < 2 ∧ σ 58 i = nI r ∧ σ 59 i = nI w ∧ σ 60 i = nI t ∧ σ 61 i = nI k ∧ σ 117 (4 * i) = nI r ∧ σ 117 (4 * i + 1) = nI w ∧ σ 117 (4 * i + 2) = nI t ∧ σ 117 (4 * i + 3) = nI k
/-- an image -/
def ps_img (A : ps_T) (σ : vz_I) (k : Nat) : Prop := (σ 56 k = 0 ∧ σ 119 k = 0) ∨ (σ 56 k = 1 ∧ σ 119 k = 1 ∧ ∃ B, ps_Ok B ∧ B 0 0 = A 0 0 ∧ B 0 1 = A 0 1 ∧ ps_C B σ (66 + 17 * k) ∧ ps_M B (σ 109) (61 * (k + 1)))
/-- a sheet -/
def ps_sheet (σ : vz_I) (k : Nat) : Prop := (σ (100 + 2 * k) 0 = -4 ∧ σ 120 k = -4 ∨ ∃ l, l < 3 ∧ σ (100 + 2 * k) 0 = nI l ∧ σ 120 k = nI l) ∧ (∃ c, c ≤ 40 ∧ σ (100 + 2 * k) 1 = nI c ∧ σ 121 k = nI c) ∧ ∀ i, i < 40 → σ (101 + 2 * k) i = σ 122 (40 * k + i)
/-- the reference's fixed rows -/
def ps_fix (σ : vz_I) : Prop := (∀ i, i < 8 → σ 112 i = nI (([0, 5, 9, 14, 17, 23, 29, 33] : List Nat).getD i 0)) ∧ (∀ i, i < 33 → σ 113 i = nI (([112, 108, 97, 105, 110, 116, 104, 105, 110, 115, 116, 111, 117, 116, 111, 108, 100, 115, 116, 114, 101, 101, 116, 114, 101, 97, 100, 101, 114, 114, 97, 105, 110] : List Nat).getD i 0)) ∧ σ 108 18 = 0
/-- both sides tell one state -/
def ps_R (σ : vz_I) : Prop := (∃ A, ps_Ok A ∧ ps_C A σ 21 ∧ ps_M A (σ 109) 0 ∧ σ 108 1 = nI (A 0 0) ∧ σ 108 2 = nI (A 0 1) ∧ ps_seen A σ ∧ ps_img A σ 0 ∧ ps_img A σ 1) ∧ ps_tape σ ∧ (σ 1 7 = σ 108 9 ∧ σ 0 10 = σ 108 30) ∧ (∀ k, k < 4 → ps_sheet σ k) ∧ ps_fix σ
theorem sm_fault : sim_fault ps_R := fun σ h => ⟨_, σ, σ, ⟨rfl, rfl⟩, ⟨h.2.2.1.1.symm, rfl⟩, h⟩
theorem sm_torn : sim_torn ps_R := fun σ h => ⟨_, σ, σ, ⟨rfl, rfl⟩, ⟨h.2.2.1.2.symm, rfl⟩, h⟩
