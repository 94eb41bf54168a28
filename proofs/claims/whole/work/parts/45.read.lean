/-! pure: read -/
def ps_g2 (A : ps_T) (u v : Int32) : Prop := (0 ≤ u.toInt ∧ u.toInt < A 0 1) ∧ 0 ≤ v.toInt ∧ v.toInt ≤ (7 : Nat)
def ps_rt (A : ps_T) (g : Nat → Int32) (f : Nat) : Nat → ps_T
  | 0 => A
  | i + 1 => ps_set (ps_rt A g f i) (4 + 0) (g (f + 2 * i)).toInt.toNat (g (f + 2 * i + 1)).toInt.toNat
theorem ps_rt_s (A : ps_T) (g : Nat → Int32) (f i : Nat) : ps_rt A g f (i + 1) = ps_set (ps_rt A g f i) (4 + 0) (g (f + 2 * i)).toInt.toNat (g (f + 2 * i + 1)).toInt.toNat := rfl
theorem ps_rtN (A : ps_T) (g : Nat → Int32) (f : Nat) {a : Nat} (b : Nat) (h : a ≠ 4) : ∀ i, ps_rt A g f i a b = A a b := by
  intro i
  induction i with
  | zero => rfl
  | succ i ih => rw [ps_rt_s, ps_setN _ _ (by omega), ih]
theorem ps_rtOk {A : ps_T} {g : Nat → Int32} {f : Nat} (hok : ps_Ok A) : ∀ i, (∀ j, j < i → ps_g2 A (g (f + 2 * j)) (g (f + 2 * j + 1))) → ps_Ok (ps_rt A g f i) := by
  intro i
  induction i with
  | zero => intro _; exact hok
  | succ i ih =>
    intro h
    have q := h i (by omega)
    have q1 := q.1
    have q2 := q.2
    exact ps_Ok_rd (ih (fun j hj => h j (by omega))) (by rw [ps_rtN _ _ _ _ (by omega)]; omega) (by omega) (fun _ => by omega) (by omega) (by omega)
theorem ps_ca {σ : vz_I} {a c p : Nat} (hc : c ≤ 40) (h : σ a 1 = nI c) (hp : p < c) : f_X4_cellAt a (nI p) σ = some (σ (a + 1) p) := by
  unfold f_X4_cellAt
  have hi : 0 ≤ (nI p).toInt ∧ (nI p).toInt < c := by rw [nI_toInt (by omega)]; omega
  rw [ps_hc (by omega) h, if_pos hi, if_neg ps_10, if_pos ((ps_in (by omega)).mpr (by omega)), nI_clamp (by omega)]
theorem ps_fa {σ : vz_I} {a c l p : Nat} (hc : c ≤ 40) (h0 : σ a 0 = nI l) (hl : l < 3) (h : σ a 1 = nI c) (hp : p < 1000) : f_X4_faultAt a (nI l) (nI p) σ = if p < c then 0 else 2 := by
  unfold f_X4_faultAt
  rw [h0, if_neg (ps_n4 (by omega)), if_pos rfl, ps_hc (by omega) h, nI_toInt (by omega)]
  by_cases e : p < c
  · rw [if_pos (show 0 ≤ (p : Int) ∧ (p : Int) < c by omega), if_neg ps_10, if_pos e]
  · rw [if_neg (show ¬ (0 ≤ (p : Int) ∧ (p : Int) < c) by omega), if_pos rfl, if_neg e]
theorem ps_fp {σ : vz_I} {a c l p : Nat} (hc : c ≤ 40) (h0 : σ a 0 = nI l) (hl : l < 3) (h : σ a 1 = nI c) (hp : p < 900) : f_X4_faultOfPair a (nI l) (nI p) σ = if p + 1 < c then 0 else 2 := by
  unfold f_X4_faultOfPair
  rw [nI_1, ps_fa hc h0 hl h (by omega), ps_fa hc h0 hl h (by omega)]
  by_cases e : p < c
  · rw [if_pos e, if_pos rfl]
  · rw [if_neg e, if_neg (by decide), if_neg (by omega)]
theorem ps_cs {A : ps_T} {σ : vz_I} {a c p : Nat} (hok : ps_Ok A) (hC : ps_C A σ 21) (hc : c ≤ 40) (h : σ a 1 = nI c) (hp : p + 1 < c) (hg : ps_g2 A (σ (a + 1) p) (σ (a + 1) (p + 1))) : f_X8_canStand a (nI p) σ = some 1 := by
  obtain ⟨g1, g2⟩ := hg
  obtain ⟨r, hr, e⟩ := ps_ofM g1
  unfold f_X8_canStand
  rw [ps_ca hc h (by omega), vz_b1, e, ps_rdY hok hC hr, vz_b1, vz_mo, nI_1, ps_ca hc h hp, vz_b1, ps_c8, if_pos g2, if_neg ps_10]
theorem ps_csN {A : ps_T} {σ : vz_I} {a c p : Nat} (hok : ps_Ok A) (hC : ps_C A σ 21) (hc : c ≤ 40) (h : σ a 1 = nI c) (hp : p + 1 < c) (hg : ¬ ps_g2 A (σ (a + 1) p) (σ (a + 1) (p + 1))) : f_X8_canStand a (nI p) σ = some 0 := by
  unfold f_X8_canStand
  rw [ps_ca hc h (by omega), vz_b1]
  by_cases g1 : 0 ≤ (σ (a + 1) p).toInt ∧ (σ (a + 1) p).toInt < A 0 1
  · have g2 : ¬ (0 ≤ (σ (a + 1) (p + 1)).toInt ∧ (σ (a + 1) (p + 1)).toInt ≤ (7 : Nat)) := fun w => hg ⟨g1, w⟩
    obtain ⟨r, hr, e⟩ := ps_ofM g1
    rw [e, ps_rdY hok hC hr, vz_b1, vz_mo, nI_1, ps_ca hc h hp, vz_b1, ps_c8, if_neg g2, if_pos rfl]
  · rw [ps_rdN hok hC g1, vz_b1, vz_mo]
theorem ps_s8 {A : ps_T} {σ : vz_I} {u v : Int32} (hok : ps_Ok A) (hC : ps_C A σ 21) (hg : ps_g2 A u v) : ∃ r w x, r < A 0 1 ∧ w < 8 ∧ u.toInt.toNat = r ∧ v.toInt.toNat = w ∧ f_X8_stand u 0 v σ = some (x, vz_up σ (21 + 13 + r) 0 (nI w)) := by
  have o2 := hok.2.1
  obtain ⟨g1, g2⟩ := hg
  have g2' := g2
  obtain ⟨r, hr, rfl⟩ := ps_ofM g1
  obtain ⟨w, hw, rfl⟩ := ps_ofL g2
  refine ⟨r, w, σ (21 + 13 + r) 0, hr, by omega, by rw [nI_toInt (by omega)]; omega, by rw [nI_toInt (by omega)]; omega, ?_⟩
  unfold f_X8_stand
  rw [ps_rdY hok hC hr, vz_b1, vz_mo, if_pos rfl, ps_c8, if_pos g2', if_neg ps_10]
  rfl
theorem ps_s9 {A : ps_T} {σ : vz_I} {u v : Int32} (hok : ps_Ok A) (hM : ps_M A (σ 109) 0) (h2 : σ 108 2 = nI (A 0 1)) (hg : ps_g2 A u v) : ∃ r w x, r < A 0 1 ∧ w < 8 ∧ u.toInt.toNat = r ∧ v.toInt.toNat = w ∧ f_X9_stands u 0 v σ = some (x, vz_up σ 109 (28 + r) (nI w)) ∧ 0 ≤ x := by
  have o2 := hok.2.1
  obtain ⟨g1, g2⟩ := hg
  have g2' := g2
  obtain ⟨r, hr, rfl⟩ := ps_ofM g1
  obtain ⟨w, hw, rfl⟩ := ps_ofL g2
  obtain ⟨k1, k2, k3⟩ := ps_rOk hok hr
  have j1 := (hM.2.2.2.2.1 r hr).1
  rw [show 0 + 28 + r = 28 + r by omega] at j1
  have hi9 : f_X9_in (0 : Int32).toInt64 0 2 = 1 := by decide
  refine ⟨r, w, nI (A 4 r), hr, by omega, by rw [nI_toInt (by omega)]; omega, by rw [nI_toInt (by omega)]; omega, ?_, nI_pos' (by omega)⟩
  unfold f_X9_stands f_X9_stands_15 f_X9_stands_62
  rw [if_pos rfl, ps_isRdY hok h2 hr, if_neg ps_10, hi9, if_neg ps_10, ps_c9, if_pos g2', if_neg ps_10, if_neg (by decide), if_neg (by decide), show (0 : Int32) = nI 0 from rfl, ps_s82 (by omega) (by omega), show 28 + 4 * 0 + r = 28 + r by omega, j1]
theorem ps_s9N {A : ps_T} {σ : vz_I} {u v : Int32} (hok : ps_Ok A) (h2 : σ 108 2 = nI (A 0 1)) (hg : ¬ ps_g2 A u v) : f_X9_stands u 0 v σ = some (-1, σ) := by
  have hi9 : f_X9_in (0 : Int32).toInt64 0 2 = 1 := by decide
  unfold f_X9_stands f_X9_stands_15
  rw [if_pos rfl, ps_isRd hok h2]
  by_cases g1 : 0 ≤ u.toInt ∧ u.toInt < A 0 1
  · have g2 : ¬ (0 ≤ v.toInt ∧ v.toInt ≤ (7 : Nat)) := fun w => hg ⟨g1, w⟩
    rw [if_pos g1, if_neg ps_10, hi9, if_neg ps_10, ps_c9, if_neg g2, if_pos rfl]
  · rw [if_neg g1, if_pos rfl]
/-! the class -/
theorem ps_f2 (f i : Nat) : nI f + (2 : Int32) * nI i = nI (f + 2 * i) := by rw [show (2 : Int32) * nI i = nI (2 * i) from pk_mul 2 i, nI_add]
theorem ps_rd1 {A : ps_T} {σ : vz_I} {a c l f w N q : Nat} (hok : ps_Ok A) (hC : ps_C A σ 21) (hc : c ≤ 40) (h0 : σ a 0 = nI l) (hl : l < 3) (h1 : σ a 1 = nI c) (hN : N ≤ 20) (hw : w ≤ N) (hf : f < 40) (hg : ∀ j, j < w → f + 2 * j + 1 < c ∧ ps_g2 A (σ (a + 1) (f + 2 * j)) (σ (a + 1) (f + 2 * j + 1))) : ∀ d i, i + d = w → f_X8_read_44 (q + d) (nI l) (nI f) (nI N) a 0 (nI i) (nI i) σ = f_X8_read_44 q (nI l) (nI f) (nI N) a 0 (nI w) (nI w) σ := by
  intro d
  induction d with
  | zero => intro i hi; rw [show i = w by omega]; rfl
  | succ d ih =>
    intro i hi
    obtain ⟨g1, g2⟩ := hg i (by omega)
    rw [show q + (d + 1) = (q + d) + 1 from rfl, f_X8_read_44_s, if_neg (nI_ge (by omega) (by omega)), if_pos rfl, ps_f2, ps_fp hc h0 hl h1 (by omega), if_pos g1, if_pos rfl, ps_cs hok hC hc h1 g1 g2, vz_b1, if_neg ps_10]
    unfold f_X8_read_96
    rw [if_pos rfl, nI_1]
    exact ih (i + 1) (by omega)
theorem ps_rd44t {σ : vz_I} {a w N q : Nat} {x2 x3 t : Int32} (hN : N ≤ 20) (hw : w < N) (ht : t ≠ 0) (h : f_X4_faultOfPair a x2 (x3 + (2 : Int32) * nI w) σ = t) : f_X8_read_44 (q + 1 + 1) x2 x3 (nI N) a 0 (nI w) (nI w) σ = f_X8_read_113 vz_fu x3 a t (nI w) 0 σ := by
  rw [f_X8_read_44_s, if_neg (nI_ge (by omega) (by omega)), if_pos rfl, h, if_neg ht]
  unfold f_X8_read_96
  rw [if_neg ht, nI_1, f_X8_read_44_s]
  by_cases e : nI N ≤ nI (w + 1)
  · rw [if_pos e]
  · rw [if_neg e, if_neg ht]
theorem ps_rd2 {A : ps_T} {σ : vz_I} {a c f w : Nat} {t : Int32} (hok : ps_Ok A) (hc : c ≤ 40) (h1 : σ a 1 = nI c) (ha : 99 < a) (hw : w ≤ 20) (hf : f < 40) (hg : ∀ j, j < w → f + 2 * j + 1 < c ∧ ps_g2 A (σ (a + 1) (f + 2 * j)) (σ (a + 1) (f + 2 * j + 1))) : ∀ (n i : Nat) (τ : vz_I), ps_C (ps_rt A (σ (a + 1)) f i) τ 21 → (∀ b, b < 21 ∨ 37 < b → τ b = σ b) → i ≤ w → w - i < n → ∃ τ', f_X8_read_113 n (nI f) a t (nI w) (nI i) τ = some (nI w, vz_up τ' 0 10 t) ∧ ps_C (ps_rt A (σ (a + 1)) f w) τ' 21 ∧ ∀ b, b < 21 ∨ 37 < b → τ' b = σ b := by
  intro n
  induction n with
  | zero => intro i τ _ _ _ h; omega
  | succ n ih =>
    intro i τ hC hτ hi hn
    rw [f_X8_read_113_s]
    by_cases e : w ≤ i
    · obtain rfl : i = w := by omega
      rw [if_pos (nI_le (Nat.le_refl _) (by omega))]
      exact ⟨τ, rfl, hC, hτ⟩
    · obtain ⟨g1, g2⟩ := hg i (by omega)
      have hB := ps_rtOk (g := σ (a + 1)) (f := f) hok i (fun j hj => (hg j (by omega)).2)
      have o2 := hB.2.1
      have g2' : ps_g2 (ps_rt A (σ (a + 1)) f i) (τ (a + 1) (f + 2 * i)) (τ (a + 1) (f + 2 * i + 1)) := by
        unfold ps_g2
        rw [ps_rtN _ _ _ _ (by omega), hτ (a + 1) (by omega)]
        exact g2
      obtain ⟨r, v, x, s1, s2, s3, s4, s5⟩ := ps_s8 hB hC g2'
      have h1' : τ a 1 = nI c := by rw [hτ a (by omega)]; exact h1
      rw [if_neg (nI_ge (by omega) (by omega)), ps_f2, ps_ca hc h1' (by omega), vz_b1, nI_1 (f + 2 * i), ps_ca hc h1' g1, vz_b1, s5, vz_b2, nI_1]
      rw [hτ (a + 1) (by omega)] at s3 s4
      refine ih (i + 1) (vz_up τ (21 + 13 + r) 0 (nI v)) ?_ (fun b hb => by rw [vz_up_ne _ _ _ (by omega), hτ b hb]) (by omega) (by omega)
      rw [ps_rt_s, s3, s4]
      exact ps_C_rd s1 hB (by omega) hC
/-! the reference -/
theorem ps_r56 {σ : vz_I} {k l c f p N i m : Nat} (hk : k < 4) (h0 : σ 120 k = nI l) (hl : l < 3) (h1 : σ 121 k = nI c) (hc : c ≤ 40) (hp : p < 2 * N) (hN : N ≤ 20) (hf : f < 40) : f_X9_read_56 (m + 1) (nI k) (nI l) (nI f) (nI N) 0 (nI i) (nI p) σ = f_X9_read_126 (f_X9_read_56 m) (nI k) (nI l) (nI f) (nI N) (nI i) (nI p) (if f + p < c then 0 else 2) σ := by
  have e : (nI f).toInt64 + (nI p).toInt64 = lN (f + p) := by rw [nI_l (by omega), nI_l (by omega), lN_add]
  have hin : f_X9_in (lN (f + p)) 0 (nI c - 1).toInt64 = if f + p < c then 1 else 0 := by
    rw [ps_i, ps_x64, ps_m1 (by omega), ps_lN (by omega), show (0 : Int64).toInt = 0 by decide]
    by_cases z : f + p < c
    · rw [if_pos z, if_pos (by omega)]
    · rw [if_neg z, if_neg (by omega)]
  have hv : vz_in (nI k) 4 := (ps_in (by omega)).mpr hk
  rw [f_X9_read_56_s, show (2 : Int32) * nI N = nI (2 * N) from pk_mul 2 N, if_neg (nI_ge (by omega) (by omega)), if_pos rfl, if_pos hv, nI_clamp (by omega), h0, if_neg (ps_n4 (by omega)), if_pos hv, if_pos rfl, if_pos hv, h1, e, hin]
  by_cases z : f + p < c
  · rw [if_pos z, if_pos z, if_neg ps_10]
  · rw [if_neg z, if_neg z, if_pos rfl]
theorem ps_r9t {σ : vz_I} {x1 x2 x3 x4 x6 x7 t : Int32} {m : Nat} (ht : t ≠ 0) : f_X9_read_126 (f_X9_read_56 (m + 1)) x1 x2 x3 x4 x6 x7 t σ = some (x6, vz_up σ 108 30 t) := by
  unfold f_X9_read_126
  rw [if_neg ht, f_X9_read_56_s]
  by_cases e : (2 : Int32) * x4 ≤ x7 + 1
  · rw [if_pos e]; rfl
  · rw [if_neg e, if_neg ht]; rfl
theorem ps_r9e {σ : vz_I} {k l c f i N m : Nat} (hk : k < 4) (h0 : σ 120 k = nI l) (hl : l < 3) (h1 : σ 121 k = nI c) (hc : c ≤ 40) (hi : i < N) (hN : N ≤ 20) (hf : f < 40) (hd : f + 2 * i < c) : f_X9_read_56 (m + 1) (nI k) (nI l) (nI f) (nI N) 0 (nI i) (nI (2 * i)) σ = f_X9_read_56 m (nI k) (nI l) (nI f) (nI N) 0 (nI i) (nI (2 * i + 1)) σ := by
  rw [ps_r56 hk h0 hl h1 hc (by omega) hN hf, if_pos hd]
  unfold f_X9_read_126
  rw [if_pos rfl, show nI (2 * i) - nI (2 * i) / (2 : Int32) * (2 : Int32) = nI (2 * i % 2) from pk_rem (d := 2) (by omega) (by omega) (by omega), show 2 * i % 2 = 0 by omega, if_neg (by decide), nI_1]
theorem ps_r9o {σ : vz_I} {k l c f i N m : Nat} (hk : k < 4) (h0 : σ 120 k = nI l) (hl : l < 3) (h1 : σ 121 k = nI c) (hc : c ≤ 40) (hi : i < N) (hN : N ≤ 20) (hf : f < 40) (hd : f + 2 * i + 1 < c) : f_X9_read_56 (m + 1) (nI k) (nI l) (nI f) (nI N) 0 (nI i) (nI (2 * i + 1)) σ = vz_b2 (f_X9_stands (σ 122 (40 * k + (f + 2 * i))) 0 (σ 122 (40 * k + (f + 2 * i + 1))) σ) (fun v20 σ21 => if 0 ≤ v20 then f_X9_read_56 m (nI k) (nI l) (nI f) (nI N) 0 (nI (i + 1)) (nI (2 * (i + 1))) σ21 else vz_b1 (f_X9_copies (183 : Int32) (0 : Int32) σ21) (fun σ25 => some ((-20 : Int32) - nI i, σ25))) := by
  have e1 : (((40 : Int32) * nI k) + nI f) + nI (2 * i + 1) = nI (40 * k + (f + 2 * i) + 1) := by
    rw [show (40 : Int32) * nI k = nI (40 * k) from pk_mul 40 k, nI_add, nI_add]
    congr 1
    omega
  rw [ps_r56 hk h0 hl h1 hc (by omega) hN hf, if_pos (by omega)]
  unfold f_X9_read_126
  rw [if_pos rfl, show nI (2 * i + 1) - nI (2 * i + 1) / (2 : Int32) * (2 : Int32) = nI ((2 * i + 1) % 2) from pk_rem (d := 2) (by omega) (by omega) (by omega), show (2 * i + 1) % 2 = 1 by omega, if_pos (by decide), e1, nI_pred, if_pos ((ps_in (by omega)).mpr (by omega)), if_pos ((ps_in (by omega)).mpr (by omega)), nI_clamp (by omega), nI_clamp (by omega), nI_1 i, nI_1]
  rfl
def ps_St (A : ps_T) (g : Nat → Int32) (f : Nat) (σ : vz_I) (i : Nat) (τ : vz_I) : Prop := ps_M (ps_rt A g f i) (τ 109) 0 ∧ (∀ b, b ≠ 109 → τ b = σ b) ∧ ∀ p, 61 ≤ p → τ 109 p = σ 109 p
theorem ps_rd9 {A : ps_T} {g : Nat → Int32} {σ : vz_I} {k l c f w N q : Nat} (hok : ps_Ok A) (h2 : σ 108 2 = nI (A 0 1)) (hk : k < 4) (h0 : σ 120 k = nI l) (hl : l < 3) (h1 : σ 121 k = nI c) (hc : c ≤ 40) (hN : N ≤ 20) (hw : w ≤ N) (hf : f < 40) (hgc : ∀ p, p < 40 → σ 122 (40 * k + p) = g p) (hg : ∀ j, j < w → f + 2 * j + 1 < c ∧ ps_g2 A (g (f + 2 * j)) (g (f + 2 * j + 1))) : ∀ (d i : Nat) (τ : vz_I), i + d = w → ps_St A g f σ i τ → ∃ τ', f_X9_read_56 (q + 2 * d) (nI k) (nI l) (nI f) (nI N) 0 (nI i) (nI (2 * i)) τ = f_X9_read_56 q (nI k) (nI l) (nI f) (nI N) 0 (nI w) (nI (2 * w)) τ' ∧ ps_St A g f σ w τ' := by
  intro d
  induction d with
  | zero =>
    intro i τ hi hS
    obtain rfl : i = w := by omega
    exact ⟨τ, rfl, hS⟩
  | succ d ih =>
    intro i τ hi hS
    obtain ⟨S1, S2, S3⟩ := hS
    obtain ⟨g1, g2⟩ := hg i (by omega)
    have hB := ps_rtOk (g := g) (f := f) hok i (fun j hj => (hg j (by omega)).2)
    have o2 := hB.2.1
    have t0 : τ 120 k = nI l := by rw [S2 120 (by omega)]; exact h0
    have t1 : τ 121 k = nI c := by rw [S2 121 (by omega)]; exact h1
    have t2 : τ 108 2 = nI (ps_rt A g f i 0 1) := by rw [S2 108 (by omega), ps_rtN _ _ _ _ (by omega)]; exact h2
    have g2' : ps_g2 (ps_rt A g f i) (g (f + 2 * i)) (g (f + 2 * i + 1)) := by
      unfold ps_g2
      rw [ps_rtN _ _ _ _ (by omega)]
      exact g2
    obtain ⟨r, v, x, s1, s2, s3, s4, s5, s6⟩ := ps_s9 hB S1 t2 g2'
    rw [show q + 2 * (d + 1) = q + 2 * d + 1 + 1 by omega, ps_r9e hk t0 hl t1 hc (by omega) hN hf (by omega), ps_r9o hk t0 hl t1 hc (by omega) hN hf g1, S2 122 (by omega), hgc _ (by omega), hgc _ (by omega), s5, vz_b2, if_pos s6]
    refine ih (i + 1) (vz_up τ 109 (28 + r) (nI v)) (by omega) ⟨?_, fun b hb => by rw [vz_up_ne _ _ _ hb, S2 b hb], fun p hp => by rw [ps_upN _ _ (by omega), S3 p hp]⟩
    have hM := ps_M_rd (v := v) (s := 0) hB s1 (by omega) S1
    rw [show 0 + 28 + 4 * 0 + r = 28 + r by omega] at hM
    rw [ps_rt_s, s3, s4, vz_up_self]
    exact hM
theorem ps_rdend {σ τ ω : vz_I} {A B : ps_T} {t : Int32} (a1 : ps_Ok A) (a4 : σ 108 1 = nI (A 0 0)) (a5 : σ 108 2 = nI (A 0 1)) (a6 : ps_seen A σ) (a7 : ps_img A σ 0) (a8 : ps_img A σ 1) (hP : ps_tape σ) (hF : σ 1 7 = σ 108 9 ∧ σ 0 10 = σ 108 30) (hS : ∀ k, k < 4 → ps_sheet σ k) (hX : ps_fix σ) (hB : ps_Ok B) (h0 : B 0 0 = A 0 0) (h1 : B 0 1 = A 0 1) (hτ : ps_C B τ 21) (hτf : ∀ b, b < 21 ∨ 37 < b → τ b = σ b) (hω : ps_M B (ω 109) 0) (hωf : ∀ b, b ≠ 109 → ω b = vz_up τ 0 10 t b) (hωg : ∀ p, 61 ≤ p → p < 183 → ω 109 p = σ 109 p) : ps_R (vz_up ω 108 30 t) := by
  have g : ∀ b, b ≠ 109 → b ≠ 108 → (b < 21 ∨ 37 < b) → b ≠ 0 → (vz_up ω 108 30 t) b = σ b := fun b q1 q2 q3 q4 => by rw [vz_up_ne _ _ _ q2, hωf b q1, vz_up_ne _ _ _ q4, hτf b q3]
  have g108 : ∀ j, j ≠ 30 → (vz_up ω 108 30 t) 108 j = σ 108 j := fun j hj => by rw [ps_upN _ _ hj, hωf 108 (by omega), vz_up_ne _ _ _ (by omega), hτf 108 (by omega)]
  refine ⟨ps_town_up a1 hB (ps_C_fr hB hτ (fun b _ _ => by rw [vz_up_ne _ _ _ (by omega), hωf b (by omega), vz_up_ne _ _ _ (by omega)])) (by rw [vz_up_ne _ _ _ (by omega)]; exact hω) h0 h1 a4 a5 a6 a7 a8 (fun b hb => g b (by omega) (by omega) (by omega) (by omega)) (fun b q1 q2 => by rw [vz_up_ne _ _ _ (by omega)]; exact hωg b q1 (by omega)) (fun j hj => g108 j (by omega)), ?_, ?_, ?_, ?_⟩
  · exact ps_tape_fr hP (fun b hb => g b (by omega) (by omega) (by omega) (by omega)) (g108 8 (by omega))
  · refine ⟨by rw [g 1 (by omega) (by omega) (by omega) (by omega), g108 9 (by omega)]; exact hF.1, ?_⟩
    rw [ps_upS, vz_up_ne _ _ _ (show 0 ≠ 108 by omega), hωf 0 (by omega), ps_upS]
  · exact ps_sheet_fr hS (fun b hb => g b (by omega) (by omega) (by omega) (by omega))
  · exact ps_fix_fr hX (fun b hb => g b (by omega) (by omega) (by omega) (by omega)) (g108 18 (by omega))
theorem ps_stop (D G : Nat → Prop) : ∀ N, ∃ w, w ≤ N ∧ (∀ j, j < w → D j ∧ G j) ∧ (w = N ∨ (w < N ∧ ¬ D w) ∨ (w < N ∧ D w ∧ ¬ G w)) := by
  intro N
  induction N with
  | zero => exact ⟨0, Nat.le_refl _, fun j hj => by omega, Or.inl rfl⟩
  | succ N ih =>
    obtain ⟨w, h1, h2, h3⟩ := ih
    rcases h3 with h3 | ⟨h3, h4⟩ | ⟨h3, h4, h5⟩
    · subst h3
      by_cases d : D w
      · by_cases g : G w
        · refine ⟨w + 1, Nat.le_refl _, fun j hj => ?_, Or.inl rfl⟩
          by_cases e : j = w
          · subst e; exact ⟨d, g⟩
          · exact h2 j (by omega)
        · exact ⟨w, by omega, h2, Or.inr (Or.inr ⟨by omega, d, g⟩)⟩
      · exact ⟨w, by omega, h2, Or.inr (Or.inl ⟨by omega, d⟩)⟩
    · exact ⟨w, by omega, h2, Or.inr (Or.inl ⟨by omega, h4⟩)⟩
    · exact ⟨w, by omega, h2, Or.inr (Or.inr ⟨by omega, h4, h5⟩)⟩
theorem sm_read : sim_read ps_R := by
  intro σ h x1 x2 x3 x4
  have h' := h
  obtain ⟨⟨A, a1, a2, a3, a4, a5, a6, a7, a8⟩, hP, hF, hS, hX⟩ := h'
  have fu : vz_fu = 1000000 := rfl
  by_cases hk : 0 ≤ x1.toInt ∧ x1.toInt ≤ (3 : Nat)
  · have hk8 : f_X8_isSheet x1 = 1 := by rw [ps_k8, if_pos hk]
    have hk9 : f_X9_in x1.toInt64 0 3 = 1 := ps_ilt 3 (by decide) hk
    by_cases hl : 0 ≤ x2.toInt ∧ x2.toInt ≤ (2 : Nat)
    · have hl8 : f_X8_isLane x2 = 1 := by rw [ps_l8, if_pos hl]
      have hl9 : f_X9_in x2.toInt64 0 2 = 1 := ps_ilt 2 (by decide) hl
      by_cases hn : 0 ≤ x4.toInt ∧ x4.toInt ≤ (20 : Nat)
      · have hn8 : f_X8_isWithin x4 0 20 = 1 := ps_w0t (n := 20) (by decide) hn
        have hn9 : f_X9_in x4.toInt64 0 20 = 1 := ps_ilt 20 (by decide) hn
        obtain ⟨k, hk', rfl⟩ := ps_ofL hk
        obtain ⟨l2, hl', rfl⟩ := ps_ofL hl
        obtain ⟨N, hN, rfl⟩ := ps_ofL hn
        have hv : vz_in (nI k) 4 := (ps_in (by omega)).mpr (by omega)
        obtain ⟨s1, ⟨c, c1, c2, c3⟩, s3⟩ := hS k (by omega)
        have r8 : f_X8_read (nI k) (nI l2) x3 (nI N) σ = f_X8_read_44 vz_fu (nI l2) x3 (nI N) (100 + 2 * k) 0 0 0 σ := by
          unfold f_X8_read
          rw [hk8, if_neg ps_10, hl8, if_neg ps_10, hn8, if_neg ps_10, if_pos hv, nI_clamp (by omega)]
        have r9 : ∀ τ : vz_I, ∃ ω, f_X9_read (nI k) (nI l2) x3 (nI N) τ = f_X9_read_56 vz_fu (nI k) (nI l2) x3 (nI N) 0 0 0 ω ∧ (∀ b, b ≠ 109 → ω b = τ b) ∧ (∀ p, p < 183 → ω 109 p = τ 109 p) ∧ (∀ p, p < 61 → ω 109 (183 + p) = τ 109 p) := fun τ => by
          obtain ⟨ω, w1, w2, w3, w4⟩ := ps_copies (σ := τ) (x := 0) (y := 183) (by omega) (by omega) (by omega)
          refine ⟨ω, ?_, w2, fun p hp => w3 p (by omega), fun p hp => by rw [w4 p hp, Nat.zero_add]⟩
          have w1' : f_X9_copies 0 183 τ = some ω := w1
          unfold f_X9_read
          rw [hk9, if_neg ps_10, hl9, if_neg ps_10, hn9, if_neg ps_10, w1', vz_b1]
        have fin : ∀ (w : Nat) (t : Int32) (τ : vz_I) (B : ps_T), ps_Ok B → B 0 0 = A 0 0 → B 0 1 = A 0 1 → ps_C B τ 21 → (∀ b, b < 21 ∨ 37 < b → τ b = σ b) → f_X8_read_44 vz_fu (nI l2) x3 (nI N) (100 + 2 * k) 0 0 0 σ = some (nI w, vz_up τ 0 10 t) → (∀ ω : vz_I, (∀ b, b ≠ 109 → ω b = (vz_up τ 0 10 t) b) → ps_M A (ω 109) 0 → ∃ ω', f_X9_read_56 vz_fu (nI k) (nI l2) x3 (nI N) 0 0 0 ω = some (nI w, vz_up ω' 108 30 t) ∧ ps_M B (ω' 109) 0 ∧ (∀ b, b ≠ 109 → ω' b = ω b) ∧ (∀ p, 61 ≤ p → ω' 109 p = ω 109 p)) → ∃ (r : Int32) (σ1 σ2 : vz_I), f_X8_read (nI k) (nI l2) x3 (nI N) σ = some (r, σ1) ∧ f_X9_read (nI k) (nI l2) x3 (nI N) σ1 = some (r, σ2) ∧ ps_R σ2 := by
          intro w t τ B hB b0 b1 hτ hτf e8 e9
          obtain ⟨ω, w1, w2, w3, w4⟩ := r9 (vz_up τ 0 10 t)
          have h109 : (vz_up τ 0 10 t) 109 = σ 109 := by rw [vz_up_ne _ _ _ (by omega), hτf 109 (by omega)]
          obtain ⟨ω', v1, v2, v3, v4⟩ := e9 ω w2 (ps_M_fr a1 a3 (fun b _ q => by rw [w3 b (by omega), h109]))
          refine ⟨nI w, vz_up τ 0 10 t, vz_up ω' 108 30 t, r8.trans e8, w1.trans v1, ?_⟩
          exact ps_rdend a1 a4 a5 a6 a7 a8 hP hF hS hX hB b0 b1 hτ hτf v2 (fun b hb => by rw [v3 b hb, w2 b hb]) (fun p q1 q2 => by rw [v4 p q1, w3 p q2, h109])
        have fin0 : ∀ t : Int32, f_X8_read_44 vz_fu (nI l2) x3 (nI N) (100 + 2 * k) 0 0 0 σ = f_X8_read_113 vz_fu x3 (100 + 2 * k) t 0 0 σ → (∀ ω : vz_I, (∀ b, b ≠ 109 → ω b = (vz_up σ 0 10 t) b) → f_X9_read_56 vz_fu (nI k) (nI l2) x3 (nI N) 0 0 0 ω = some (0, vz_up ω 108 30 t)) → ∃ (r : Int32) (σ1 σ2 : vz_I), f_X8_read (nI k) (nI l2) x3 (nI N) σ = some (r, σ1) ∧ f_X9_read (nI k) (nI l2) x3 (nI N) σ1 = some (r, σ2) ∧ ps_R σ2 := by
          intro t e8 e9
          refine fin 0 t σ A a1 rfl rfl a2 (fun _ _ => rfl) ?_ (fun ω q1 q2 => ⟨ω, e9 ω q1, q2, fun _ _ => rfl, fun _ _ => rfl⟩)
          rw [e8, show vz_fu = 999999 + 1 from rfl, f_X8_read_113_s, if_pos (by decide)]
          rfl
        by_cases N0 : N = 0
        · subst N0
          refine fin0 0 ?_ (fun ω _ => ?_)
          · rw [show vz_fu = 999999 + 1 from rfl, f_X8_read_44_s, if_pos (by decide)]
            rfl
          · rw [show vz_fu = 999999 + 1 from rfl, f_X9_read_56_s, if_pos (by decide)]
            rfl
        · have flt : ∀ t : Int32, t ≠ 0 → f_X4_faultOfPair (100 + 2 * k) (nI l2) x3 σ = t → f_X8_read_44 vz_fu (nI l2) x3 (nI N) (100 + 2 * k) 0 0 0 σ = f_X8_read_113 vz_fu x3 (100 + 2 * k) t 0 0 σ := fun t ht ef =>
            ps_rd44t (q := 999998) (w := 0) hN (by omega) ht (by rw [show (2 : Int32) * nI 0 = 0 by decide, Int32.add_zero]; exact ef)
          have n2 : ¬ (2 : Int32) * nI N ≤ 0 := by rw [show (2 : Int32) * nI N = nI (2 * N) from pk_mul 2 N]; exact nI_nle (by omega) (by omega)
          have cell : ∀ ω : vz_I, (∀ t : Int32, (∀ b, b ≠ 109 → ω b = (vz_up σ 0 10 t) b) → ω 120 = σ 120 ∧ ω 121 = σ 121 ∧ ω 122 = σ 122 ∧ ω 108 = σ 108) := fun ω t q => ⟨by rw [q 120 (by omega), vz_up_ne _ _ _ (by omega)], by rw [q 121 (by omega), vz_up_ne _ _ _ (by omega)], by rw [q 122 (by omega), vz_up_ne _ _ _ (by omega)], by rw [q 108 (by omega), vz_up_ne _ _ _ (by omega)]⟩
          rcases s1 with ⟨l1, l3⟩ | ⟨l, hl3, l1, l3⟩
          · have fa : ∀ x, f_X4_faultAt (100 + 2 * k) (nI l2) x σ = 1 := fun x => by unfold f_X4_faultAt; rw [l1, if_pos rfl]
            refine fin0 1 (flt 1 (by decide) (by unfold f_X4_faultOfPair; simp only [fa, ite_self])) (fun ω q => ?_)
            obtain ⟨k0, -, -, -⟩ := cell ω 1 q
            rw [show vz_fu = 999998 + 1 + 1 from rfl, f_X9_read_56_s, if_neg n2, if_pos rfl, if_pos hv, nI_clamp (by omega), k0, l3, if_pos rfl]
            exact ps_r9t (by decide)
          · by_cases ll : l = l2
            · subst ll
              by_cases hf : 0 ≤ x3.toInt ∧ x3.toInt < c
              · obtain ⟨f, hf', rfl⟩ := ps_ofM hf
                obtain ⟨w, w1, w2, w3⟩ := ps_stop (fun j => f + 2 * j + 1 < c) (fun j => ps_g2 A (σ (100 + 2 * k + 1) (f + 2 * j)) (σ (100 + 2 * k + 1) (f + 2 * j + 1))) N
                have hg9 : ∀ τ : vz_I, τ 122 = σ 122 → ∀ p, p < 40 → τ 122 (40 * k + p) = σ (100 + 2 * k + 1) p := fun τ q p hp => by
                  rw [q, ← s3 p hp, show 101 + 2 * k = 100 + 2 * k + 1 by omega]
                have hB := ps_rtOk (g := σ (100 + 2 * k + 1)) (f := f) a1 w (fun j hj => (w2 j hj).2)
                have pre8 : ∀ q, vz_fu = q + w → f_X8_read_44 vz_fu (nI l) (nI f) (nI N) (100 + 2 * k) 0 0 0 σ = f_X8_read_44 q (nI l) (nI f) (nI N) (100 + 2 * k) 0 (nI w) (nI w) σ := fun q hq => by
                  rw [hq]
                  exact ps_rd1 a1 a2 c1 l1 hl3 c2 hN w1 (by omega) w2 w 0 (by omega)
                have pre9 : ∀ q, vz_fu = q + 2 * w → ∀ ω : vz_I, ω 120 = σ 120 → ω 121 = σ 121 → ω 122 = σ 122 → ω 108 = σ 108 → ps_M A (ω 109) 0 → ∃ ω', f_X9_read_56 vz_fu (nI k) (nI l) (nI f) (nI N) 0 0 0 ω = f_X9_read_56 q (nI k) (nI l) (nI f) (nI N) 0 (nI w) (nI (2 * w)) ω' ∧ ps_St A (σ (100 + 2 * k + 1)) f ω w ω' := fun q hq ω k0 k1 k2 k3 hM => by
                  rw [hq]
                  exact ps_rd9 (g := σ (100 + 2 * k + 1)) (σ := ω) a1 (by rw [k3]; exact a5) (by omega) (by rw [k0]; exact l3) hl3 (by rw [k1]; exact c3) c1 hN w1 (by omega) (hg9 ω k2) w2 w 0 ω (by omega) ⟨hM, fun _ _ => rfl, fun _ _ => rfl⟩
                have done : ∀ t : Int32, (∀ q, vz_fu = q + 1 + 1 + w → f_X8_read_44 (q + 1 + 1) (nI l) (nI f) (nI N) (100 + 2 * k) 0 (nI w) (nI w) σ = f_X8_read_113 vz_fu (nI f) (100 + 2 * k) t (nI w) 0 σ) → (∀ q, ∀ ω ω' : vz_I, ω' 120 = σ 120 → ω' 121 = σ 121 → f_X9_read_56 (q + 1 + 1 + 1) (nI k) (nI l) (nI f) (nI N) 0 (nI w) (nI (2 * w)) ω' = some (nI w, vz_up ω' 108 30 t)) → ∃ (r : Int32) (σ1 σ2 : vz_I), f_X8_read (nI k) (nI l) (nI f) (nI N) σ = some (r, σ1) ∧ f_X9_read (nI k) (nI l) (nI f) (nI N) σ1 = some (r, σ2) ∧ ps_R σ2 := by
                  intro t e8 e9
                  obtain ⟨τ, t1, t2, t3⟩ := ps_rd2 (t := t) (w := w) a1 c1 c2 (by omega) (by omega) (by omega) w2 vz_fu 0 σ a2 (fun _ _ => rfl) (by omega) (by omega)
                  refine fin w t τ (ps_rt A (σ (100 + 2 * k + 1)) f w) hB (ps_rtN _ _ _ _ (by omega) _) (ps_rtN _ _ _ _ (by omega) _) t2 t3 ?_ (fun ω q1 q2 => ?_)
                  · rw [pre8 (999998 - w + 1 + 1) (by omega), e8 _ (by omega)]
                    exact t1
                  · have qb : ∀ b, b ≠ 109 → b ≠ 0 → (b < 21 ∨ 37 < b) → ω b = σ b := fun b z1 z2 z3 => by rw [q1 b z1, vz_up_ne _ _ _ z2, t3 b z3]
                    obtain ⟨ω', v1, v2, v3, v4⟩ := pre9 (999997 - 2 * w + 1 + 1 + 1) (by omega) ω (qb 120 (by omega) (by omega) (by omega)) (qb 121 (by omega) (by omega) (by omega)) (qb 122 (by omega) (by omega) (by omega)) (qb 108 (by omega) (by omega) (by omega)) q2
                    refine ⟨ω', ?_, v2, v3, v4⟩
                    rw [v1]
                    exact e9 _ ω ω' (by rw [v3 120 (by omega), qb 120 (by omega) (by omega) (by omega)]) (by rw [v3 121 (by omega), qb 121 (by omega) (by omega) (by omega)])
                rcases w3 with w3 | ⟨w3, w4⟩ | ⟨w3, w4, w5⟩
                · subst w3
                  refine done 0 (fun q _ => ?_) (fun q ω ω' k0 k1 => ?_)
                  · rw [f_X8_read_44_s, if_pos (nI_le (Nat.le_refl _) (by omega))]
                  · rw [f_X9_read_56_s, show (2 : Int32) * nI w = nI (2 * w) from pk_mul 2 w, if_pos (nI_le (Nat.le_refl _) (by omega))]
                    rfl
                · refine done 2 (fun q _ => ?_) (fun q ω ω' k0 k1 => ?_)
                  · exact ps_rd44t hN w3 (by decide) (by rw [ps_f2, ps_fp c1 l1 hl3 c2 (by omega), if_neg w4])
                  · by_cases z : f + 2 * w < c
                    · rw [ps_r9e (by omega) (by rw [k0]; exact l3) hl3 (by rw [k1]; exact c3) c1 w3 hN (by omega) z, ps_r56 (by omega) (by rw [k0]; exact l3) hl3 (by rw [k1]; exact c3) c1 (by omega) hN (by omega), if_neg (by omega)]
                      exact ps_r9t (by decide)
                    · rw [ps_r56 (by omega) (by rw [k0]; exact l3) hl3 (by rw [k1]; exact c3) c1 (by omega) hN (by omega), if_neg z]
                      exact ps_r9t (by decide)
                · have e8 : f_X8_read_44 vz_fu (nI l) (nI f) (nI N) (100 + 2 * k) 0 0 0 σ = some ((-20 : Int32) - nI w, σ) := by
                    rw [pre8 (999999 - w + 1) (by omega), f_X8_read_44_s, if_neg (nI_ge (by omega) (by omega)), if_pos rfl, ps_f2, ps_fp c1 l1 hl3 c2 (by omega), if_pos w4, if_pos rfl, ps_csN a1 a2 c1 c2 w4 w5, vz_b1, if_pos rfl]
                  obtain ⟨ω, v1, v2, v3, v4⟩ := r9 σ
                  obtain ⟨ω', u1, u2, u3, u4⟩ := pre9 (999998 - 2 * w + 1 + 1) (by omega) ω (v2 120 (by omega)) (v2 121 (by omega)) (v2 122 (by omega)) (v2 108 (by omega)) (ps_M_fr a1 a3 (fun b _ q => by rw [v3 b (by omega)]))
                  obtain ⟨υ, y1, y2, y3, y4⟩ := ps_copies (σ := ω') (x := 183) (y := 0) (by omega) (by omega) (by omega)
                  have y1' : f_X9_copies 183 0 ω' = some υ := y1
                  have k0 : ω' 120 = σ 120 := by rw [u3 120 (by omega), v2 120 (by omega)]
                  have k1 : ω' 121 = σ 121 := by rw [u3 121 (by omega), v2 121 (by omega)]
                  have k2 : ω' 122 = σ 122 := by rw [u3 122 (by omega), v2 122 (by omega)]
                  have k3 : ω' 108 = σ 108 := by rw [u3 108 (by omega), v2 108 (by omega)]
                  refine ⟨(-20 : Int32) - nI w, σ, υ, r8.trans e8, ?_, ?_⟩
                  · rw [v1, u1, ps_r9e (by omega) (by rw [k0]; exact l3) hl3 (by rw [k1]; exact c3) c1 w3 hN (by omega) (by omega), ps_r9o (by omega) (by rw [k0]; exact l3) hl3 (by rw [k1]; exact c3) c1 w3 hN (by omega) w4, hg9 ω' k2 _ (by omega), hg9 ω' k2 _ (by omega), ps_s9N a1 (by rw [k3]; exact a5) w5, vz_b2, if_neg (by decide), y1', vz_b1]
                  · refine ps_R_Q h ⟨fun b hb => ?_, fun p hp => ?_, fun j hj => ?_⟩
                    · rw [y2 b (by omega), u3 b (by omega), v2 b (by omega)]
                    · by_cases z : p < 61
                      · have y := y4 p z
                        rw [Nat.zero_add] at y
                        rw [y, u4 _ (by omega), v4 p z]
                      · rw [y3 p (by omega), u4 p (by omega), v3 p hp]
                    · rw [y2 108 (by omega), k3]
              · have fa : f_X4_faultAt (100 + 2 * k) (nI l) x3 σ = 2 := by
                  unfold f_X4_faultAt
                  rw [l1, if_neg (ps_n4 (by omega)), if_pos rfl, ps_hc (by omega) c2, if_neg hf, if_pos rfl]
                refine fin0 2 (flt 2 (by decide) (by unfold f_X4_faultOfPair; rw [fa, if_neg (by decide)])) (fun ω q => ?_)
                obtain ⟨k0, k1, -, -⟩ := cell ω 2 q
                have hin : f_X9_in (x3.toInt64 + (0 : Int32).toInt64) 0 (nI c - 1).toInt64 = 0 := by
                  rw [show (0 : Int32).toInt64 = 0 from rfl, Int64.add_zero, ps_i, ps_x64, ps_x64, ps_m1 (by omega), show (0 : Int64).toInt = 0 by decide, if_neg (by omega)]
                rw [show vz_fu = 999998 + 1 + 1 from rfl, f_X9_read_56_s, if_neg n2, if_pos rfl, if_pos hv, nI_clamp (by omega), k0, l3, if_neg (ps_n4 (by omega)), if_pos hv, if_pos rfl, if_pos hv, k1, c3, hin, if_pos rfl]
                exact ps_r9t (by decide)
            · have ne : ¬ nI l = nI l2 := fun q => ll ((nI_eq (by omega) (by omega)).mp q)
              have fa : ∀ x, f_X4_faultAt (100 + 2 * k) (nI l2) x σ = 3 := fun x => by unfold f_X4_faultAt; rw [l1, if_neg (ps_n4 (by omega)), if_neg ne]
              refine fin0 3 (flt 3 (by decide) (by unfold f_X4_faultOfPair; simp only [fa, ite_self])) (fun ω q => ?_)
              obtain ⟨k0, -, -, -⟩ := cell ω 3 q
              rw [show vz_fu = 999998 + 1 + 1 from rfl, f_X9_read_56_s, if_neg n2, if_pos rfl, if_pos hv, nI_clamp (by omega), k0, l3, if_neg (ps_n4 (by omega)), if_pos hv, if_neg ne]
              exact ps_r9t (by decide)
      · have hn8 : f_X8_isWithin x4 0 20 = 0 := ps_w0f (n := 20) (by decide) hn
        have hn9 : f_X9_in x4.toInt64 0 20 = 0 := ps_ilf 20 (by decide) hn
        refine ⟨-1, σ, σ, ?_, ?_, h⟩
        · unfold f_X8_read
          rw [hk8, if_neg ps_10, hl8, if_neg ps_10, hn8, if_pos rfl]
        · unfold f_X9_read
          rw [hk9, if_neg ps_10, hl9, if_neg ps_10, hn9, if_pos rfl]
    · have hl9 : f_X9_in x2.toInt64 0 2 = 0 := ps_ilf 2 (by decide) hl
      refine ⟨-1, σ, σ, ?_, ?_, h⟩
      · unfold f_X8_read
        rw [hk8, if_neg ps_10, ps_l8, if_neg hl, if_pos rfl]
      · unfold f_X9_read
        rw [hk9, if_neg ps_10, hl9, if_pos rfl]
  · have hk9 : f_X9_in x1.toInt64 0 3 = 0 := ps_ilf 3 (by decide) hk
    refine ⟨-1, σ, σ, ?_, ?_, h⟩
    · unfold f_X8_read
      rw [ps_k8, if_neg hk, if_pos rfl]
    · unfold f_X9_read
      rw [hk9, if_pos rfl]
