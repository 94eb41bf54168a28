/-! pure: ask -/
theorem ps_sub {a b : Nat} (h : b ≤ a) : nI a - nI b = nI (a - b) := by
  obtain ⟨d, rfl⟩ : ∃ d, a = b + d := ⟨a - b, by omega⟩
  rw [← nI_add, show nI b + nI d - nI b = nI d by rw [Int32.add_comm, Int32.add_sub_cancel], show b + d - b = d by omega]
theorem ps_pop4 : ∀ v, v < 16 → f_J6_bitCount_0f7a4 (nI v) = nI (ps_cnt 4 (fun w => v.testBit w)) := by decide +kernel
theorem ps_pop4m (P : Nat → Bool) : f_J6_bitCount_0f7a4 (nI (ps_mask 4 P)) = nI (ps_cnt 4 P) := by
  rw [ps_pop4 _ (ps_mask_lt P 4)]
  congr 1
  apply ps_cnt_congr
  intro i hi
  rw [ps_mask_t]
  simp [hi]
theorem ps_cnt_mono {P Q : Nat → Bool} (h : ∀ i, Q i = true → P i = true) : ∀ n, ps_cnt n Q ≤ ps_cnt n P := by
  intro n
  induction n with
  | zero => exact Nat.le_refl _
  | succ n ih =>
    rw [ps_cnt, ps_cnt]
    by_cases q : Q n = true
    · rw [if_pos q, if_pos (h n q)]; omega
    · rw [if_neg q]; omega
def ps_yes (A : ps_T) (K : Nat → Bool) (m r t : Nat) (c : Nat) : Bool := K c && decide (ps_wb A m c r ≤ t)
theorem ps_yes_le (A : ps_T) (K : Nat → Bool) (m r t n : Nat) : ps_cnt n (ps_yes A K m r t) ≤ ps_cnt n K := ps_cnt_mono (fun i h => by
  unfold ps_yes at h
  rw [Bool.and_eq_true] at h
  exact h.1) n
def ps_wst (A : ps_T) (K : Nat → Bool) (m r t : Nat) : Nat := max (ps_cnt 4 (ps_yes A K m r t)) (ps_cnt 4 K - ps_cnt 4 (ps_yes A K m r t))
theorem ps_wst_le (A : ps_T) (K : Nat → Bool) (m r t : Nat) : ps_wst A K m r t ≤ 4 := by
  have h1 := ps_yes_le A K m r t 4
  have h2 := ps_cnt_le K 4
  unfold ps_wst
  omega
def ps_ac (r t : Nat) : Int32 := nI (100 * r + t)
def ps_aw' (A : ps_T) (K : Nat → Bool) (m r t : Nat) : Int32 := -(nI (ps_wst A K m r t))
def ps_aso (A : ps_T) (K : Nat → Bool) (m : Nat) (s0 : Int32 × Int32) : Nat → Int32 × Int32
  | 0 => s0
  | r + 1 => ps_fo (ps_ac r) (ps_aw' A K m r) 60 (ps_aso A K m s0 r)
theorem ps_nwk_l {A : ps_T} {m r : Nat} (hok : ps_Ok A) (hm : m < A 0 0) (hr : r < A 0 1) : ∀ (n i k : Nat) (σ : vz_I), ps_C (ps_set A (0 + 1) m k) σ 38 → i ≤ 4 → 4 - i < n → (∀ c, c < i → σ 65 c = ps_n (ps_wb A m c r)) → ∃ σ', f_X8_noteWhenKnown_33_4 n (38 + 5 + 2 * m) (38 + 13 + r) (nI i) σ = some σ' ∧ (∀ b, (b < 38 ∨ 54 < b) → b ≠ 65 → σ' b = σ b) ∧ ∀ c, c < 4 → σ' 65 c = ps_n (ps_wb A m c r) := by
  have o1 := hok.1
  obtain ⟨k1, k2, k3⟩ := ps_rOk hok hr
  have kw := (hok.2.2.2.2.2.1 m hm).2.1
  intro n
  induction n with
  | zero => intro i k σ _ _ h; omega
  | succ n ih =>
    intro i k σ hC hi hn hp
    rw [f_X8_noteWhenKnown_33_4_s]
    by_cases e : i = 4
    · subst e
      rw [if_pos (by decide)]
      exact ⟨σ, rfl, fun _ _ _ => rfl, hp⟩
    · have hB : ps_Ok (ps_set A (0 + 1) m i) := ps_Ok_man hok (by omega) (by omega)
      have hC' := ps_C_man (v := i) (s := 0) (m := m) (by rw [ps_setN _ _ (by omega)]; exact hm) (by rw [ps_setN _ _ (by omega)]; exact o1) (by omega) hC
      rw [ps_set_set] at hC'
      have g2 := (hC'.2.2.2.2.2.1 m (by rw [ps_setN _ _ (by omega)]; exact hm)).2.1
      rw [ps_setN _ _ (by omega)] at g2
      have hrc := ps_rcOf (r := r) hC' (by rw [ps_setN _ _ (by omega)]; exact hr)
      rw [ps_setN (a := 4) _ _ (by omega), ps_setN (a := 5) _ _ (by omega), ps_setN (a := 6) _ _ (by omega)] at hrc
      rw [if_neg (show ¬ (4 : Int32) ≤ nI i from nI_ge (b := 4) (by omega) (by omega)), g2, ps_fw hB hC' hrc k1 k2 k3 kw, vz_b1, if_pos ((ps_in (by omega)).mpr (by omega)), nI_clamp (by omega), nI_1]
      obtain ⟨σ', e1, e2, e3⟩ := ih (i + 1) i (vz_up (vz_up σ (38 + 5 + 2 * m) 0 (nI i)) 65 i (ps_n (ps_W (ps_set A (0 + 1) m i) 0 (A 4 r) (A 5 r) (A 6 r) (A 2 m)))) (ps_C_fr hB hC' (fun b _ _ => vz_up_ne _ _ _ (by omega))) (by omega) (by omega) (fun c hc => by
        by_cases q : c = i
        · subst q; rw [ps_upS]; rfl
        · rw [ps_upN _ _ q, vz_up_ne _ _ _ (by omega)]; exact hp c (by omega))
      exact ⟨σ', e1, fun b r1 r2 => by rw [e2 b r1 r2, vz_up_ne _ _ _ r2, vz_up_ne _ _ _ (by omega)], e3⟩
theorem ps_nwk {A : ps_T} {σ : vz_I} {m r : Nat} (hok : ps_Ok A) (hC : ps_C A σ 21) (hm : m < A 0 0) (hr : r < A 0 1) : ∃ σ', f_X8_noteWhenKnown (nI m) (nI r) σ = some σ' ∧ (∀ b, (b < 38 ∨ 54 < b) → b ≠ 65 → σ' b = σ b) ∧ ∀ c, c < 4 → σ' 65 c = ps_n (ps_wb A m c r) := by
  obtain ⟨σ3, c1, c2, c3⟩ := ps_copy (T := 38) hok hC (by omega)
  have hC0 : ps_C (ps_set A (0 + 1) m (A 1 m)) σ3 38 := by
    rw [ps_set_self]
    exact c2
  obtain ⟨σ', e1, e2, e3⟩ := ps_nwk_l hok hm hr vz_fu 0 _ σ3 hC0 (by omega) (by have : vz_fu = 1000000 := rfl; omega) (fun c hc => by omega)
  refine ⟨σ', ?_, fun b r1 r2 => by rw [e2 b r1 r2, c3 b (by omega)], e3⟩
  unfold f_X8_noteWhenKnown
  rw [c1, vz_b1, ps_manY hok c2 hm, vz_b1, vz_mo, ps_rdY hok c2 hr, vz_b1, vz_mo]
  exact e1
theorem ps_nin {x t : Nat} (hx : x < 60 ∨ x = 1000) (ht : t < 60) : f_X8_isWithin (ps_n x) 0 (nI t) = if x ≤ t then 1 else 0 := by
  rw [ps_w0 _ (by omega)]
  unfold ps_n
  by_cases e : x = 1000
  · rw [if_pos e, if_neg (by rw [show (-4 : Int32).toInt = -4 by decide]; omega), if_neg (by omega)]
  · rw [if_neg e, nI_toInt (by omega)]
    by_cases z : x ≤ t
    · rw [if_pos (by omega), if_pos z]
    · rw [if_neg (by omega), if_neg z]
theorem ps_kkb_l {A : ps_T} {σ : vz_I} {K : Nat → Bool} {m r t : Nat} (ht : t < 60) (h65 : ∀ c, c < 4 → σ 65 c = ps_n (ps_wb A m c r)) : ∀ n i, i ≤ 4 → 4 - i < n → f_X8_kindsKnownBy_5 n (nI (ps_mask 4 K)) (nI t) (nI (ps_cnt i (ps_yes A K m r t))) (nI i) σ = some (nI (ps_cnt 4 (ps_yes A K m r t))) := by
  have hml := ps_mask_lt K 4
  intro n
  induction n with
  | zero => intro i _ h; omega
  | succ n ih =>
    intro i hi hn
    rw [f_X8_kindsKnownBy_5_s]
    by_cases e : i = 4
    · subst e
      rw [if_pos (by decide)]
    · have q := ih (i + 1) (by omega) (by omega)
      rw [ps_cnt] at q
      have tb : (ps_mask 4 K).testBit i = K i := by rw [ps_mask_t]; simp [show i < 4 by omega]
      rw [if_neg (show ¬ (4 : Int32) ≤ nI i from nI_ge (b := 4) (by omega) (by omega)), if_pos ((ps_in (by omega)).mpr (by omega)), nI_clamp (by omega), h65 i (by omega), ps_nin (x := ps_wb A m i r) (ps_W_max _ _ _ _ _ _) ht, nI_1]
      by_cases z : K i = true
      · rw [if_pos ((ps_bit (by omega) (by omega)).mpr (by rw [tb]; exact z))]
        by_cases y : ps_wb A m i r ≤ t
        · rw [if_pos y, if_neg ps_10, nI_1]
          rw [show ps_yes A K m r t i = true by unfold ps_yes; rw [z, decide_eq_true y]; rfl, if_pos rfl] at q
          exact q
        · rw [if_neg y, if_pos rfl]
          rw [show ps_yes A K m r t i = false by unfold ps_yes; rw [decide_eq_false y, Bool.and_false], if_neg (by decide), Nat.add_zero] at q
          exact q
      · rw [if_neg (fun w => z (by rw [← tb]; exact (ps_bit (by omega) (by omega)).mp w))]
        have z' : K i = false := by simpa using z
        rw [show ps_yes A K m r t i = false by unfold ps_yes; rw [z', Bool.false_and], if_neg (by decide), Nat.add_zero] at q
        exact q
theorem ps_kkb {A : ps_T} {σ : vz_I} {K : Nat → Bool} {m r t : Nat} (ht : t < 60) (h65 : ∀ c, c < 4 → σ 65 c = ps_n (ps_wb A m c r)) : f_X8_kindsKnownBy (nI (ps_mask 4 K)) (nI t) σ = some (nI (ps_cnt 4 (ps_yes A K m r t))) :=
  ps_kkb_l ht h65 vz_fu 0 (by omega) (by have : vz_fu = 1000000 := rfl; omega)
theorem ps_ask8i {A : ps_T} {K : Nat → Bool} {m r : Nat} {x1 x2 : Int32} {s0 : Int32 × Int32} {k45 : Int32 → Int32 → Int32 → Int32 → Int32 → vz_I → Option (Int32 × vz_I)} (hr : r < 4) : ∀ (n t : Nat) (σ : vz_I), (∀ c, c < 4 → σ 65 c = ps_n (ps_wb A m c r)) → t ≤ 60 → 60 - t < n → ps_pk σ (ps_fo (ps_ac r) (ps_aw' A K m r) t s0) → ∃ σ', f_X8_ask_67 k45 n x1 x2 (nI (ps_mask 4 K)) (nI (ps_cnt 4 K)) (nI r) (nI t) σ = k45 x1 x2 (nI (ps_mask 4 K)) (nI (ps_cnt 4 K)) (nI (r + 1)) σ' ∧ ps_pk σ' (ps_fo (ps_ac r) (ps_aw' A K m r) 60 s0) ∧ ∀ b, b ≠ 64 → σ' b = σ b := by
  have hcl := ps_cnt_le K 4
  intro n
  induction n with
  | zero => intro t σ _ _ h; omega
  | succ n ih =>
    intro t σ h65 ht hn hp
    rw [f_X8_ask_67_s]
    by_cases e : t = 60
    · subst e
      rw [if_pos (by decide), nI_1]
      exact ⟨σ, rfl, hp, fun _ _ => rfl⟩
    · have hy := ps_yes_le A K m r t 4
      obtain ⟨q1, q2⟩ := ps_offer (x := ps_ac r t) (y := ps_aw' A K m r t) hp
      rw [if_neg (show ¬ (60 : Int32) ≤ nI t from nI_ge (b := 60) (by omega) (by omega)), ps_kkb (by omega) h65, vz_b1, ps_sub hy, ps_vmax (by omega) (by omega), show (100 : Int32) * nI r = nI (100 * r) from pk_mul 100 r, nI_add, nI_1]
      obtain ⟨σ', e1, e2, e3⟩ := ih (t + 1) (f_X2_offer (ps_ac r t) (ps_aw' A K m r t) σ) (fun c hc => by rw [q2 65 (by omega)]; exact h65 c hc) (by omega) (by omega) q1
      exact ⟨σ', e1, e2, fun b hb => by rw [e3 b hb, q2 b hb]⟩
theorem ps_ask8 {A : ps_T} {K : Nat → Bool} {m : Nat} {x2 : Int32} {s0 : Int32 × Int32} (hok : ps_Ok A) (hm : m < A 0 0) : ∀ (n r : Nat) (σ : vz_I), ps_C A σ 21 → r ≤ A 0 1 → A 0 1 - r < n → ps_pk σ (ps_aso A K m s0 r) → ∃ σ', f_X8_ask_45 n (nI m) x2 (nI (ps_mask 4 K)) (nI (ps_cnt 4 K)) (nI r) σ = some (f_X2_toldOfFewest x2 σ', σ') ∧ ps_pk σ' (ps_aso A K m s0 (A 0 1)) ∧ ∀ b, (b < 38 ∨ 54 < b) → b ≠ 64 → b ≠ 65 → σ' b = σ b := by
  have o2 := hok.2.1
  intro n
  induction n with
  | zero => intro r σ _ _ h; omega
  | succ n ih =>
    intro r σ hC hr hn hp
    rw [f_X8_ask_45_s, hC.2.2.1]
    by_cases e : A 0 1 ≤ r
    · obtain rfl : r = A 0 1 := by omega
      rw [if_pos (nI_le (Nat.le_refl _) (by omega))]
      exact ⟨σ, rfl, hp, fun _ _ _ _ => rfl⟩
    · obtain ⟨τ, t1, t2, t3⟩ := ps_nwk hok hC hm (show r < A 0 1 by omega)
      obtain ⟨υ, u1, u2, u3⟩ := ps_ask8i (K := K) (x1 := nI m) (x2 := x2) (k45 := f_X8_ask_45 n) (s0 := ps_aso A K m s0 r) (show r < 4 by omega) vz_fu 0 τ t3 (by omega) (by have : vz_fu = 1000000 := rfl; omega) ⟨by rw [t2 64 (by omega) (by omega)]; exact hp.1, by rw [t2 64 (by omega) (by omega)]; exact hp.2⟩
      rw [show nI 0 = (0 : Int32) from rfl] at u1
      rw [if_neg (nI_ge (by omega) (by omega)), t1, vz_b1, u1]
      obtain ⟨σ', e1, e2, e3⟩ := ih (r + 1) υ (ps_C_fr hok hC (fun b _ _ => by rw [u3 b (by omega), t2 b (by omega) (by omega)])) (by omega) (by omega) u2
      exact ⟨σ', e1, e2, fun b r1 r2 r3 => by rw [e3 b r1 r2 r3, u3 b r2, t2 b r1 r3]⟩
/-! the reference -/
theorem ps_ask91 {A : ps_T} {σ : vz_I} {K : Nat → Bool} {m r t : Nat} {x2 x5 x6 : Int32} {k66 : Int32 → Int32 → Int32 → Int32 → Int32 → Int32 → vz_I → Option (Int32 × vz_I)} {k78 : Int32 → Int32 → Int32 → Int32 → Int32 → Int32 → Int32 → vz_I → Option (Int32 × vz_I)} (ht : t < 60) (hr : r < A 0 1) (hr4 : r < 4) (h118 : ∀ c, c < 4 → ∀ r, r < A 0 1 → σ 118 (4 * c + r) = nI (ps_wb A m c r)) : ∀ n i, i ≤ 4 → 4 - i < n → f_X9_ask_91 k66 k78 n x2 (nI (ps_mask 4 K)) (nI (ps_cnt 4 K)) x5 x6 (nI r) (nI t) (nI (ps_cnt i (ps_yes A K m r t))) (nI i) σ = f_X9_ask_160 k66 k78 x2 (nI (ps_mask 4 K)) (nI (ps_cnt 4 K)) x5 x6 (nI r) (nI t) (nI (ps_wst A K m r t)) σ := by
  have hml := ps_mask_lt K 4
  have hcl := ps_cnt_le K 4
  intro n
  induction n with
  | zero => intro i _ h; omega
  | succ n ih =>
    intro i hi hn
    rw [f_X9_ask_91_s]
    by_cases e : i = 4
    · subst e
      have hy := ps_yes_le A K m r t 4
      rw [if_pos (by decide), ps_sub hy]
      unfold ps_wst
      by_cases z : ps_cnt 4 (ps_yes A K m r t) ≤ ps_cnt 4 K - ps_cnt 4 (ps_yes A K m r t)
      · rw [if_pos (nI_le z (by omega)), Nat.max_eq_right z]
      · rw [if_neg (nI_ge (by omega) (by omega)), Nat.max_eq_left (by omega)]
    · have q := ih (i + 1) (by omega) (by omega)
      rw [show ps_cnt (i + 1) (ps_yes A K m r t) = ps_cnt i (ps_yes A K m r t) + (if ps_yes A K m r t i = true then 1 else 0) from rfl] at q
      have mW := ps_W_max (ps_set A (0 + 1) m i) 0 (A 4 r) (A 5 r) (A 6 r) (A 2 m)
      have tb : (ps_mask 4 K).testBit i = K i := by rw [ps_mask_t]; simp [show i < 4 by omega]
      have z0 : ∀ x : Nat, nI x + (0 : Int32) = nI x := fun x => nI_add x 0
      rw [if_neg (show ¬ (4 : Int32) ≤ nI i from nI_ge (b := 4) (by omega) (by omega)), show (4 : Int32) * nI i = nI (4 * i) from pk_mul 4 i, nI_add, if_pos ((ps_in (by omega)).mpr (by omega)), nI_clamp (by omega), h118 i (by omega) r hr, nI_1, z0, nI_1]
      by_cases z : K i = true
      · rw [if_pos ((ps_bit (by omega) (by omega)).mpr (by rw [tb]; exact z))]
        by_cases y : ps_wb A m i r ≤ t
        · rw [if_neg (nI_nlt y (by omega))]
          rw [show ps_yes A K m r t i = true by unfold ps_yes; rw [z, decide_eq_true y]; rfl, if_pos rfl] at q
          exact q
        · rw [if_pos (nI_lt (by omega) (by unfold ps_wb; omega))]
          rw [show ps_yes A K m r t i = false by unfold ps_yes; rw [decide_eq_false y, Bool.and_false], if_neg (by decide), Nat.add_zero] at q
          exact q
      · rw [if_neg (fun w => z (by rw [← tb]; exact (ps_bit (by omega) (by omega)).mp w))]
        have z' : K i = false := by simpa using z
        rw [show ps_yes A K m r t i = false by unfold ps_yes; rw [z', Bool.false_and], if_neg (by decide), Nat.add_zero] at q
        exact q
theorem ps_ask78 {A : ps_T} {σ : vz_I} {K : Nat → Bool} {m r : Nat} {x2 : Int32} {s0 : Int32 × Int32} {k66 : Int32 → Int32 → Int32 → Int32 → Int32 → Int32 → vz_I → Option (Int32 × vz_I)} (hr : r < A 0 1) (hr4 : r < 4) (h118 : ∀ c, c < 4 → ∀ r, r < A 0 1 → σ 118 (4 * c + r) = nI (ps_wb A m c r)) : ∀ (n t l : Nat) (y : Int32), t ≤ 60 → 60 - t < n → l ≤ 4 → (y, -(nI l)) = ps_fo (ps_ac r) (ps_aw' A K m r) t s0 → ∃ l' y', l' ≤ 4 ∧ f_X9_ask_78 k66 n x2 (nI (ps_mask 4 K)) (nI (ps_cnt 4 K)) (nI l) y (nI r) (nI t) σ = k66 x2 (nI (ps_mask 4 K)) (nI (ps_cnt 4 K)) (nI l') y' (nI (r + 1)) σ ∧ (y', -(nI l')) = ps_fo (ps_ac r) (ps_aw' A K m r) 60 s0 := by
  intro n
  induction n with
  | zero => intro t l y _ h; omega
  | succ n ih =>
    intro t l y ht hn hl hp
    rw [f_X9_ask_78_s]
    by_cases e : t = 60
    · subst e
      rw [if_pos (by decide), nI_1]
      exact ⟨l, y, hl, rfl, hp⟩
    · have q := ps_ask91 (K := K) (x2 := x2) (x5 := nI l) (x6 := y) (k66 := k66) (k78 := f_X9_ask_78 k66 n) (show t < 60 by omega) hr hr4 h118 vz_fu 0 (by omega) (by have : vz_fu = 1000000 := rfl; omega)
      rw [ps_cnt, show nI 0 = (0 : Int32) from rfl] at q
      have hw := ps_wst_le A K m r t
      rw [if_neg (show ¬ (60 : Int32) ≤ nI t from nI_ge (b := 60) (by omega) (by omega)), q]
      unfold f_X9_ask_160 f_X9_ask_182
      rw [nI_1, show (100 : Int32) * nI r = nI (100 * r) from pk_mul 100 r, nI_add]
      have zz : ps_aw' A K m r t ≤ -(nI l) ↔ nI l ≤ nI (ps_wst A K m r t) := ps_negle (by omega) (by omega)
      by_cases z : nI l ≤ nI (ps_wst A K m r t)
      · rw [if_pos z, if_pos z]
        exact ih (t + 1) l y (by omega) (by omega) hl (ps_fo_y hp (zz.mpr z))
      · rw [if_neg z, if_neg z]
        exact ih (t + 1) (ps_wst A K m r t) (nI (100 * r + t)) (by omega) (by omega) hw (ps_fo_n hp (fun w => z (zz.mp w)))
theorem ps_ask66 {A : ps_T} {σ : vz_I} {K : Nat → Bool} {m : Nat} {x2 : Int32} {s0 : Int32 × Int32} (hok : ps_Ok A) (h2 : σ 108 2 = nI (A 0 1)) (h118 : ∀ c, c < 4 → ∀ r, r < A 0 1 → σ 118 (4 * c + r) = nI (ps_wb A m c r)) : ∀ (n r l : Nat) (y : Int32), r ≤ A 0 1 → A 0 1 - r < n → l ≤ 4 → (y, -(nI l)) = ps_aso A K m s0 r → f_X9_ask_66 n x2 (nI (ps_mask 4 K)) (nI (ps_cnt 4 K)) (nI l) y (nI r) σ = some (if (ps_aso A K m s0 (A 0 1)).1 = -4 then (ps_aso A K m s0 (A 0 1)).1 else if x2 = 0 then (ps_aso A K m s0 (A 0 1)).1 else -(ps_aso A K m s0 (A 0 1)).2, σ) := by
  have o2 := hok.2.1
  intro n
  induction n with
  | zero => intro r l y _ h; omega
  | succ n ih =>
    intro r l y hr hn hl hp
    rw [f_X9_ask_66_s, h2]
    by_cases e : A 0 1 ≤ r
    · obtain rfl : r = A 0 1 := by omega
      rw [if_pos (nI_le (Nat.le_refl _) (by omega)), ← hp]
      show (if y = -4 then some (y, σ) else if x2 = 0 then some (y, σ) else some (nI l, σ)) = some (if y = -4 then y else if x2 = 0 then y else -(-(nI l)), σ)
      rw [Int32.neg_neg]
      split
      · rfl
      · split <;> rfl
    · obtain ⟨l', y', q1, q2, q3⟩ := ps_ask78 (K := K) (x2 := x2) (k66 := f_X9_ask_66 n) (s0 := ps_aso A K m s0 r) (show r < A 0 1 by omega) (by omega) h118 vz_fu 0 l y (by omega) (by have : vz_fu = 1000000 := rfl; omega) hl hp
      rw [show nI 0 = (0 : Int32) from rfl] at q2
      rw [if_neg (nI_ge (by omega) (by omega)), q2]
      exact ih (r + 1) l' y' (by omega) (by omega) q1 q3
theorem ps_ask32 {A : ps_T} {σ : vz_I} {K : Nat → Bool} {m : Nat} {x2 : Int32} (hok : ps_Ok A) (h2 : σ 108 2 = nI (A 0 1)) (h118 : ∀ c, c < 4 → ∀ r, r < A 0 1 → σ 118 (4 * c + r) = nI (ps_wb A m c r)) : ∀ (n i : Nat), i ≤ 4 → 4 - i < n → f_X9_ask_32 n x2 (nI (ps_mask 4 K)) (nI (ps_cnt i K)) (nI i) σ = some (if (ps_aso A K m (-4, -(nI (ps_cnt 4 K))) (A 0 1)).1 = -4 then (ps_aso A K m (-4, -(nI (ps_cnt 4 K))) (A 0 1)).1 else if x2 = 0 then (ps_aso A K m (-4, -(nI (ps_cnt 4 K))) (A 0 1)).1 else -(ps_aso A K m (-4, -(nI (ps_cnt 4 K))) (A 0 1)).2, σ) := by
  have o2 := hok.2.1
  have hml := ps_mask_lt K 4
  have hcl := ps_cnt_le K 4
  intro n
  induction n with
  | zero => intro i _ h; omega
  | succ n ih =>
    intro i hi hn
    rw [f_X9_ask_32_s]
    by_cases e : i = 4
    · subst e
      rw [if_pos (by decide)]
      exact ps_ask66 hok h2 h118 vz_fu 0 (ps_cnt 4 K) (-4) (by omega) (by have : vz_fu = 1000000 := rfl; omega) hcl rfl
    · have q := ih (i + 1) (by omega) (by omega)
      rw [ps_cnt] at q
      have tb : (ps_mask 4 K).testBit i = K i := by rw [ps_mask_t]; simp [show i < 4 by omega]
      rw [Nat.testBit_eq_decide_div_mod_eq] at tb
      rw [if_neg (show ¬ (4 : Int32) ≤ nI i from nI_ge (b := 4) (by omega) (by omega)), ps_shb (by omega) (by omega), nI_add, nI_1]
      by_cases z : K i = true
      · rw [z, decide_eq_true_eq] at tb
        rw [if_pos z] at q
        rw [tb]
        exact q
      · have z' : K i = false := by simpa using z
        rw [z', decide_eq_false_iff_not] at tb
        rw [if_neg z] at q
        rw [show ps_mask 4 K / 2 ^ i % 2 = 0 by omega]
        exact q
theorem sm_ask : sim_ask ps_R := by
  intro σ h x1 x2
  have h' := h
  obtain ⟨⟨A, a1, a2, a3, a4, a5, a6, a7, a8⟩, hP, hF, hS, hX⟩ := h'
  have o2 := a1.2.1
  by_cases hc : 0 ≤ x1.toInt ∧ x1.toInt < A 0 0
  · obtain ⟨m, hm, rfl⟩ := ps_ofM hc
    have hmY := ps_isManY a1 a4 hm
    by_cases hd : 0 ≤ x2.toInt ∧ x2.toInt ≤ (1 : Nat)
    · have hi9 : f_X9_in x2.toInt64 0 1 = 1 := ps_ilt 1 (by decide) hd
      obtain ⟨S, N, hs⟩ := ps_snO a1 a6
      obtain ⟨τ, t1, t2⟩ := ps_pk8 a1 a2 hm hs
      obtain ⟨p1, p2⟩ := ps_restart τ (-(nI (ps_cnt 4 (ps_kp A S N m))))
      obtain ⟨υ, u1, u2, u3⟩ := ps_ask8 (K := ps_kp A S N m) (x2 := x2) (s0 := (-4, -(nI (ps_cnt 4 (ps_kp A S N m))))) a1 hm vz_fu 0 (f_X2_restart (-(nI (ps_cnt 4 (ps_kp A S N m)))) τ) (ps_C_fr a1 a2 (fun b _ _ => by rw [p2 b (by omega), t2 b (by omega)])) (by omega) (by have : vz_fu = 1000000 := rfl; omega) p1
      have q8 : ps_Q σ υ := ps_Q_8 (fun b hb => by rw [u3 b (by omega) (by omega) (by omega), p2 b (by omega), t2 b (by omega)])
      obtain ⟨ω, w1, w2, w3⟩ := ps_kds a1 (ps_E_Q a1 (ps_E0 a3 a4 a5 hX) q8) hm (ps_sn_Q hs q8)
      have hQ2 := ps_Q_trans q8 w2
      have q9 := ps_ask32 (K := ps_kp A S N m) (x2 := x2) a1 (by rw [hQ2.2.2 2 (by omega)]; exact a5) w3 vz_fu 0 (by omega) (by have : vz_fu = 1000000 := rfl; omega)
      refine ⟨f_X2_toldOfFewest x2 υ, υ, ω, ?_, ?_, ps_R_Q h hQ2⟩
      · unfold f_X8_ask
        rw [ps_manY a1 a2 hm, vz_b1, vz_mo, ps_e8, if_pos hd, if_neg ps_10, t1, vz_b2, ps_pop4m]
        exact u1
      · have hmY' : f_X9_isMan (nI m) υ = 1 := ps_isManY a1 (by rw [q8.2.2 1 (by omega)]; exact a4) hm
        unfold f_X9_ask
        rw [hmY', if_neg ps_10, hi9, if_neg ps_10, w1, vz_b2]
        unfold f_X2_toldOfFewest
        rw [u2.1, u2.2]
        exact q9
    · have hi9 : f_X9_in x2.toInt64 0 1 = 0 := ps_ilf 1 (by decide) hd
      refine ⟨-1, σ, σ, ?_, ?_, h⟩
      · simp only [f_X8_ask, ps_manY a1 a2 hm, vz_b1, vz_mo, ps_e8, if_neg hd, if_true]
      · simp only [f_X9_ask, hmY, if_neg ps_10, hi9, if_true]
  · refine ⟨-1, σ, σ, ?_, ?_, h⟩
    · simp only [f_X8_ask, ps_manN a1 a2 hc, vz_b1, vz_mo]
    · simp only [f_X9_ask, ps_isMan a1 a4, if_neg hc, if_true]
