/-! pure: walks changed: shift, detour -/
def ps_pth (A : ps_T) (m : Nat) (W : Nat → Nat) : ps_T := fun a b => if a = 10 + m then W b else A a b
theorem ps_pthS (A : ps_T) (m : Nat) (W : Nat → Nat) (b : Nat) : ps_pth A m W (10 + m) b = W b := by simp [ps_pth]
theorem ps_pthN (A : ps_T) {m a : Nat} (W : Nat → Nat) (b : Nat) (h : a ≠ 10 + m) : ps_pth A m W a b = A a b := by simp only [ps_pth]; rw [if_neg h]
theorem ps_C_pth {A : ps_T} {σ σ' : vz_I} {T m : Nat} {W : Nat → Nat} (hok : ps_Ok A) (hm : m < A 0 0) (h : ps_C A σ T) (hf : ∀ b, T ≤ b → b ≤ T + 16 → b ≠ T + 5 + 2 * m + 1 → σ' b = σ b) (hW : ∀ j, j < A 3 m → σ' (T + 5 + 2 * m + 1) j = nI (W j)) : ps_C (ps_pth A m W) σ' T := by
  obtain ⟨h1, h2, h3, h4, h5, h6, h7, h8⟩ := h
  obtain ⟨o1, o2, o3, -⟩ := hok
  have e0 := hf T (by omega) (by omega) (by omega)
  refine ⟨?_, ?_, ?_, ?_, ?_, fun m' hm' => ?_, fun r hr => ?_, fun i hi => ?_⟩
  · simp (disch := omega) only [ps_pthN, e0, h1]
  · simp (disch := omega) only [ps_pthN, e0, h2]
  · simp (disch := omega) only [ps_pthN, e0, h3]
  · simp (disch := omega) only [ps_pthN, e0, h4]
  · simp (disch := omega) only [ps_pthN, e0, h5]
  · simp (disch := omega) only [ps_pthN] at hm' ⊢
    rw [hf (T + 5 + 2 * m') (by omega) (by omega) (by omega)]
    obtain ⟨g1, g2, g3, g4⟩ := h6 m' hm'
    refine ⟨g1, g2, g3, fun i hi => ?_⟩
    by_cases e : m' = m
    · subst e
      rw [ps_pthS]
      exact hW i hi
    · rw [ps_pthN _ _ _ (by omega), hf _ (by omega) (by omega) (by omega)]
      exact g4 i hi
  · simp (disch := omega) only [ps_pthN] at hr ⊢
    rw [hf (T + 13 + r) (by omega) (by omega) (by omega)]
    exact h7 r hr
  · simp (disch := omega) only [ps_pthN] at hi ⊢
    rw [hf (T + 3) (by omega) (by omega) (by omega), hf (T + 4) (by omega) (by omega) (by omega)]
    exact h8 i hi
theorem ps_M_pth {A : ps_T} {f f' : Nat → Int32} {p m : Nat} {W : Nat → Nat} (hok : ps_Ok A) (hm : m < A 0 0) (h : ps_M A f p) (hf : ∀ b, p ≤ b → b ≤ p + 60 → (b < p + 12 + 4 * m ∨ p + 12 + 4 * m + A 3 m ≤ b) → f' b = f b) (hW : ∀ j, j < A 3 m → f' (p + 12 + 4 * m + j) = nI (W j)) : ps_M (ps_pth A m W) f' p := by
  obtain ⟨h1, h2, h3, h6, h7, h8⟩ := h
  obtain ⟨o1, o2, o3, -, -, o6, -⟩ := hok
  have hl := (o6 m hm).2.2.2.1
  refine ⟨?_, ?_, ?_, fun m' hm' => ?_, fun r hr => ?_, fun i hi => ?_⟩
  · rw [ps_pthN _ _ _ (by omega), hf _ (by omega) (by omega) (by omega)]; exact h1
  · rw [ps_pthN _ _ _ (by omega), hf _ (by omega) (by omega) (by omega)]; exact h2
  · rw [ps_pthN _ _ _ (by omega), hf _ (by omega) (by omega) (by omega)]; exact h3
  · rw [ps_pthN _ _ _ (by omega)] at hm'
    obtain ⟨g1, g2, g3, g4⟩ := h6 m' hm'
    have hl' := (o6 m' hm').2.2.2.1
    refine ⟨?_, ?_, ?_, fun i hi => ?_⟩
    · rw [ps_pthN _ _ _ (by omega), hf _ (by omega) (by omega) (by omega)]; exact g1
    · rw [ps_pthN _ _ _ (by omega), hf _ (by omega) (by omega) (by omega)]; exact g2
    · rw [ps_pthN _ _ _ (by omega), hf _ (by omega) (by omega) (by omega)]; exact g3
    · rw [ps_pthN _ _ _ (by omega)] at hi
      by_cases e : m' = m
      · subst e
        rw [ps_pthS]
        exact hW i hi
      · rw [ps_pthN _ _ _ (by omega), hf _ (by omega) (by omega) (by omega)]
        exact g4 i hi
  · simp (disch := omega) only [ps_pthN] at hr ⊢
    rw [hf _ (by omega) (by omega) (by omega), hf _ (by omega) (by omega) (by omega), hf _ (by omega) (by omega) (by omega)]
    exact h7 r hr
  · simp (disch := omega) only [ps_pthN] at hi ⊢
    rw [hf _ (by omega) (by omega) (by omega), hf _ (by omega) (by omega) (by omega)]
    exact h8 i hi
theorem ps_Ok_pth {A : ps_T} {m : Nat} {W : Nat → Nat} (h : ps_Ok A) (hW : ∀ j, j < A 3 m → W j < 8) : ps_Ok (ps_pth A m W) := by
  obtain ⟨o1, o2, o3, o4, o5, o6, o7, o8⟩ := h
  refine ⟨?_, ?_, ?_, ?_, ?_, fun m' hm' => ?_, fun r' hr' => ?_, fun i hi => ?_⟩
  · simp (disch := omega) only [ps_pthN]; exact o1
  · simp (disch := omega) only [ps_pthN]; exact o2
  · simp (disch := omega) only [ps_pthN]; exact o3
  · simp (disch := omega) only [ps_pthN]; exact o4
  · simp (disch := omega) only [ps_pthN]; exact o5
  · simp (disch := omega) only [ps_pthN] at hm' ⊢
    obtain ⟨g1, g2, g3, g4, g5⟩ := o6 m' hm'
    refine ⟨g1, g2, g3, g4, fun i hi => ?_⟩
    by_cases e : m' = m
    · subst e; rw [ps_pthS]; exact hW i hi
    · rw [ps_pthN _ _ _ (by omega)]; exact g5 i hi
  · simp (disch := omega) only [ps_pthN] at hr' ⊢; exact o7 r' hr'
  · simp (disch := omega) only [ps_pthN] at hi ⊢; exact o8 i hi
/-! turning -/
theorem ps_t1_l {a len : Nat} {x : Int32} (hl : len ≤ 4) : ∀ (n i : Nat) (σ : vz_I), σ a 2 = nI len → 1 ≤ i → i ≤ len → len - i < n → σ (a + 1) (i - 1) = x → ∃ σ', f_X0_turnByOne_9 n a x (nI i) σ = some σ' ∧ (∀ b, b ≠ a + 1 → σ' b = σ b) ∧ (∀ j, j + 1 < i → σ' (a + 1) j = σ (a + 1) j) ∧ (∀ j, i ≤ j + 1 → j + 1 < len → σ' (a + 1) j = σ (a + 1) (j + 1)) ∧ σ' (a + 1) (len - 1) = x := by
  intro n
  induction n with
  | zero => intro i σ _ _ _ h; omega
  | succ n ih =>
    intro i σ hs h1 hi hn hx
    rw [f_X0_turnByOne_9_s, hs]
    by_cases e : len ≤ i
    · obtain rfl : i = len := by omega
      rw [if_pos (nI_le (Nat.le_refl _) (by omega))]
      exact ⟨σ, rfl, fun _ _ => rfl, fun _ _ => rfl, fun j _ _ => by omega, hx⟩
    · obtain ⟨i', rfl⟩ : ∃ i', i = i' + 1 := ⟨i - 1, by omega⟩
      have hin : vz_in (nI (i' + 1)) 4 := (ps_in (by omega)).mpr (by omega)
      rw [if_neg (nI_ge (by omega) (by omega)), if_pos hin, nI_pred, if_pos ((ps_in (by omega)).mpr (by omega)), vz_let, if_pos hin, nI_clamp (by omega), nI_clamp (by omega), nI_1]
      generalize ht : vz_up (vz_up σ (a + 1) i' (σ (a + 1) (i' + 1))) (a + 1) (i' + 1) x = τ
      have t1 : ∀ b, b ≠ a + 1 → τ b = σ b := fun b hb => by rw [← ht, vz_up_ne _ _ _ hb, vz_up_ne _ _ _ hb]
      have t2 : τ (a + 1) (i' + 1) = x := by rw [← ht, ps_upS]
      have t3 : τ (a + 1) i' = σ (a + 1) (i' + 1) := by rw [← ht, ps_upN _ _ (by omega), ps_upS]
      have t4 : ∀ j, j ≠ i' → j ≠ i' + 1 → τ (a + 1) j = σ (a + 1) j := fun j q1 q2 => by rw [← ht, ps_upN _ _ q2, ps_upN _ _ q1]
      obtain ⟨σ', e1, e2, e3, e4, e5⟩ := ih (i' + 1 + 1) τ (by rw [t1 a (by omega)]; exact hs) (by omega) (by omega) (by omega) (by rw [show i' + 1 + 1 - 1 = i' + 1 by omega]; exact t2)
      refine ⟨σ', e1, fun b hb => by rw [e2 b hb, t1 b hb], fun j hj => by rw [e3 j (by omega), t4 j (by omega) (by omega)], fun j q1 q2 => ?_, e5⟩
      by_cases q : j = i'
      · subst q
        rw [e3 j (by omega), t3]
      · rw [e4 j (by omega) q2, t4 _ (by omega) (by omega)]
theorem ps_t1 {σ : vz_I} {a len : Nat} (hl : len ≤ 4) (h1 : 1 ≤ len) (hs : σ a 2 = nI len) : ∃ σ', f_X0_turnByOne a σ = some σ' ∧ (∀ b, b ≠ a + 1 → σ' b = σ b) ∧ ∀ j, j < len → σ' (a + 1) j = σ (a + 1) ((j + 1) % len) := by
  obtain ⟨σ', e1, e2, e3, e4, e5⟩ := ps_t1_l (a := a) (x := σ (a + 1) 0) hl vz_fu 1 σ hs (by omega) h1 (by have : vz_fu = 1000000 := rfl; omega) rfl
  refine ⟨σ', ?_, e2, fun j hj => ?_⟩
  · unfold f_X0_turnByOne
    rw [if_pos (by decide)]
    exact e1
  · by_cases q : j + 1 < len
    · rw [Nat.mod_eq_of_lt q]
      exact e4 j (by omega) q
    · rw [show j + 1 = len by omega, Nat.mod_self, show j = len - 1 by omega]
      exact e5
theorem ps_tt_l {a len k : Nat} (hl : len ≤ 4) (h1 : 1 ≤ len) (hk : k < 2 ^ 20) : ∀ (n i : Nat) (σ : vz_I), σ a 2 = nI len → i ≤ k → k - i < n → ∃ σ', f_X0_turnTo_2 n a (nI k) (nI i) σ = some σ' ∧ (∀ b, b ≠ a + 1 → σ' b = σ b) ∧ ∀ j, j < len → σ' (a + 1) j = σ (a + 1) ((j + (k - i)) % len) := by
  intro n
  induction n with
  | zero => intro i σ _ _ h; omega
  | succ n ih =>
    intro i σ hs hi hn
    rw [f_X0_turnTo_2_s]
    by_cases e : k ≤ i
    · obtain rfl : i = k := by omega
      rw [if_pos (nI_le (Nat.le_refl _) (by omega))]
      exact ⟨σ, rfl, fun _ _ => rfl, fun j hj => by rw [Nat.sub_self, show j + 0 = j from rfl, Nat.mod_eq_of_lt hj]⟩
    · obtain ⟨τ, t1, t2, t3⟩ := ps_t1 hl h1 hs
      rw [if_neg (nI_ge (by omega) (by omega)), t1, vz_b1, nI_1]
      obtain ⟨σ', e1, e2, e3⟩ := ih (i + 1) τ (by rw [t2 a (by omega)]; exact hs) (by omega) (by omega)
      refine ⟨σ', e1, fun b hb => by rw [e2 b hb, t2 b hb], fun j hj => ?_⟩
      rw [e3 j hj, t3 _ (Nat.mod_lt _ h1), Nat.mod_add_mod, show j + (k - (i + 1)) + 1 = j + (k - i) by omega]
/-- the class turns a walk -/
theorem ps_tt {σ : vz_I} {a len k : Nat} (hl : len ≤ 4) (h1 : 1 ≤ len) (hk : k < 900000) (hs : σ a 2 = nI len) : ∃ σ', f_X0_turnTo a (nI k) σ = some σ' ∧ (∀ b, b ≠ a + 1 → σ' b = σ b) ∧ ∀ j, j < len → σ' (a + 1) j = σ (a + 1) ((j + k) % len) := by
  have q := ps_tt_l (a := a) (k := k) hl h1 (by omega) vz_fu 0 σ hs (by omega) (by have : vz_fu = 1000000 := rfl; omega)
  rw [Nat.sub_zero] at q
  exact q
theorem ps_so2 {p m len : Nat} (hl : len ≤ 4) (hm : m < 4) (hp : p + 61 ≤ 305) : ∀ (n i : Nat) (σ : vz_I), i ≤ len → len - i < n → ∃ σ', f_X9_shiftsOn_60 n (nI p) (nI m) (nI len) (nI i) σ = some σ' ∧ (∀ b, b ≠ 109 → σ' b = σ b) ∧ (∀ k, (k < p + 12 + 4 * m + i ∨ p + 12 + 4 * m + len ≤ k) → σ' 109 k = σ 109 k) ∧ (∀ j, i ≤ j → j < len → σ' 109 (p + 12 + 4 * m + j) = σ 116 j) := by
  intro n
  induction n with
  | zero => intro i σ _ h; omega
  | succ n ih =>
    intro i σ hi hn
    rw [f_X9_shiftsOn_60_s]
    by_cases e : len ≤ i
    · obtain rfl : i = len := by omega
      rw [if_pos (nI_le (Nat.le_refl _) (by omega))]
      exact ⟨σ, rfl, fun _ _ => rfl, fun _ _ => rfl, fun j _ _ => by omega⟩
    · have e12 : (nI p + (12 : Int32)) + ((4 : Int32) * nI m) + nI i = nI (p + 12 + 4 * m + i) := by
        rw [show nI p + (12 : Int32) = nI (p + 12) from nI_add p 12, show (4 : Int32) * nI m = nI (4 * m) from pk_mul 4 m, nI_add, nI_add]
      rw [if_neg (nI_ge (by omega) (by omega)), if_pos ((ps_in (by omega)).mpr (by omega)), e12, if_pos ((ps_in (by omega)).mpr (by omega)), vz_let, nI_clamp (by omega), nI_clamp (by omega), nI_1]
      obtain ⟨σ', e1, e2, e3, e4⟩ := ih (i + 1) (vz_up σ 109 (p + 12 + 4 * m + i) (σ 116 i)) (by omega) (by omega)
      refine ⟨σ', e1, fun b hb => by rw [e2 b hb, vz_up_ne _ _ _ hb], fun k hk => by rw [e3 k (by omega), ps_upN _ _ (by omega)], fun j q1 q2 => ?_⟩
      by_cases q : j = i
      · subst q; rw [e3 _ (by omega), ps_upS]
      · rw [e4 j (by omega) q2, vz_up_ne _ _ _ (by omega)]
theorem ps_so1 {p m len s : Nat} (hl : len ≤ 4) (h1 : 1 ≤ len) (hm : m < 4) (hp : p + 61 ≤ 305) (hs : s < 2 ^ 20) : ∀ (n i : Nat) (σ : vz_I), i ≤ len → len - i < n → (∀ j, j < i → σ 116 j = σ 109 (p + 12 + 4 * m + (s + j) % len)) → ∃ σ', f_X9_shiftsOn_16 n (nI p) (nI m) (nI s) (nI len) (nI i) σ = some σ' ∧ (∀ b, b ≠ 109 → b ≠ 116 → σ' b = σ b) ∧ (∀ k, (k < p + 12 + 4 * m ∨ p + 12 + 4 * m + len ≤ k) → σ' 109 k = σ 109 k) ∧ (∀ j, j < len → σ' 109 (p + 12 + 4 * m + j) = σ 109 (p + 12 + 4 * m + (s + j) % len)) := by
  intro n
  induction n with
  | zero => intro i σ _ h; omega
  | succ n ih =>
    intro i σ hi hn hj
    rw [f_X9_shiftsOn_16_s]
    by_cases e : len ≤ i
    · obtain rfl : i = len := by omega
      rw [if_pos (nI_le (Nat.le_refl _) (by omega))]
      obtain ⟨σ', e1, e2, e3, e4⟩ := ps_so2 hl hm hp vz_fu 0 σ (by omega) (by have : vz_fu = 1000000 := rfl; omega)
      exact ⟨σ', e1, fun b q1 q2 => e2 b q1, fun k hk => e3 k (by omega), fun j q => by rw [e4 j (by omega) q]; exact hj j q⟩
    · have hlt := Nat.mod_lt (s + i) h1
      have e12 : (nI p + (12 : Int32)) + ((4 : Int32) * nI m) + nI ((s + i) % len) = nI (p + 12 + 4 * m + (s + i) % len) := by
        rw [show nI p + (12 : Int32) = nI (p + 12) from nI_add p 12, show (4 : Int32) * nI m = nI (4 * m) from pk_mul 4 m, nI_add, nI_add]
      rw [if_neg (nI_ge (by omega) (by omega)), if_neg (nI_ne0 h1 (by omega)), nI_add, pk_rem (by omega) h1 (by omega), e12, if_pos ((ps_in (by omega)).mpr (by omega)), if_pos ((ps_in (by omega)).mpr (by omega)), vz_let, nI_clamp (by omega), nI_clamp (by omega), nI_1]
      obtain ⟨σ', e1, e2, e3, e4⟩ := ih (i + 1) (vz_up σ 116 i (σ 109 (p + 12 + 4 * m + (s + i) % len))) (by omega) (by omega) (fun j q => by
        rw [vz_up_ne _ _ _ (show (109 : Nat) ≠ 116 by omega)]
        by_cases z : j = i
        · subst z; rw [ps_upS]
        · rw [ps_upN _ _ z]; exact hj j (by omega))
      refine ⟨σ', e1, fun b q1 q2 => by rw [e2 b q1 q2, vz_up_ne _ _ _ q2], fun k hk => by rw [e3 k hk, vz_up_ne _ _ _ (by omega)], fun j q => by rw [e4 j q, vz_up_ne _ _ _ (by omega)]⟩
/-- the reference turns a walk -/
theorem ps_so {A : ps_T} {σ : vz_I} {p m s : Nat} (hok : ps_Ok A) (hM : ps_M A (σ 109) p) (hm : m < A 0 0) (hp : p + 61 ≤ 305) (hs : s < 2 ^ 20) : ∃ σ', f_X9_shiftsOn (nI p) (nI m) (nI s) σ = some σ' ∧ (∀ b, b ≠ 109 → b ≠ 116 → σ' b = σ b) ∧ (∀ k, (k < p + 12 + 4 * m ∨ p + 12 + 4 * m + A 3 m ≤ k) → σ' 109 k = σ 109 k) ∧ (∀ j, j < A 3 m → σ' 109 (p + 12 + 4 * m + j) = nI (A (10 + m) ((j + s) % A 3 m))) := by
  have o1 := hok.1
  obtain ⟨ok1, ok2, ok3, ok4, ok5⟩ := hok.2.2.2.2.2.1 m hm
  obtain ⟨g1, g2, g3, g4⟩ := hM.2.2.2.1 m hm
  obtain ⟨σ', e1, e2, e3, e4⟩ := ps_so1 (p := p) (m := m) (len := A 3 m) (s := s) ok4 ok3 (by omega) hp hs vz_fu 0 σ (by omega) (by have : vz_fu = 1000000 := rfl; omega) (fun j q => by omega)
  refine ⟨σ', ?_, e2, e3, fun j hj => ?_⟩
  · unfold f_X9_shiftsOn
    rw [show nI p + (8 : Int32) = nI (p + 8) from nI_add p 8, nI_add, if_pos ((ps_in (by omega)).mpr (by omega)), nI_clamp (by omega), g3]
    exact e1
  · rw [e4 j hj, Nat.add_comm s j]
    exact g4 _ (Nat.mod_lt _ ok3)
theorem sm_shift : sim_shift ps_R := by
  intro σ h x1 x2
  have h' := h
  obtain ⟨⟨A, a1, a2, a3, a4, a5, a6, a7, a8⟩, hP, hF, hS, hX⟩ := h'
  have h4 := a1.1
  by_cases hc : 0 ≤ x1.toInt ∧ x1.toInt < A 0 0
  · obtain ⟨m, hm, rfl⟩ := ps_ofM hc
    obtain ⟨ok1, ok2, ok3, ok4, ok5⟩ := a1.2.2.2.2.2.1 m hm
    obtain ⟨g1, g2, g3, g4⟩ := a2.2.2.2.2.2.1 m hm
    obtain ⟨k1, k2, k3, k4⟩ := a3.2.2.2.1 m hm
    by_cases hd : 0 ≤ x2.toInt ∧ x2.toInt < A 3 m
    · have hd' := hd
      obtain ⟨i, hi, rfl⟩ := ps_ofM hd
      obtain ⟨τ, t1, t2, t3⟩ := ps_tt (k := i) ok4 ok3 (by omega) g3
      have t109 : τ 109 = σ 109 := t2 _ (by omega)
      have t108 : τ 108 = σ 108 := t2 _ (by omega)
      obtain ⟨υ, u1, u2, u3, u4⟩ := ps_so (σ := τ) (p := 0) (s := i) a1 (by rw [t109]; exact a3) hm (by omega) (by omega)
      have hok := ps_Ok_pth (m := m) (W := fun j => A (10 + m) ((j + i) % A 3 m)) a1 (fun j _ => ok5 _ (Nat.mod_lt _ ok3))
      have uf : ∀ b, b ≠ 109 → b ≠ 116 → b ≠ 21 + 5 + 2 * m + 1 → υ b = σ b := fun b q1 q2 q3 => by rw [u2 b q1 q2, t2 b q3]
      refine ⟨nI (A (10 + m) 0), τ, υ, ?_, ?_, ?_, ?_, ?_, ?_, ?_⟩
      · simp only [f_X8_shift, ps_manY a1 a2 hm, vz_b1, vz_mo, ps_hp (show A 3 m < 2 ^ 30 by omega) g3, if_pos hd', if_neg ps_10]
        rw [if_pos (by decide), t1]
        simp only [show (0 : Int32).toNatClampNeg = 0 from rfl, g4 0 ok3]
      · have e12 : (12 : Int32) + ((4 : Int32) * nI m) = nI (12 + 4 * m) := by
          rw [show (4 : Int32) * nI m = nI (4 * m) from pk_mul 4 m]; exact nI_add 12 _
        have pl := ps_isPl (x := nI i) (σ := τ) a1 (by rw [t109]; exact a3) (by rw [t108]; exact a4) hm
        rw [if_pos hd'] at pl
        rw [show nI 0 = (0 : Int32) from rfl] at u1
        have k0 := k4 0 ok3
        rw [show 0 + 12 + 4 * m + 0 = 12 + 4 * m by omega] at k0
        unfold f_X9_shift
        rw [pl, vz_b1, if_neg ps_10, e12, if_pos ((ps_in (by omega)).mpr (by omega)), u1, vz_b1, nI_clamp (by omega), t109, k0]
      · refine ps_town_up a1 hok (ps_C_pth a1 hm a2 (fun b _ _ q => uf b (by omega) (by omega) q) (fun j hj => ?_)) (ps_M_pth a1 hm a3 (fun b _ _ q => by rw [u3 b q, t109]) u4) (ps_pthN _ _ _ (by omega)) (ps_pthN _ _ _ (by omega)) a4 a5 a6 a7 a8 (fun b hb => uf b (by omega) (by omega) (by omega)) (fun b q1 q2 => by rw [u3 b (by omega), t109]) (fun j hj => by rw [uf 108 (by omega) (by omega) (by omega)])
        rw [u2 _ (by omega) (by omega), t3 j hj]
        exact g4 _ (Nat.mod_lt _ ok3)
      · exact ps_tape_fr hP (fun b hb => uf b (by omega) (by omega) (by omega)) (by rw [uf 108 (by omega) (by omega) (by omega)])
      · exact ps_ft_fr hF (by rw [uf 1 (by omega) (by omega) (by omega)]) (by rw [uf 0 (by omega) (by omega) (by omega)]) (by rw [uf 108 (by omega) (by omega) (by omega)]) (by rw [uf 108 (by omega) (by omega) (by omega)])
      · exact ps_sheet_fr hS (fun b hb => uf b (by omega) (by omega) (by omega))
      · exact ps_fix_fr hX (fun b hb => uf b (by omega) (by omega) (by omega)) (by rw [uf 108 (by omega) (by omega) (by omega)])
    · refine ⟨-1, σ, σ, ?_, ?_, h⟩
      · simp only [f_X8_shift, ps_manY a1 a2 hm, vz_b1, vz_mo, ps_hp (show A 3 m < 2 ^ 30 by omega) g3, if_neg hd, if_true]
      · simp only [f_X9_shift, ps_isPl a1 a3 a4 hm, if_neg hd, vz_b1, if_true]
  · refine ⟨-1, σ, σ, ?_, ?_, h⟩
    · simp only [f_X8_shift, ps_manN a1 a2 hc, vz_b1, vz_mo]
    · simp only [f_X9_shift, ps_isPlN a1 a4 hc, vz_b1, if_true]
