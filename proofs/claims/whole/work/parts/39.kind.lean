/-! pure: kind, begin, spoil, swap -/
def ps_kw (A : ps_T) (m i : Nat) : Int32 := nI (ps_pairs (ps_set A (0 + 1) m i) 0)
theorem ps_kind8 {A : ps_T} {m : Nat} {x2 : Int32} {s0 : Int32 × Int32} (hok : ps_Ok A) (hm : m < A 0 0) : ∀ (n i k : Nat) (σ : vz_I), k < 4 → ps_C (ps_set A (0 + 1) m k) σ 38 → i ≤ 4 → 4 - i < n → ps_pk σ (ps_fo nI (ps_kw A m) i s0) → ∃ σ', f_X8_kind_46 n x2 (38 + 5 + 2 * m) (nI i) σ = some (f_X2_told x2 σ', σ') ∧ ps_pk σ' (ps_fo nI (ps_kw A m) 4 s0) ∧ ∀ b, (b < 38 ∨ 54 < b) → b ≠ 64 → σ' b = σ b := by
  have o1 := hok.1
  intro n
  induction n with
  | zero => intro i k σ _ _ _ h; omega
  | succ n ih =>
    intro i k σ hk hC hi hn hp
    rw [f_X8_kind_46_s]
    by_cases e : i = 4
    · subst e
      rw [if_pos (by decide)]
      exact ⟨σ, rfl, hp, fun _ _ _ => rfl⟩
    · have hB : ps_Ok (ps_set A (0 + 1) m i) := ps_Ok_man hok (by omega) (by omega)
      have hC' := ps_C_man (v := i) (s := 0) (m := m) (by rw [ps_setN _ _ (by omega)]; exact hm) (by rw [ps_setN _ _ (by omega)]; exact o1) (by omega) hC
      rw [ps_set_set] at hC'
      rw [if_neg (show ¬ (4 : Int32) ≤ nI i from nI_ge (b := 4) (by omega) (by omega)), ps_pr0 hB hC', vz_b1, nI_1]
      have hp' : ps_pk (vz_up σ (38 + 5 + 2 * m) 0 (nI i)) (ps_fo nI (ps_kw A m) i s0) := ⟨by rw [vz_up_ne _ _ _ (by omega)]; exact hp.1, by rw [vz_up_ne _ _ _ (by omega)]; exact hp.2⟩
      obtain ⟨q1, q2⟩ := ps_offer (x := nI i) (y := ps_kw A m i) hp'
      obtain ⟨σ', e1, e2, e3⟩ := ih (i + 1) i (f_X2_offer (nI i) (ps_kw A m i) (vz_up σ (38 + 5 + 2 * m) 0 (nI i))) (by omega) (ps_C_fr hB hC' (fun b _ _ => q2 b (by omega))) (by omega) (by omega) q1
      exact ⟨σ', e1, e2, fun b r1 r2 => by rw [e3 b r1 r2, q2 b r2, vz_up_ne _ _ _ (by omega)]⟩
theorem ps_kind9 {A : ps_T} {m : Nat} {x2 : Int32} {s0 : Int32 × Int32} (hok : ps_Ok A) (hm : m < A 0 0) : ∀ (n i : Nat) (σ : vz_I) (y : Int32), ps_E A σ 0 0 → ps_PX σ (fun k => k = m) → i ≤ 4 → 4 - i < n → (y, σ 108 22) = ps_fo nI (ps_kw A m) i s0 → ∃ σ', f_X9_kind_38 n (nI m) x2 y (nI i) σ = some (if x2 = 0 then (ps_fo nI (ps_kw A m) 4 s0).1 else (ps_fo nI (ps_kw A m) 4 s0).2, σ') ∧ ps_Q σ σ' := by
  have o1 := hok.1
  intro n
  induction n with
  | zero => intro i σ y _ _ _ h; omega
  | succ n ih =>
    intro i σ y hE hX hi hn hp
    rw [f_X9_kind_38_s]
    by_cases e : i = 4
    · subst e
      rw [if_pos (by decide), ← hp]
      refine ⟨σ, ?_, ps_Q_refl σ⟩
      split <;> rfl
    · have hB : ps_Ok (ps_set A (0 + 1) m i) := ps_Ok_man hok (by omega) (by omega)
      have hM := ps_M_man (v := i) (s := 0) hok hm (by omega) hE.1
      rw [show 0 + 4 * 0 + m = m by omega] at hM
      obtain ⟨υ, u1, u3, u4, u5⟩ := ps_tryp (A := A) hB hE hX (by omega) hM (ps_setN _ _ (by omega)) (ps_setN _ _ (by omega))
      have hQ' := fun x => ps_Q_trans u3 (ps_Q_22 υ x)
      rw [if_neg (show ¬ (4 : Int32) ≤ nI i from nI_ge (b := 4) (by omega) (by omega)), show (244 : Int32) + nI m = nI (244 + m) from nI_add 244 m, if_pos ((ps_in (by omega)).mpr (by omega)), nI_clamp (by omega), u1, vz_b2, ps_more, vz_b2, u5, nI_1]
      by_cases z : nI (ps_pairs (ps_set A (0 + 1) m i) 0) ≤ σ 108 22
      · rw [if_pos z, if_pos rfl, if_pos z]
        obtain ⟨σ', e1, e2⟩ := ih (i + 1) (vz_up υ 108 22 (σ 108 22)) y (ps_E_Q hok hE (hQ' _)) (ps_PX_22 _ u4) (by omega) (by omega) (by rw [ps_upS]; exact ps_fo_y hp z)
        exact ⟨σ', e1, ps_Q_trans (hQ' _) e2⟩
      · rw [if_neg z, if_neg ps_10, if_neg z]
        obtain ⟨σ', e1, e2⟩ := ih (i + 1) (vz_up υ 108 22 (nI (ps_pairs (ps_set A (0 + 1) m i) 0))) (nI i) (ps_E_Q hok hE (hQ' _)) (ps_PX_22 _ u4) (by omega) (by omega) (by rw [ps_upS]; exact ps_fo_n hp z)
        exact ⟨σ', e1, ps_Q_trans (hQ' _) e2⟩
theorem sm_kind : sim_kind ps_R := by
  intro σ h x1 x2
  have h' := h
  obtain ⟨⟨A, a1, a2, a3, a4, a5, a6, a7, a8⟩, hP, hF, hS, hX⟩ := h'
  have o1 := a1.1
  obtain ⟨σ3, c1, c2, c3⟩ := ps_copy (T := 38) a1 a2 (by omega)
  have q3 : ps_Q σ σ3 := ps_Q_8 (fun b hb => c3 b (by omega))
  by_cases hc : 0 ≤ x1.toInt ∧ x1.toInt < A 0 0
  · obtain ⟨m, hm, rfl⟩ := ps_ofM hc
    have okm := (a1.2.2.2.2.2.1 m hm).1
    by_cases hd : 0 ≤ x2.toInt ∧ x2.toInt ≤ (1 : Nat)
    · have hi9 : f_X9_in x2.toInt64 0 1 = 1 := ps_ilt 1 (by decide) hd
      obtain ⟨p1, p2⟩ := ps_restart σ3 (-1000)
      have hB0 : ps_Ok (ps_set A (0 + 1) m 0) := ps_Ok_man a1 (by omega) (by omega)
      have hk := ps_pairs_le hB0 0
      have w0a : ¬ ps_kw A m 0 ≤ ((-4, -1000) : Int32 × Int32).2 := (ps_nm (by omega)).2
      have w0b : ¬ ps_kw A m 0 ≤ ((0, -1) : Int32 × Int32).2 := (ps_nm (by omega)).1
      have hC0 : ps_C (ps_set A (0 + 1) m (A 1 m)) (f_X2_restart (-1000) σ3) 38 := by
        rw [ps_set_self]
        exact ps_C_fr a1 c2 (fun b _ _ => p2 b (by omega))
      obtain ⟨τ, t1, t2, t3⟩ := ps_kind8 (x2 := x2) a1 hm vz_fu 0 (A 1 m) (f_X2_restart (-1000) σ3) okm hC0 (by omega) (by have : vz_fu = 1000000 := rfl; omega) p1
      have q8 : ps_Q σ τ := ps_Q_8 (fun b hb => by rw [t3 b (by omega) (by omega), p2 b (by omega), c3 b (by omega)])
      obtain ⟨i, hi, hfo⟩ := ps_fo_c (c := nI) w0a 3
      have hfo9 := ps_fo_init (c := nI) w0a w0b 3
      obtain ⟨υ, v1, v2, v3, v4⟩ := ps_244 (σ := vz_up τ 108 22 (-1))
      have hQ2 : ps_Q σ υ := ps_Q_trans q8 (ps_Q_trans (ps_Q_22 τ (-1)) v3)
      obtain ⟨ω, w1, w2⟩ := ps_kind9 (x2 := x2) (s0 := (0, -1)) a1 hm vz_fu 0 υ 0 (ps_E_Q a1 (ps_E0 a3 a4 a5 hX) hQ2) (v4 _) (by omega) (by have : vz_fu = 1000000 := rfl; omega) (by rw [v2 108 (by omega), ps_upS]; rfl)
      refine ⟨if x2 = 0 then (ps_fo nI (ps_kw A m) 4 (0, -1)).1 else (ps_fo nI (ps_kw A m) 4 (0, -1)).2, τ, ω, ?_, ?_, ps_R_Q h (ps_Q_trans hQ2 w2)⟩
      · have e8 : f_X2_told x2 τ = if x2 = 0 then (ps_fo nI (ps_kw A m) 4 (-4, -1000)).1 else (ps_fo nI (ps_kw A m) 4 (-4, -1000)).2 := ps_told t2 (by rw [hfo]; exact ps_n4 (by omega))
        unfold f_X8_kind
        rw [c1, vz_b1, ps_manY a1 c2 hm, vz_b1, vz_mo, ps_e8, if_pos hd, if_neg ps_10, ← hfo9, ← e8]
        exact t1
      · have hrY' : f_X9_isMan (nI m) τ = 1 := ps_isManY a1 (by rw [q8.2.2 1 (by omega)]; exact a4) hm
        unfold f_X9_kind
        rw [hrY', if_neg ps_10, hi9, if_neg ps_10, v1, vz_b1]
        exact w1
    · have hi9 : f_X9_in x2.toInt64 0 1 = 0 := ps_ilf 1 (by decide) hd
      have hrY' : f_X9_isMan (nI m) σ3 = 1 := ps_isManY a1 (by rw [q3.2.2 1 (by omega)]; exact a4) hm
      refine ⟨-1, σ3, σ3, ?_, ?_, ps_R_Q h q3⟩
      · unfold f_X8_kind
        rw [c1, vz_b1, ps_manY a1 c2 hm, vz_b1, vz_mo, ps_e8, if_neg hd, if_pos rfl]
      · simp only [f_X9_kind, hrY', if_neg ps_10, hi9, if_true]
  · refine ⟨-1, σ3, σ3, ?_, ?_, ps_R_Q h q3⟩
    · unfold f_X8_kind
      rw [c1, vz_b1, ps_manN a1 c2 hc, vz_b1, vz_mo]
    · unfold f_X9_kind
      rw [ps_isMan a1 (by rw [q3.2.2 1 (by omega)]; exact a4), if_neg hc, if_pos rfl]
/-! begin -/
def ps_rot (A : ps_T) (m i : Nat) : ps_T := ps_pth A m (fun j => A (10 + m) ((j + i) % A 3 m))
def ps_gw (A : ps_T) (m i : Nat) : Int32 := nI (ps_pairs (ps_rot A m i) 0)
theorem ps_rotN (A : ps_T) {m i a : Nat} (b : Nat) (h : a ≠ 10 + m) : ps_rot A m i a b = A a b := ps_pthN _ _ _ h
theorem ps_Ok_rot {A : ps_T} {m i : Nat} (hok : ps_Ok A) (hm : m < A 0 0) : ps_Ok (ps_rot A m i) := by
  obtain ⟨ok1, ok2, ok3, ok4, ok5⟩ := hok.2.2.2.2.2.1 m hm
  exact ps_Ok_pth hok (fun j _ => ok5 _ (Nat.mod_lt _ ok3))
theorem ps_C_rot0 {A : ps_T} {σ : vz_I} {T m : Nat} (hok : ps_Ok A) (hm : m < A 0 0) (hC : ps_C A σ T) : ps_C (ps_rot A m 0) σ T := by
  refine ps_C_pth hok hm hC (fun b _ _ _ => rfl) (fun j hj => ?_)
  show σ (T + 5 + 2 * m + 1) j = nI (A (10 + m) ((j + 0) % A 3 m))
  rw [show j + 0 = j from rfl, Nat.mod_eq_of_lt hj]
  exact (hC.2.2.2.2.2.1 m hm).2.2.2 j hj
theorem ps_pth_pth (A : ps_T) (m : Nat) (V W : Nat → Nat) : ps_pth (ps_pth A m V) m W = ps_pth A m W := by
  funext a b
  by_cases h : a = 10 + m
  · subst h; rw [ps_pthS, ps_pthS]
  · rw [ps_pthN _ _ _ h, ps_pthN _ _ _ h, ps_pthN _ _ _ h]
/-- the class turns a walk of a town once more -/
theorem ps_C_turn {A : ps_T} {σ : vz_I} {T m i k : Nat} (hok : ps_Ok A) (hm : m < A 0 0) (hk : k < 900000) (hC : ps_C (ps_rot A m i) σ T) : ∃ σ', f_X0_turnTo (T + 5 + 2 * m) (nI k) σ = some σ' ∧ ps_C (ps_rot A m (i + k)) σ' T ∧ ∀ b, b ≠ T + 5 + 2 * m + 1 → σ' b = σ b := by
  obtain ⟨ok1, ok2, ok3, ok4, ok5⟩ := hok.2.2.2.2.2.1 m hm
  have hm' : m < (ps_rot A m i) 0 0 := by rw [ps_rotN _ _ (by omega)]; exact hm
  obtain ⟨g1, g2, g3, g4⟩ := hC.2.2.2.2.2.1 m hm'
  rw [ps_rotN _ _ (by omega)] at g3
  obtain ⟨σ', e1, e2, e3⟩ := ps_tt (k := k) ok4 ok3 hk g3
  refine ⟨σ', e1, ?_, e2⟩
  have q := ps_C_pth (W := fun j => A (10 + m) ((j + (i + k)) % A 3 m)) (ps_Ok_rot hok hm) hm' hC (fun b _ _ hb => e2 b hb) (fun j hj => by
    rw [ps_rotN _ _ (by omega)] at hj
    have hlt := Nat.mod_lt (j + k) ok3
    rw [e3 j hj, g4 _ (by rw [ps_rotN _ _ (by omega)]; exact hlt)]
    unfold ps_rot
    rw [ps_pthS, Nat.mod_add_mod, show j + k + i = j + (i + k) by omega])
  unfold ps_rot at q ⊢
  rw [ps_pth_pth] at q
  exact q
theorem ps_beg8 {A : ps_T} {m : Nat} {x2 : Int32} {s0 : Int32 × Int32} (hok : ps_Ok A) (hm : m < A 0 0) : ∀ (n i : Nat) (σ : vz_I), ps_C (ps_rot A m i) σ 38 → i ≤ A 3 m → A 3 m - i < n → ps_pk σ (ps_fo nI (ps_gw A m) i s0) → ∃ σ', f_X8_begin_46 n x2 (38 + 5 + 2 * m) (nI i) σ = some (f_X2_told x2 σ', σ') ∧ ps_pk σ' (ps_fo nI (ps_gw A m) (A 3 m) s0) ∧ ∀ b, (b < 38 ∨ 54 < b) → b ≠ 64 → σ' b = σ b := by
  have o1 := hok.1
  obtain ⟨ok1, ok2, ok3, ok4, ok5⟩ := hok.2.2.2.2.2.1 m hm
  intro n
  induction n with
  | zero => intro i σ _ _ h; omega
  | succ n ih =>
    intro i σ hC hi hn hp
    have hB : ps_Ok (ps_rot A m i) := ps_Ok_rot hok hm
    have g3 := (hC.2.2.2.2.2.1 m (by rw [ps_rotN _ _ (by omega)]; exact hm)).2.2.1
    rw [ps_rotN _ _ (by omega)] at g3
    rw [f_X8_begin_46_s, g3]
    by_cases e : A 3 m ≤ i
    · obtain rfl : i = A 3 m := by omega
      rw [if_pos (nI_le (Nat.le_refl _) (by omega))]
      exact ⟨σ, rfl, hp, fun _ _ _ => rfl⟩
    · obtain ⟨q1, q2⟩ := ps_offer (x := nI i) (y := ps_gw A m i) hp
      have hC2 : ps_C (ps_rot A m i) (f_X2_offer (nI i) (ps_gw A m i) σ) 38 := ps_C_fr hB hC (fun b _ _ => q2 b (by omega))
      obtain ⟨τ, t1, t2, t3⟩ := ps_C_turn (k := 1) hok hm (by omega) hC2
      rw [show nI 1 = (1 : Int32) from rfl] at t1
      rw [if_neg (nI_ge (by omega) (by omega)), ps_pr0 hB hC, vz_b1]
      rw [show nI (ps_pairs (ps_rot A m i) 0) = ps_gw A m i from rfl, t1, vz_b1, nI_1]
      obtain ⟨σ', e1, e2, e3⟩ := ih (i + 1) τ t2 (by omega) (by omega) ⟨by rw [t3 64 (by omega)]; exact q1.1, by rw [t3 64 (by omega)]; exact q1.2⟩
      exact ⟨σ', e1, e2, fun b r1 r2 => by rw [e3 b r1 r2, t3 b (by omega), q2 b r2]⟩
theorem ps_beg9 {A : ps_T} {m : Nat} {x2 : Int32} {s0 : Int32 × Int32} (hok : ps_Ok A) (hm : m < A 0 0) : ∀ (n i : Nat) (σ : vz_I) (y : Int32), ps_E A σ 0 0 → i ≤ A 3 m → A 3 m - i < n → (y, σ 108 22) = ps_fo nI (ps_gw A m) i s0 → ∃ σ', f_X9_begin_30 n (nI m) x2 y (nI i) σ = some (if x2 = 0 then (ps_fo nI (ps_gw A m) (A 3 m) s0).1 else (ps_fo nI (ps_gw A m) (A 3 m) s0).2, σ') ∧ ps_Q σ σ' := by
  have o1 := hok.1
  obtain ⟨ok1, ok2, ok3, ok4, ok5⟩ := hok.2.2.2.2.2.1 m hm
  intro n
  induction n with
  | zero => intro i σ y _ _ h; omega
  | succ n ih =>
    intro i σ y hE hi hn hp
    have g3 := (hE.1.2.2.2.1 m hm).2.2.1
    rw [show 0 + 8 + m = 8 + m by omega] at g3
    rw [f_X9_begin_30_s, show (8 : Int32) + nI m = nI (8 + m) from nI_add 8 m, if_pos ((ps_in (by omega)).mpr (by omega)), nI_clamp (by omega), g3]
    by_cases e : A 3 m ≤ i
    · obtain rfl : i = A 3 m := by omega
      rw [if_pos (nI_le (Nat.le_refl _) (by omega)), ← hp]
      refine ⟨σ, ?_, ps_Q_refl σ⟩
      split <;> rfl
    · have hB : ps_Ok (ps_rot A m i) := ps_Ok_rot hok hm
      obtain ⟨υ, d1, d2, d3, d4⟩ := ps_copies (σ := σ) (x := 0) (y := 244) (by omega) (by omega) (by omega)
      have hMu : ps_M A (υ 109) 244 := ps_M_mv (f := σ 109) (x := 0) hok hE.1 d4
      obtain ⟨ω, w1, w2, w3, w4⟩ := ps_so (p := 244) (s := i) hok hMu hm (by omega) (by omega)
      have hMw : ps_M (ps_rot A m i) (ω 109) 244 := ps_M_pth hok hm hMu (fun b _ _ hb => w3 b hb) w4
      have e108 : ω 108 = σ 108 := by rw [w2 108 (by omega) (by omega), d2 108 (by omega)]
      obtain ⟨ρ, r1, r2, r3⟩ := ps_po hB (show ps_E (ps_rot A m i) ω 244 0 from ⟨hMw, by rw [e108, ps_rotN _ _ (by omega)]; exact hE.2.1, by rw [e108, ps_rotN _ _ (by omega)]; exact hE.2.2.1, by rw [e108]; exact hE.2.2.2⟩) (by omega) (by omega)
      have hQ : ps_Q σ ρ := ⟨fun b hb => by rw [r3 b (by omega) (by omega), w2 b (by omega) (by omega), d2 b (by omega)], fun k hk => by rw [r3 109 (by omega) (by omega), w3 k (by omega), d3 k (by omega)], fun j hj => by rw [r3 108 (by omega) (by omega), e108]⟩
      have hQ' := fun x => ps_Q_trans hQ (ps_Q_22 ρ x)
      have u5 : ρ 108 = σ 108 := by rw [r3 108 (by omega) (by omega), e108]
      rw [show nI 0 = (0 : Int32) from rfl, show nI 244 = (244 : Int32) from rfl] at d1
      rw [show nI 244 = (244 : Int32) from rfl] at w1 r1
      rw [if_neg (nI_ge (by omega) (by omega)), d1, vz_b1, w1, vz_b1, r1, vz_b2, ps_more, vz_b2, u5, nI_1]
      by_cases z : nI (ps_pairs (ps_rot A m i) 0) ≤ σ 108 22
      · rw [if_pos z, if_pos rfl, if_pos z]
        obtain ⟨σ', e1, e2⟩ := ih (i + 1) (vz_up ρ 108 22 (σ 108 22)) y (ps_E_Q hok hE (hQ' _)) (by omega) (by omega) (by rw [ps_upS]; exact ps_fo_y hp z)
        exact ⟨σ', e1, ps_Q_trans (hQ' _) e2⟩
      · rw [if_neg z, if_neg ps_10, if_neg z]
        obtain ⟨σ', e1, e2⟩ := ih (i + 1) (vz_up ρ 108 22 (nI (ps_pairs (ps_rot A m i) 0))) (nI i) (ps_E_Q hok hE (hQ' _)) (by omega) (by omega) (by rw [ps_upS]; exact ps_fo_n hp z)
        exact ⟨σ', e1, ps_Q_trans (hQ' _) e2⟩
theorem sm_begin : sim_begin ps_R := by
  intro σ h x1 x2
  have h' := h
  obtain ⟨⟨A, a1, a2, a3, a4, a5, a6, a7, a8⟩, hP, hF, hS, hX⟩ := h'
  have o1 := a1.1
  obtain ⟨σ3, c1, c2, c3⟩ := ps_copy (T := 38) a1 a2 (by omega)
  have q3 : ps_Q σ σ3 := ps_Q_8 (fun b hb => c3 b (by omega))
  by_cases hc : 0 ≤ x1.toInt ∧ x1.toInt < A 0 0
  · obtain ⟨m, hm, rfl⟩ := ps_ofM hc
    obtain ⟨ok1, ok2, ok3, ok4, ok5⟩ := a1.2.2.2.2.2.1 m hm
    by_cases hd : 0 ≤ x2.toInt ∧ x2.toInt ≤ (1 : Nat)
    · have hi9 : f_X9_in x2.toInt64 0 1 = 1 := ps_ilt 1 (by decide) hd
      obtain ⟨p1, p2⟩ := ps_restart σ3 (-1000)
      have hk := ps_pairs_le (ps_Ok_rot (i := 0) a1 hm) 0
      have w0a : ¬ ps_gw A m 0 ≤ ((-4, -1000) : Int32 × Int32).2 := (ps_nm (by omega)).2
      have w0b : ¬ ps_gw A m 0 ≤ ((0, -1) : Int32 × Int32).2 := (ps_nm (by omega)).1
      have hC0 : ps_C (ps_rot A m 0) (f_X2_restart (-1000) σ3) 38 := ps_C_rot0 a1 hm (ps_C_fr a1 c2 (fun b _ _ => p2 b (by omega)))
      obtain ⟨τ, t1, t2, t3⟩ := ps_beg8 (x2 := x2) a1 hm vz_fu 0 (f_X2_restart (-1000) σ3) hC0 (by omega) (by have : vz_fu = 1000000 := rfl; omega) p1
      have q8 : ps_Q σ τ := ps_Q_8 (fun b hb => by rw [t3 b (by omega) (by omega), p2 b (by omega), c3 b (by omega)])
      obtain ⟨len, hlen⟩ : ∃ len, A 3 m = len + 1 := ⟨A 3 m - 1, by omega⟩
      obtain ⟨i, hi, hfo⟩ := ps_fo_c (c := nI) w0a len
      have hfo9 := ps_fo_init (c := nI) w0a w0b len
      have hQ2 : ps_Q σ (vz_up τ 108 22 (-1)) := ps_Q_trans q8 (ps_Q_22 τ (-1))
      obtain ⟨ω, w1, w2⟩ := ps_beg9 (x2 := x2) (s0 := (0, -1)) a1 hm vz_fu 0 (vz_up τ 108 22 (-1)) 0 (ps_E_Q a1 (ps_E0 a3 a4 a5 hX) hQ2) (by omega) (by have : vz_fu = 1000000 := rfl; omega) (by rw [ps_upS]; rfl)
      rw [hlen] at w1 t2
      refine ⟨if x2 = 0 then (ps_fo nI (ps_gw A m) (len + 1) (0, -1)).1 else (ps_fo nI (ps_gw A m) (len + 1) (0, -1)).2, τ, ω, ?_, ?_, ps_R_Q h (ps_Q_trans hQ2 w2)⟩
      · have e8 : f_X2_told x2 τ = if x2 = 0 then (ps_fo nI (ps_gw A m) (len + 1) (-4, -1000)).1 else (ps_fo nI (ps_gw A m) (len + 1) (-4, -1000)).2 := ps_told t2 (by rw [hfo]; exact ps_n4 (by omega))
        unfold f_X8_begin
        rw [c1, vz_b1, ps_manY a1 c2 hm, vz_b1, vz_mo, ps_e8, if_pos hd, if_neg ps_10, ← hfo9, ← e8]
        exact t1
      · have hrY' : f_X9_isMan (nI m) τ = 1 := ps_isManY a1 (by rw [q8.2.2 1 (by omega)]; exact a4) hm
        unfold f_X9_begin
        rw [hrY', if_neg ps_10, hi9, if_neg ps_10]
        exact w1
    · have hi9 : f_X9_in x2.toInt64 0 1 = 0 := ps_ilf 1 (by decide) hd
      have hrY' : f_X9_isMan (nI m) σ3 = 1 := ps_isManY a1 (by rw [q3.2.2 1 (by omega)]; exact a4) hm
      refine ⟨-1, σ3, σ3, ?_, ?_, ps_R_Q h q3⟩
      · unfold f_X8_begin
        rw [c1, vz_b1, ps_manY a1 c2 hm, vz_b1, vz_mo, ps_e8, if_neg hd, if_pos rfl]
      · simp only [f_X9_begin, hrY', if_neg ps_10, hi9, if_true]
  · refine ⟨-1, σ3, σ3, ?_, ?_, ps_R_Q h q3⟩
    · unfold f_X8_begin
      rw [c1, vz_b1, ps_manN a1 c2 hc, vz_b1, vz_mo]
    · unfold f_X9_begin
      rw [ps_isMan a1 (by rw [q3.2.2 1 (by omega)]; exact a4), if_neg hc, if_pos rfl]
