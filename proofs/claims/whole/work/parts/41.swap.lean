/-! pure: swap -/
def ps_sp (A : ps_T) (m q : Nat) : ps_T := ps_set (ps_set A (1 + 1) m (A 2 q)) (1 + 1) q (A 2 m)
theorem ps_spN (A : ps_T) {m q a : Nat} (b : Nat) (h : a ≠ 2) : ps_sp A m q a b = A a b := by
  unfold ps_sp
  rw [ps_setN _ _ (by omega), ps_setN _ _ (by omega)]
theorem ps_sp_sp (A : ps_T) {m q : Nat} (h : m ≠ q) : ps_sp (ps_sp A m q) m q = A := by
  have e1 : ps_sp A m q 2 q = A 2 m := by unfold ps_sp; exact ps_setS _ _ _ _
  have e2 : ps_sp A m q 2 m = A 2 q := by
    unfold ps_sp
    rw [ps_setN _ _ (by omega)]
    exact ps_setS _ _ _ _
  funext a b
  rw [ps_sp, e1, e2]
  by_cases h1 : a = 2 ∧ b = q
  · obtain ⟨rfl, rfl⟩ := h1; exact ps_setS _ _ _ _
  · rw [ps_setN _ _ (by omega)]
    by_cases h2 : a = 2 ∧ b = m
    · obtain ⟨rfl, rfl⟩ := h2; exact ps_setS _ _ _ _
    · rw [ps_setN _ _ (by omega)]
      unfold ps_sp
      rw [ps_setN _ _ (by omega), ps_setN _ _ (by omega)]
theorem ps_Ok_sp {A : ps_T} {m q : Nat} (hok : ps_Ok A) (hm : m < A 0 0) (hq : q < A 0 0) : ps_Ok (ps_sp A m q) := by
  have k1 := (hok.2.2.2.2.2.1 m hm).2.1
  have k2 := (hok.2.2.2.2.2.1 q hq).2.1
  exact ps_Ok_man (ps_Ok_man hok (by omega) (by omega)) (by omega) (by omega)
theorem ps_C_sp {A : ps_T} {σ : vz_I} {m q : Nat} (hok : ps_Ok A) (hm : m < A 0 0) (hq : q < A 0 0) (hmq : m ≠ q) (hC : ps_C A σ 38) : ∃ σ', f_X7_changePlanks 38 (nI m) (nI q) σ = some σ' ∧ ps_C (ps_sp A m q) σ' 38 ∧ ∀ b, (b < 38 ∨ 54 < b) → σ' b = σ b := by
  have o1 := hok.1
  have k1 := (hok.2.2.2.2.2.1 m hm).2.1
  have k2 := (hok.2.2.2.2.2.1 q hq).2.1
  have g1 := (hC.2.2.2.2.2.1 m hm).2.1
  have g2 := (hC.2.2.2.2.2.1 q hq).2.1
  have c1 := ps_C_man (v := A 2 q) (s := 1) hm o1 (by omega) hC
  have c2 := ps_C_man (v := A 2 m) (s := 1) (m := q) (by rw [ps_setN _ _ (by omega)]; exact hq) (by rw [ps_setN _ _ (by omega)]; exact o1) (by omega) c1
  refine ⟨_, ?_, c2, fun b hb => by rw [vz_up_ne _ _ _ (by omega), vz_up_ne _ _ _ (by omega)]⟩
  unfold f_X7_changePlanks
  rw [ps_manY hok hC hm, vz_b1, vz_mo, ps_manY hok hC hq, vz_b1, vz_mo, g1, g2]
def ps_swc (m k : Nat) : Int32 := nI (10 * m + (m + 1 + k))
def ps_sww (A : ps_T) (m k : Nat) : Int32 := nI (ps_pairs (ps_sp A m (m + 1 + k)) 0)
theorem ps_sw8i {A : ps_T} {m : Nat} {x1 : Int32} {s0 : Int32 × Int32} {k38 : Int32 → Int32 → vz_I → Option (Int32 × vz_I)} (hok : ps_Ok A) (hm : m < A 0 0) : ∀ (n k : Nat) (σ : vz_I), ps_C A σ 38 → m + 1 + k ≤ A 0 0 → A 0 0 - (m + 1 + k) < n → ps_pk σ (ps_fo (ps_swc m) (ps_sww A m) k s0) → ∃ σ', f_X8_swap_53 k38 n x1 (nI m) (nI (m + 1 + k)) σ = k38 x1 (nI (m + 1)) σ' ∧ ps_C A σ' 38 ∧ ps_pk σ' (ps_fo (ps_swc m) (ps_sww A m) (A 0 0 - (m + 1)) s0) ∧ ∀ b, (b < 38 ∨ 54 < b) → b ≠ 64 → σ' b = σ b := by
  have o1 := hok.1
  intro n
  induction n with
  | zero => intro k σ _ _ h; omega
  | succ n ih =>
    intro k σ hC hk hn hp
    rw [f_X8_swap_53_s, hC.1]
    by_cases e : A 0 0 ≤ m + 1 + k
    · rw [if_pos (nI_le e (by omega)), nI_1, show A 0 0 - (m + 1) = k by omega]
      exact ⟨σ, rfl, hC, hp, fun _ _ _ => rfl⟩
    · have hq : m + 1 + k < A 0 0 := by omega
      have hB := ps_Ok_sp hok hm hq
      obtain ⟨τ, t1, t2, t3⟩ := ps_C_sp hok hm hq (by omega) hC
      have hp' : ps_pk τ (ps_fo (ps_swc m) (ps_sww A m) k s0) := ⟨by rw [t3 64 (by omega)]; exact hp.1, by rw [t3 64 (by omega)]; exact hp.2⟩
      obtain ⟨q1, q2⟩ := ps_offer (x := ps_swc m k) (y := ps_sww A m k) hp'
      obtain ⟨υ, u1, u2, u3⟩ := ps_C_sp (q := m + 1 + k) hB (by rw [ps_spN _ _ (by omega)]; exact hm) (by rw [ps_spN _ _ (by omega)]; exact hq) (by omega) (ps_C_fr hB t2 (fun b _ _ => q2 b (by omega)))
      rw [ps_sp_sp A (by omega)] at u2
      rw [if_neg (nI_ge hq (by omega)), t1, vz_b1, ps_pr0 hB t2, vz_b1, show (10 : Int32) * nI m = nI (10 * m) from pk_mul 10 m, nI_add]
      rw [show f_X2_offer (nI (10 * m + (m + 1 + k))) (nI (ps_pairs (ps_sp A m (m + 1 + k)) 0)) τ = f_X2_offer (ps_swc m k) (ps_sww A m k) τ from rfl, u1, vz_b1, nI_1]
      obtain ⟨σ', e1, e2, e3, e4⟩ := ih (k + 1) υ u2 (by omega) (by omega) ⟨by rw [u3 64 (by omega)]; exact q1.1, by rw [u3 64 (by omega)]; exact q1.2⟩
      exact ⟨σ', e1, e2, e3, fun b r1 r2 => by rw [e4 b r1 r2, u3 b r1, q2 b r2, t3 b r1]⟩
def ps_swo (A : ps_T) (s0 : Int32 × Int32) : Nat → Int32 × Int32
  | 0 => s0
  | m + 1 => ps_fo (ps_swc m) (ps_sww A m) (A 0 0 - (m + 1)) (ps_swo A s0 m)
theorem ps_sw8 {A : ps_T} {x1 : Int32} {s0 : Int32 × Int32} (hok : ps_Ok A) : ∀ (n m : Nat) (σ : vz_I), ps_C A σ 38 → m ≤ A 0 0 → A 0 0 - m < n → ps_pk σ (ps_swo A s0 m) → ∃ σ', f_X8_swap_38 n x1 (nI m) σ = some (f_X2_told x1 σ', σ') ∧ ps_pk σ' (ps_swo A s0 (A 0 0)) ∧ ∀ b, (b < 38 ∨ 54 < b) → b ≠ 64 → σ' b = σ b := by
  have o1 := hok.1
  intro n
  induction n with
  | zero => intro m σ _ _ h; omega
  | succ n ih =>
    intro m σ hC hm hn hp
    rw [f_X8_swap_38_s, hC.1]
    by_cases e : A 0 0 ≤ m
    · obtain rfl : m = A 0 0 := by omega
      rw [if_pos (nI_le (Nat.le_refl _) (by omega))]
      exact ⟨σ, rfl, hp, fun _ _ _ => rfl⟩
    · obtain ⟨τ, t1, t2, t3, t4⟩ := ps_sw8i (x1 := x1) (k38 := f_X8_swap_38 n) hok (show m < A 0 0 by omega) vz_fu 0 σ hC (by omega) (by have : vz_fu = 1000000 := rfl; omega) hp
      rw [if_neg (nI_ge (by omega) (by omega)), nI_1]
      rw [show m + 1 + 0 = m + 1 from rfl] at t1
      rw [t1]
      obtain ⟨σ', e1, e2, e3⟩ := ih (m + 1) τ t2 (by omega) (by omega) t3
      exact ⟨σ', e1, e2, fun b r1 r2 => by rw [e3 b r1 r2, t4 b r1 r2]⟩
theorem ps_sw9i {A : ps_T} {m : Nat} {x1 : Int32} {s0 : Int32 × Int32} {k26 : Int32 → Int32 → Int32 → vz_I → Option (Int32 × vz_I)} (hok : ps_Ok A) (hm : m < A 0 0) : ∀ (n k : Nat) (σ : vz_I) (y : Int32), ps_E A σ 0 0 → m + 1 + k ≤ A 0 0 → A 0 0 - (m + 1 + k) < n → (y, σ 108 22) = ps_fo (ps_swc m) (ps_sww A m) k s0 → ∃ σ' y', f_X9_swap_39 k26 n x1 y (nI m) (nI (m + 1 + k)) σ = k26 x1 y' (nI (m + 1)) σ' ∧ (y', σ' 108 22) = ps_fo (ps_swc m) (ps_sww A m) (A 0 0 - (m + 1)) s0 ∧ ps_Q σ σ' := by
  have o1 := hok.1
  intro n
  induction n with
  | zero => intro k σ y _ _ h; omega
  | succ n ih =>
    intro k σ y hE hk hn hp
    rw [f_X9_swap_39_s, hE.2.1]
    by_cases e : A 0 0 ≤ m + 1 + k
    · rw [if_pos (nI_le e (by omega)), nI_1, show A 0 0 - (m + 1) = k by omega]
      exact ⟨σ, y, rfl, hp, ps_Q_refl σ⟩
    · have hq : m + 1 + k < A 0 0 := by omega
      have hB := ps_Ok_sp hok hm hq
      generalize hqq : m + 1 + k = q at *
      have hmq : m ≠ q := by omega
      obtain ⟨υ, d1, d2, d3, d4⟩ := ps_copies (σ := σ) (x := 0) (y := 244) (by omega) (by omega) (by omega)
      have hMu : ps_M A (υ 109) 244 := ps_M_mv (f := σ 109) (x := 0) hok hE.1 d4
      have jm := (hE.1.2.2.2.1 m hm).2.1
      have jq := (hE.1.2.2.2.1 q hq).2.1
      rw [show 0 + 4 + m = 4 + m by omega] at jm
      rw [show 0 + 4 + q = 4 + q by omega] at jq
      have m1 := ps_M_man (v := A 2 q) (s := 1) hok hm (by omega) hMu
      have k2 := (hok.2.2.2.2.2.1 q hq).2.1
      have hok1 : ps_Ok (ps_set A (1 + 1) m (A 2 q)) := ps_Ok_man hok (by omega) (by omega)
      have m2 := ps_M_man (v := A 2 m) (s := 1) (m := q) hok1 (by rw [ps_setN _ _ (by omega)]; exact hq) (by omega) m1
      generalize hr : vz_up (vz_up υ 109 (248 + m) (nI (A 2 q))) 109 (248 + q) (nI (A 2 m)) = ρ
      have hMr : ps_M (ps_sp A m q) (ρ 109) 244 := by
        rw [← hr, vz_up_self, vz_up_self, show 248 + m = 244 + 4 * 1 + m by omega, show 248 + q = 244 + 4 * 1 + q by omega]
        exact m2
      have e108 : ρ 108 = σ 108 := by rw [← hr, vz_up_ne _ _ _ (by omega), vz_up_ne _ _ _ (by omega), d2 108 (by omega)]
      obtain ⟨ω, w1, w2, w3⟩ := ps_po hB (show ps_E (ps_sp A m q) ρ 244 0 from ⟨hMr, by rw [e108, ps_spN _ _ (by omega)]; exact hE.2.1, by rw [e108, ps_spN _ _ (by omega)]; exact hE.2.2.1, by rw [e108]; exact hE.2.2.2⟩) (by omega) (by omega)
      have hQ : ps_Q σ ω := by
        refine ⟨fun b hb => ?_, fun j hj => ?_, fun j _ => by rw [w3 108 (by omega) (by omega), e108]⟩
        · rw [w3 b (by omega) (by omega), ← hr, vz_up_ne _ _ _ (by omega), vz_up_ne _ _ _ (by omega), d2 b (by omega)]
        · rw [w3 109 (by omega) (by omega), ← hr, ps_upN _ _ (by omega), ps_upN _ _ (by omega), d3 j (by omega)]
      have u5 : ω 108 = σ 108 := by rw [w3 108 (by omega) (by omega), e108]
      have hQ' := fun x => ps_Q_trans hQ (ps_Q_22 ω x)
      rw [show nI 0 = (0 : Int32) from rfl, show nI 244 = (244 : Int32) from rfl] at d1
      rw [show nI 244 = (244 : Int32) from rfl] at w1
      have v1 : υ 109 (4 + q) = nI (A 2 q) := by rw [d3 _ (by omega)]; exact jq
      have v2 : (vz_up υ 109 (248 + m) (nI (A 2 q))) 109 (4 + m) = nI (A 2 m) := by rw [ps_upN _ _ (by omega), d3 _ (by omega)]; exact jm
      rw [if_neg (nI_ge hq (by omega)), d1, vz_b1, show (4 : Int32) + nI q = nI (4 + q) from nI_add 4 q, show (248 : Int32) + nI m = nI (248 + m) from nI_add 248 m, show (4 : Int32) + nI m = nI (4 + m) from nI_add 4 m, show (248 : Int32) + nI q = nI (248 + q) from nI_add 248 q, if_pos ((ps_in (by omega)).mpr (by omega)), if_pos ((ps_in (by omega)).mpr (by omega)), vz_let, if_pos ((ps_in (by omega)).mpr (by omega)), if_pos ((ps_in (by omega)).mpr (by omega)), vz_let, nI_clamp (by omega), nI_clamp (by omega), nI_clamp (by omega), nI_clamp (by omega), v1, v2, hr, w1, vz_b2, ps_more, vz_b2, u5, nI_1, show (10 : Int32) * nI m = nI (10 * m) from pk_mul 10 m, nI_add]
      have hw : ps_sww A m k = nI (ps_pairs (ps_sp A m q) 0) := by unfold ps_sww; rw [hqq]
      have hcc : ps_swc m k = nI (10 * m + q) := by unfold ps_swc; rw [hqq]
      by_cases z : nI (ps_pairs (ps_sp A m q) 0) ≤ σ 108 22
      · rw [if_pos z, if_pos rfl, if_pos z]
        obtain ⟨σ', y', e1, e2, e3⟩ := ih (k + 1) (vz_up ω 108 22 (σ 108 22)) y (ps_E_Q hok hE (hQ' _)) (by omega) (by omega) (by rw [ps_upS]; exact ps_fo_y hp (by rw [hw]; exact z))
        rw [show m + 1 + (k + 1) = q + 1 by omega] at e1
        exact ⟨σ', y', e1, e2, ps_Q_trans (hQ' _) e3⟩
      · rw [if_neg z, if_neg ps_10, if_neg z]
        obtain ⟨σ', y', e1, e2, e3⟩ := ih (k + 1) (vz_up ω 108 22 (nI (ps_pairs (ps_sp A m q) 0))) (nI (10 * m + q)) (ps_E_Q hok hE (hQ' _)) (by omega) (by omega) (by rw [ps_upS, ← hw, ← hcc]; exact ps_fo_n hp (by rw [hw]; exact z))
        rw [show m + 1 + (k + 1) = q + 1 by omega] at e1
        exact ⟨σ', y', e1, e2, ps_Q_trans (hQ' _) e3⟩
theorem ps_sw9 {A : ps_T} {x1 : Int32} {s0 : Int32 × Int32} (hok : ps_Ok A) : ∀ (n m : Nat) (σ : vz_I) (y : Int32), ps_E A σ 0 0 → m ≤ A 0 0 → A 0 0 - m < n → (y, σ 108 22) = ps_swo A s0 m → ∃ σ', f_X9_swap_26 n x1 y (nI m) σ = some (if (ps_swo A s0 (A 0 0)).1 = -4 then (ps_swo A s0 (A 0 0)).1 else if x1 = 0 then (ps_swo A s0 (A 0 0)).1 else (ps_swo A s0 (A 0 0)).2, σ') ∧ ps_Q σ σ' := by
  have o1 := hok.1
  intro n
  induction n with
  | zero => intro m σ y _ _ h; omega
  | succ n ih =>
    intro m σ y hE hm hn hp
    rw [f_X9_swap_26_s, hE.2.1]
    by_cases e : A 0 0 ≤ m
    · obtain rfl : m = A 0 0 := by omega
      rw [if_pos (nI_le (Nat.le_refl _) (by omega)), ← hp]
      refine ⟨σ, ?_, ps_Q_refl σ⟩
      show (if y = -4 then some (y, σ) else if x1 = 0 then some (y, σ) else some (σ 108 22, σ)) = some (if y = -4 then y else if x1 = 0 then y else σ 108 22, σ)
      split
      · rfl
      · split <;> rfl
    · obtain ⟨τ, y', t1, t2, t3⟩ := ps_sw9i (x1 := x1) (k26 := f_X9_swap_26 n) hok (show m < A 0 0 by omega) vz_fu 0 σ y hE (by omega) (by have : vz_fu = 1000000 := rfl; omega) hp
      rw [if_neg (nI_ge (by omega) (by omega)), nI_1]
      rw [show m + 1 + 0 = m + 1 from rfl] at t1
      rw [t1]
      obtain ⟨σ', e1, e2⟩ := ih (m + 1) τ y' (ps_E_Q hok hE t3) (by omega) (by omega) t2
      exact ⟨σ', e1, ps_Q_trans t3 e2⟩
theorem sm_swap : sim_swap ps_R := by
  intro σ h x1
  have h' := h
  obtain ⟨⟨A, a1, a2, a3, a4, a5, a6, a7, a8⟩, hP, hF, hS, hX⟩ := h'
  have o1 := a1.1
  by_cases hd : 0 ≤ x1.toInt ∧ x1.toInt ≤ (1 : Nat)
  · have hi9 : f_X9_in x1.toInt64 0 1 = 1 := ps_ilt 1 (by decide) hd
    obtain ⟨σ3, c1, c2, c3⟩ := ps_copy (T := 38) a1 a2 (by omega)
    have hC21 : ps_C A σ3 21 := ps_C_fr a1 a2 (fun b _ _ => c3 b (by omega))
    obtain ⟨p1, p2⟩ := ps_restart σ3 (nI (ps_pairs A 0))
    obtain ⟨τ, t1, t2, t3⟩ := ps_sw8 (x1 := x1) (s0 := (-4, nI (ps_pairs A 0))) a1 vz_fu 0 (f_X2_restart (nI (ps_pairs A 0)) σ3) (ps_C_fr a1 c2 (fun b _ _ => p2 b (by omega))) (by omega) (by have : vz_fu = 1000000 := rfl; omega) p1
    have q8 : ps_Q σ τ := ps_Q_8 (fun b hb => by rw [t3 b (by omega) (by omega), p2 b (by omega), c3 b (by omega)])
    obtain ⟨υ, v1, v2, v3⟩ := ps_po a1 (ps_E_Q a1 (ps_E0 a3 a4 a5 hX) q8) (by omega) (by omega)
    rw [show nI 0 = (0 : Int32) from rfl] at v1
    have hQ2 : ps_Q σ (vz_up υ 108 22 (nI (ps_pairs A 0))) := ps_Q_trans q8 (ps_Q_trans (ps_Q_ln v3) (ps_Q_22 υ _))
    obtain ⟨ω, w1, w2⟩ := ps_sw9 (x1 := x1) (s0 := (-4, nI (ps_pairs A 0))) a1 vz_fu 0 (vz_up υ 108 22 (nI (ps_pairs A 0))) (-4) (ps_E_Q a1 (ps_E0 a3 a4 a5 hX) hQ2) (by omega) (by have : vz_fu = 1000000 := rfl; omega) (by rw [ps_upS]; rfl)
    refine ⟨f_X2_told x1 τ, τ, ω, ?_, ?_, ps_R_Q h (ps_Q_trans hQ2 w2)⟩
    · unfold f_X8_swap
      rw [ps_e8, if_pos hd, if_neg ps_10, c1, vz_b1, ps_pr0 a1 hC21, vz_b1]
      exact t1
    · unfold f_X9_swap
      rw [hi9, if_neg ps_10, v1, vz_b2]
      unfold f_X2_told
      rw [t2.1, t2.2]
      exact w1
  · have hi9 : f_X9_in x1.toInt64 0 1 = 0 := ps_ilf 1 (by decide) hd
    refine ⟨-1, σ, σ, ?_, ?_, h⟩
    · simp only [f_X8_swap, ps_e8, if_neg hd, if_true]
    · simp only [f_X9_swap, hi9, if_true]
