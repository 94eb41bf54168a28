/-! pure: the reference reads a token -/
def pt_F9 (σ σ' : vz_I) : Prop := (∀ b, b ≠ 108 → σ' b = σ b) ∧ ∀ j, j < 10 ∨ 15 < j → σ' 108 j = σ 108 j
theorem pt_F9_refl (σ : vz_I) : pt_F9 σ σ := ⟨fun _ _ => rfl, fun _ _ => rfl⟩
theorem pt_F9_trans {σ τ υ : vz_I} (h : pt_F9 σ τ) (g : pt_F9 τ υ) : pt_F9 σ υ := ⟨fun b hb => by rw [g.1 b hb, h.1 b hb], fun j hj => by rw [g.2 j hj, h.2 j hj]⟩
theorem pt_F9_up (σ : vz_I) {k : Nat} (x : Int32) (hk : 10 ≤ k ∧ k ≤ 15) : pt_F9 σ (vz_up σ 108 k x) := ⟨fun b hb => vz_up_ne _ _ _ hb, fun j hj => ps_upN _ _ (by omega)⟩
theorem pt_T9_F {n : Nat} {C : Nat → Nat} {σ σ' : vz_I} (h : pt_T9 n C σ) (g : pt_F9 σ σ') : pt_T9 n C σ' := pt_T9_fr h (g.2 8 (by omega)) (g.1 111 (by omega))
def pt_R9 (n : Nat) (C : Nat → Nat) (p : Nat) (σ : vz_I) : Prop := (pt_k n C p = 4 → σ 108 10 = 1 ∧ σ 108 11 = nI (pt_s n C p)) ∧ (pt_k n C p ≠ 4 → σ 108 10 = 0 ∧ σ 108 12 = nI (pt_e n C p) ∧ σ 108 13 = nI (pt_s n C p) ∧ σ 108 14 = nI (pt_k n C p) ∧ (pt_k n C p = 2 → σ 108 15 = nI (pt_v n C p)))
def pt_BR (c s : Nat) (σ : vz_I) : Prop := 0 < c ∧ c < 10 ∧ σ 108 10 = nI c ∧ σ 108 11 = nI s
theorem pt_R9_4 {n : Nat} {C : Nat → Nat} {p : Nat} {σ : vz_I} (h : pt_R9 n C p σ) (hk : pt_k n C p = 4) : pt_BR 1 (pt_s n C p) σ := ⟨by omega, by omega, (h.1 hk).1, (h.1 hk).2⟩
theorem pt_fails {σ : vz_I} {c s : Nat} (h10 : σ 108 10 = 0) (h13 : σ 108 13 = nI s) (hc : 0 < c ∧ c < 10) : pt_BR c s (f_X9_fails (nI c) σ) ∧ pt_F9 σ (f_X9_fails (nI c) σ) := by
  unfold f_X9_fails pt_BR
  have e : (vz_up σ 108 10 (nI c)) 108 13 = nI s := by rw [ps_upN _ _ (by omega), h13]
  rw [if_pos h10, vz_let, e]
  refine ⟨⟨hc.1, hc.2, ?_, ps_upS _ _ _ _⟩, pt_F9_trans (pt_F9_up σ _ (by omega)) (pt_F9_up _ _ (by omega))⟩
  rw [ps_upN _ _ (by omega), ps_upS]
theorem pt_bl9 {n : Nat} {C : Nat → Nat} : ∀ (m p f : Nat) (σ : vz_I), pt_T9 n C σ → σ 108 12 = nI p → p ≤ n → n - p < m → n - p < f → ∃ σ', f_X9_step_8 m σ = f_X9_step_8 (0 + 1) σ' ∧ σ' 108 12 = nI (ps_re (pt_B n C) f p) ∧ σ' 108 10 = σ 108 10 ∧ pt_F9 σ σ' := by
  intro m
  induction m with
  | zero => intro p f σ _ _ _ h; omega
  | succ m ih =>
    intro p f σ hT h2 hp hm hf
    have hn := hT.1
    have hC : ∀ i, i < n → C i < 128 := fun i hi => (hT.2.2 i hi).1
    obtain ⟨f, rfl⟩ : ∃ g, f = g + 1 := ⟨f - 1, by omega⟩
    by_cases z : pt_B n C p = true
    · obtain ⟨z1, z2⟩ := pt_B_iff.mp z
      rw [f_X9_step_8_s m, h2, pt_b9 hT (by omega), vz_b1, if_pos ((pt_by32 hC).mpr ⟨z1, z2⟩), nI_1, ps_reT z]
      obtain ⟨σ', q1, q2, q3, q4⟩ := ih (p + 1) f (vz_up σ 108 12 (nI (p + 1))) (pt_T9_F hT (pt_F9_up σ _ (by omega))) (ps_upS _ _ _ _) (by omega) (by omega) (by omega)
      exact ⟨σ', q1, q2, by rw [q3, ps_upN _ _ (by omega)], pt_F9_trans (pt_F9_up σ _ (by omega)) q4⟩
    · have w : ¬ pt_by n C p = (32 : Int32) := fun w => z (pt_B_iff.mpr ((pt_by32 hC).mp w))
      refine ⟨σ, ?_, by rw [ps_reF z]; exact h2, rfl, pt_F9_refl σ⟩
      rw [f_X9_step_8_s m, f_X9_step_8_s 0, h2, pt_b9 hT (by omega), vz_b1, vz_b1, if_neg w, if_neg w]
theorem pt_l9 {n : Nat} {C : Nat → Nat} : ∀ (m p f : Nat) (σ : vz_I), pt_T9 n C σ → σ 108 12 = nI p → p ≤ n → n - p < m → n - p < f → ∃ σ', f_X9_step_84 m σ = some σ' ∧ σ' 108 12 = nI (ps_re (pt_L n C) f p) ∧ σ' 108 14 = 1 ∧ σ' 108 10 = σ 108 10 ∧ σ' 108 13 = σ 108 13 ∧ pt_F9 σ σ' := by
  intro m
  induction m with
  | zero => intro p f σ _ _ _ h; omega
  | succ m ih =>
    intro p f σ hT h2 hp hm hf
    have hn := hT.1
    have hC : ∀ i, i < n → C i < 128 := fun i hi => (hT.2.2 i hi).1
    obtain ⟨f, rfl⟩ : ∃ g, f = g + 1 := ⟨f - 1, by omega⟩
    rw [f_X9_step_84_s, h2, pt_b9 hT (by omega), vz_b1, pt_let9 hC]
    by_cases z : pt_L n C p = true
    · obtain ⟨z1, z2⟩ := pt_L_iff.mp z
      rw [if_pos z, if_neg ps_10, nI_1, ps_reT z]
      obtain ⟨σ', q1, q2, q3, q4, q5, q6⟩ := ih (p + 1) f (vz_up σ 108 12 (nI (p + 1))) (pt_T9_F hT (pt_F9_up σ _ (by omega))) (ps_upS _ _ _ _) (by omega) (by omega) (by omega)
      exact ⟨σ', q1, q2, q3, by rw [q4, ps_upN _ _ (by omega)], by rw [q5, ps_upN _ _ (by omega)], pt_F9_trans (pt_F9_up σ _ (by omega)) q6⟩
    · rw [if_neg z, if_pos rfl, ps_reF z]
      exact ⟨_, rfl, by rw [ps_upN _ _ (by omega)]; exact h2, ps_upS _ _ _ _, ps_upN _ _ (by omega), ps_upN _ _ (by omega), pt_F9_up σ _ (by omega)⟩
theorem pt_d9 {n s : Nat} {C : Nat → Nat} : ∀ (m j f : Nat) (σ : vz_I), pt_T9 n C σ → σ 108 12 = nI (s + j) → σ 108 13 = nI s → σ 108 10 = 0 → σ 108 15 = nI (pt_dv C s (min j 2)) → s + j ≤ n → n - (s + j) < m → n - (s + j) < f → ∃ σ', f_X9_step_140 m σ = some σ' ∧ (ps_re (pt_D n C) f (s + j) - s ≤ 2 → σ' 108 10 = 0 ∧ σ' 108 12 = nI (ps_re (pt_D n C) f (s + j)) ∧ σ' 108 13 = nI s ∧ σ' 108 14 = 2 ∧ σ' 108 15 = nI (pt_dv C s (ps_re (pt_D n C) f (s + j) - s))) ∧ (2 < ps_re (pt_D n C) f (s + j) - s → σ' 108 10 = 1 ∧ σ' 108 11 = nI s) ∧ pt_F9 σ σ' := by
  intro m
  induction m with
  | zero => intro j f σ _ _ _ _ _ _ h; omega
  | succ m ih =>
    intro j f σ hT h2 h13 h10 h15 hp hm hf
    have hn := hT.1
    have hC : ∀ i, i < n → C i < 128 := fun i hi => (hT.2.2 i hi).1
    obtain ⟨f, rfl⟩ : ∃ g, f = g + 1 := ⟨f - 1, by omega⟩
    rw [f_X9_step_140_s, h2, pt_b9 hT (by omega), vz_b1, pt_fig9 hC]
    by_cases z : pt_D n C (s + j) = true
    · obtain ⟨z1, z2, z3⟩ := pt_D_iff.mp z
      rw [if_pos z, if_neg ps_10, h13, pk_sub (by omega), show s + j - s = j by omega, ps_reT z]
      by_cases y : 2 ≤ j
      · rw [if_pos (show (2 : Int32) ≤ nI j from nI_le (a := 2) y (by omega)), vz_let, ps_upN _ _ (by omega), h2, nI_1, h15]
        obtain ⟨σ', q1, q2, q3, q4⟩ := ih (j + 1) f (vz_up (vz_up σ 108 15 (nI (pt_dv C s (min j 2)))) 108 12 (nI (s + j + 1))) (pt_T9_F hT (pt_F9_trans (pt_F9_up σ _ (by omega)) (pt_F9_up _ _ (by omega)))) (ps_upS _ _ _ _) (by rw [ps_upN _ _ (by omega), ps_upN _ _ (by omega)]; exact h13) (by rw [ps_upN _ _ (by omega), ps_upN _ _ (by omega)]; exact h10) (by rw [ps_upN _ _ (by omega), ps_upS, show min (j + 1) 2 = min j 2 by omega]) (by omega) (by omega) (by omega)
        exact ⟨σ', q1, q2, q3, pt_F9_trans (pt_F9_trans (pt_F9_up σ _ (by omega)) (pt_F9_up _ _ (by omega))) q4⟩
      · rw [if_neg (show ¬ (2 : Int32) ≤ nI j from nI_ge (b := 2) (by omega) (by omega)), vz_b1, vz_let, h15, show pt_by n C (s + j) = nI (C (s + j)) from if_pos z1, pt_dig z2, ps_upN _ _ (by omega), h2, nI_1]
        obtain ⟨σ', q1, q2, q3, q4⟩ := ih (j + 1) f (vz_up (vz_up σ 108 15 (nI (10 * pt_dv C s (min j 2) + C (s + j) - 48))) 108 12 (nI (s + j + 1))) (pt_T9_F hT (pt_F9_trans (pt_F9_up σ _ (by omega)) (pt_F9_up _ _ (by omega)))) (ps_upS _ _ _ _) (by rw [ps_upN _ _ (by omega), ps_upN _ _ (by omega)]; exact h13) (by rw [ps_upN _ _ (by omega), ps_upN _ _ (by omega)]; exact h10) (by rw [ps_upN _ _ (by omega), ps_upS, show min (j + 1) 2 = j + 1 by omega, show min j 2 = j by omega]; rfl) (by omega) (by omega) (by omega)
        exact ⟨σ', q1, q2, q3, pt_F9_trans (pt_F9_trans (pt_F9_up σ _ (by omega)) (pt_F9_up _ _ (by omega))) q4⟩
    · have e1 : (vz_up σ 108 14 (2 : Int32)) 108 12 - (vz_up σ 108 14 (2 : Int32)) 108 13 = nI j := by rw [ps_upN _ _ (by omega), ps_upN _ _ (by omega), h2, h13, pk_sub (by omega), show s + j - s = j by omega]
      rw [if_neg z, if_pos rfl, e1, ps_reF z, show s + j - s = j by omega]
      by_cases y : j ≤ 2
      · rw [if_pos (show nI j ≤ (2 : Int32) from nI_le (b := 2) y (by omega))]
        refine ⟨_, rfl, fun _ => ⟨?_, ?_, ?_, ps_upS _ _ _ _, ?_⟩, fun h => by omega, pt_F9_up σ _ (by omega)⟩
        · rw [ps_upN _ _ (by omega)]; exact h10
        · rw [ps_upN _ _ (by omega)]; exact h2
        · rw [ps_upN _ _ (by omega)]; exact h13
        · rw [ps_upN _ _ (by omega), h15, show min j 2 = j by omega]
      · rw [if_neg (show ¬ nI j ≤ (2 : Int32) from nI_ge (a := 2) (by omega) (by omega))]
        obtain ⟨b1, b2⟩ := pt_fails (σ := vz_up σ 108 14 2) (c := 1) (s := s) (by rw [ps_upN _ _ (by omega)]; exact h10) (by rw [ps_upN _ _ (by omega)]; exact h13) (by omega)
        exact ⟨_, rfl, fun h => by omega, fun _ => ⟨b1.2.2.1, b1.2.2.2⟩, pt_F9_trans (pt_F9_up σ _ (by omega)) b2⟩
theorem pt_tk9 {n : Nat} {C : Nat → Nat} {σ : vz_I} {p : Nat} (hT : pt_T9 n C σ) (h12 : σ 108 12 = nI p) (h10 : σ 108 10 = 0) (hp : p ≤ n) : ∃ σ', f_X9_step σ = some σ' ∧ pt_R9 n C p σ' ∧ pt_F9 σ σ' := by
  have hn := hT.1
  have hC : ∀ i, i < n → C i < 128 := fun i hi => (hT.2.2 i hi).1
  have fu : vz_fu = 1000000 := rfl
  obtain ⟨s1, s2, s3⟩ := pt_s_spec (C := C) hn hp
  obtain ⟨τ, t1, t2, t3, t4⟩ := pt_bl9 vz_fu p 200 σ hT h12 hp (by omega) (by omega)
  have t2' : τ 108 12 = nI (pt_s n C p) := t2
  have hTt := pt_T9_F hT t4
  have w32 : ¬ pt_by n C (pt_s n C p) = (32 : Int32) := fun w => s3 (pt_B_iff.mpr ((pt_by32 hC).mp w))
  have F1 := pt_F9_up τ (k := 13) (nI (pt_s n C p)) (by omega)
  unfold f_X9_step
  rw [h10, if_pos (by decide), t1, f_X9_step_8_s, t2', pt_b9 hTt (by omega), vz_b1, if_neg w32, ps_upN _ _ (by omega), t2', pt_b9 (pt_T9_F hTt F1) (by omega), vz_b1]
  unfold pt_R9
  by_cases e : n ≤ pt_s n C p
  · have hk : pt_k n C p = 0 := if_pos e
    have he : pt_e n C p = pt_s n C p := if_pos e
    rw [if_pos ((pt_by_n hC).mpr e), vz_let, hk, he]
    refine ⟨_, rfl, ⟨fun h => by omega, fun _ => ⟨?_, ?_, ?_, ?_, fun h => by omega⟩⟩, pt_F9_trans t4 (pt_F9_trans F1 (pt_F9_trans (pt_F9_up _ _ (by omega)) (pt_F9_up _ _ (by omega))))⟩
    · rw [ps_upN _ _ (by omega), ps_upN _ _ (by omega), ps_upN _ _ (by omega), t3, h10]
    · rw [ps_upN _ _ (by omega), ps_upN _ _ (by omega), ps_upN _ _ (by omega), t2']
    · rw [ps_upN _ _ (by omega), ps_upN _ _ (by omega), ps_upS]
    · rw [ps_upS]; rfl
  · rw [if_neg (fun w => e ((pt_by_n hC).mp w)), pt_let9 hC]
    by_cases e2 : C (pt_s n C p) = 59
    · have hk : pt_k n C p = 3 := by unfold pt_k; rw [if_neg e, if_pos e2]
      have he : pt_e n C p = pt_s n C p + 1 := by unfold pt_e; rw [if_neg e, if_pos e2]
      have nl : ¬ pt_L n C (pt_s n C p) = true := fun w => by have := pt_L_iff.mp w; omega
      have nd : ¬ pt_D n C (pt_s n C p) = true := fun w => by have := pt_D_iff.mp w; omega
      rw [if_neg nl, if_pos rfl, pt_fig9 hC, if_neg nd, if_pos rfl, vz_let, if_pos ((pt_by59 hC).mpr ⟨by omega, e2⟩), hk, he]
      refine ⟨_, rfl, ⟨fun h => by omega, fun _ => ⟨?_, ?_, ?_, ?_, fun h => by omega⟩⟩, pt_F9_trans t4 (pt_F9_trans F1 (pt_F9_trans (pt_F9_up _ _ (by omega)) (pt_F9_trans (pt_F9_up _ _ (by omega)) (pt_F9_up _ _ (by omega)))))⟩
      · rw [ps_upN _ _ (by omega), ps_upN _ _ (by omega), ps_upN _ _ (by omega), ps_upN _ _ (by omega), t3, h10]
      · rw [ps_upS, ps_upN _ _ (by omega), ps_upN _ _ (by omega), ps_upN _ _ (by omega), t2', nI_1]
      · rw [ps_upN _ _ (by omega), ps_upN _ _ (by omega), ps_upN _ _ (by omega), ps_upS]
      · rw [ps_upN _ _ (by omega), ps_upS]; rfl
    · by_cases e3 : pt_L n C (pt_s n C p) = true
      · have hk : pt_k n C p = 1 := by unfold pt_k; rw [if_neg e, if_neg e2, if_pos e3]
        have he : pt_e n C p = pt_ln n C (pt_s n C p) := by unfold pt_e; rw [if_neg e, if_neg e2, if_pos e3]
        rw [if_pos e3, if_neg ps_10, hk, he]
        obtain ⟨σ', q1, q2, q3, q4, q5, q6⟩ := pt_l9 vz_fu (pt_s n C p) 200 (vz_up (vz_up τ 108 13 (nI (pt_s n C p))) 108 15 0) (pt_T9_F hTt (pt_F9_trans F1 (pt_F9_up _ _ (by omega)))) (by rw [ps_upN _ _ (by omega), ps_upN _ _ (by omega), t2']) s2 (by omega) (by omega)
        refine ⟨σ', q1, ⟨fun h => by omega, fun _ => ⟨?_, q2, ?_, q3, fun h => by omega⟩⟩, pt_F9_trans t4 (pt_F9_trans F1 (pt_F9_trans (pt_F9_up _ _ (by omega)) q6))⟩
        · rw [q4, ps_upN _ _ (by omega), ps_upN _ _ (by omega), t3, h10]
        · rw [q5, ps_upN _ _ (by omega), ps_upS]
      · rw [if_neg e3, if_pos rfl, pt_fig9 hC]
        by_cases e4 : pt_D n C (pt_s n C p) = true
        · have he : pt_e n C p = pt_dn n C (pt_s n C p) := by unfold pt_e; rw [if_neg e, if_neg e2, if_neg e3, if_pos e4]
          obtain ⟨d1, d2, d3, d4⟩ := pt_dn_spec (C := C) hn s2
          rw [if_pos e4, if_neg ps_10, he]
          obtain ⟨σ', q1, q2, q3, q4⟩ := pt_d9 (s := pt_s n C p) vz_fu 0 200 (vz_up (vz_up τ 108 13 (nI (pt_s n C p))) 108 15 0) (pt_T9_F hTt (pt_F9_trans F1 (pt_F9_up _ _ (by omega)))) (by rw [ps_upN _ _ (by omega), ps_upN _ _ (by omega), t2', Nat.add_zero]) (by rw [ps_upN _ _ (by omega), ps_upS]) (by rw [ps_upN _ _ (by omega), ps_upN _ _ (by omega), t3, h10]) (by rw [ps_upS]; rfl) (by omega) (by omega) (by omega)
          rw [Nat.add_zero] at q2 q3
          refine ⟨σ', q1, ?_, pt_F9_trans t4 (pt_F9_trans F1 (pt_F9_trans (pt_F9_up _ _ (by omega)) q4))⟩
          have dd : ps_re (pt_D n C) 200 (pt_s n C p) = pt_dn n C (pt_s n C p) := rfl
          rw [dd] at q2 q3
          by_cases e5 : pt_dn n C (pt_s n C p) ≤ pt_s n C p + 2
          · have hk : pt_k n C p = 2 := by unfold pt_k; rw [if_neg e, if_neg e2, if_neg e3, if_pos e4, if_pos e5]
            rw [hk]
            obtain ⟨y1, y2, y3, y4, y5⟩ := q2 (by omega)
            exact ⟨fun h => by omega, fun _ => ⟨y1, y2, y3, y4, fun _ => y5⟩⟩
          · have hk : pt_k n C p = 4 := by unfold pt_k; rw [if_neg e, if_neg e2, if_neg e3, if_pos e4, if_neg e5]
            rw [hk]
            exact ⟨fun _ => q3 (by omega), fun h => absurd rfl h⟩
        · have hk : pt_k n C p = 4 := by unfold pt_k; rw [if_neg e, if_neg e2, if_neg e3, if_neg e4]
          rw [if_neg e4, if_pos rfl, vz_let, if_neg (fun w => e2 ((pt_by59 hC).mp w).2), hk]
          obtain ⟨b1, b2⟩ := pt_fails (σ := vz_up (vz_up (vz_up (vz_up τ 108 13 (nI (pt_s n C p))) 108 15 0) 108 14 3) 108 12 ((vz_up (vz_up (vz_up τ 108 13 (nI (pt_s n C p))) 108 15 0) 108 14 3) 108 12 + 1)) (c := 1) (s := pt_s n C p) (by rw [ps_upN _ _ (by omega), ps_upN _ _ (by omega), ps_upN _ _ (by omega), ps_upN _ _ (by omega), t3, h10]) (by rw [ps_upN _ _ (by omega), ps_upN _ _ (by omega), ps_upN _ _ (by omega), ps_upS]) (by omega)
          exact ⟨_, rfl, ⟨fun _ => ⟨b1.2.2.1, b1.2.2.2⟩, fun h => absurd rfl h⟩, pt_F9_trans t4 (pt_F9_trans F1 (pt_F9_trans (pt_F9_up _ _ (by omega)) (pt_F9_trans (pt_F9_up _ _ (by omega)) (pt_F9_trans (pt_F9_up _ _ (by omega)) b2))))⟩
theorem pt_stepB {σ : vz_I} {c s : Nat} (h : pt_BR c s σ) : f_X9_step σ = some σ := by
  obtain ⟨h0, h1, h2, h3⟩ := h
  unfold f_X9_step
  rw [h2, if_neg (nI_nle h0 (by omega))]
