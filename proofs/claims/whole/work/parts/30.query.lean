/-! pure: calls that only ask -/
def ps_Q (σ σ' : vz_I) : Prop := (∀ b, (b ≤ 3 ∨ (21 ≤ b ∧ b ≤ 37) ∨ (55 ≤ b ∧ b ≤ 62) ∨ (66 ≤ b ∧ b ≤ 107) ∨ (111 ≤ b ∧ b ≤ 113) ∨ b = 117 ∨ (119 ≤ b ∧ b ≤ 122)) → σ' b = σ b) ∧ (∀ k, k < 183 → σ' 109 k = σ 109 k) ∧ (∀ j, (j = 1 ∨ j = 2 ∨ j = 8 ∨ j = 9 ∨ j = 18 ∨ j = 24 ∨ j = 30) → σ' 108 j = σ 108 j)
theorem ps_Q_refl (σ : vz_I) : ps_Q σ σ := ⟨fun _ _ => rfl, fun _ _ => rfl, fun _ _ => rfl⟩
theorem ps_Q_trans {σ τ υ : vz_I} (h : ps_Q σ τ) (g : ps_Q τ υ) : ps_Q σ υ := ⟨fun b hb => by rw [g.1 b hb, h.1 b hb], fun k hk => by rw [g.2.1 k hk, h.2.1 k hk], fun j hj => by rw [g.2.2 j hj, h.2.2 j hj]⟩
theorem ps_R_Q {σ σ' : vz_I} (h : ps_R σ) (q : ps_Q σ σ') : ps_R σ' := by
  obtain ⟨⟨A, a1, a2, a3, a4, a5, a6, a7, a8⟩, hP, hF, hS, hX⟩ := h
  obtain ⟨q1, q2, q3⟩ := q
  refine ⟨ps_town_up a1 a1 (ps_C_fr a1 a2 (fun b _ _ => q1 b (by omega))) (ps_M_fr a1 a3 (fun b _ _ => q2 b (by omega))) rfl rfl a4 a5 a6 a7 a8 (fun b hb => q1 b (by omega)) (fun b _ _ => q2 b (by omega)) (fun j hj => q3 j (by omega)), ?_, ?_, ?_, ?_⟩
  · exact ps_tape_fr hP (fun b hb => q1 b (by omega)) (q3 8 (by omega))
  · exact ps_ft_fr hF (by rw [q1 1 (by omega)]) (by rw [q1 0 (by omega)]) (q3 9 (by omega)) (q3 30 (by omega))
  · exact ps_sheet_fr hS (fun b hb => q1 b (by omega))
  · exact ps_fix_fr hX (fun b hb => q1 b (by omega)) (q3 18 (by omega))
theorem ps_Q_ln {σ σ' : vz_I} (h : ∀ b, b ≠ 114 → b ≠ 115 → σ' b = σ b) : ps_Q σ σ' := ⟨fun b hb => h b (by omega) (by omega), fun k hk => by rw [h 109 (by omega) (by omega)], fun j hj => by rw [h 108 (by omega) (by omega)]⟩
theorem ps_E0 {A : ps_T} {σ : vz_I} (a3 : ps_M A (σ 109) 0) (a4 : σ 108 1 = nI (A 0 0)) (a5 : σ 108 2 = nI (A 0 1)) (hX : ps_fix σ) : ps_E A σ 0 0 := ⟨a3, a4, a5, hX.2.2⟩
theorem sm_rule : sim_rule ps_R := by
  intro σ h x1
  have h' := h
  obtain ⟨⟨A, a1, a2, a3, a4, a5, a6, a7, a8⟩, -, -, -, hX⟩ := h'
  by_cases e0 : x1 = 0
  · exact ⟨nI (A 0 0), σ, σ, ⟨by simp only [f_X8_rule, if_pos e0, a2.1], rfl⟩, by simp only [f_X9_rule, if_pos e0, a4], h⟩
  by_cases e1 : x1 = 1
  · refine ⟨nI (A 0 2), σ, σ, ⟨by simp only [f_X8_rule, if_neg e0, if_pos e1, a2.2.1], rfl⟩, ?_, h⟩
    obtain ⟨q1, q2⟩ := ps_42 a3
    simp only [f_X9_rule, if_neg e0, if_pos e1, if_pos q1, q2]
  by_cases e2 : x1 = 2
  · exact ⟨nI (A 0 1), σ, σ, ⟨by simp only [f_X8_rule, if_neg e0, if_neg e1, if_pos e2, a2.2.2.1], rfl⟩, by simp only [f_X9_rule, if_neg e0, if_neg e1, if_pos e2, a5], h⟩
  by_cases e3 : x1 = 3
  · refine ⟨nI (A 7 0), σ, σ, ⟨by simp only [f_X8_rule, if_neg e0, if_neg e1, if_neg e2, if_pos e3, a2.2.2.2.1], rfl⟩, ?_, h⟩
    have q1 : vz_in (40 : Int32) 305 := by decide
    have q2 : σ 109 (40 : Int32).toNatClampNeg = nI (A 7 0) := a3.1
    simp only [f_X9_rule, if_neg e0, if_neg e1, if_neg e2, if_pos e3, if_pos q1, q2]
  by_cases e4 : x1 = 4
  · refine ⟨nI (A 7 1), σ, σ, ⟨by simp only [f_X8_rule, if_neg e0, if_neg e1, if_neg e2, if_neg e3, if_pos e4, a2.2.2.2.2.1], rfl⟩, ?_, h⟩
    have q1 : vz_in (41 : Int32) 305 := by decide
    have q2 : σ 109 (41 : Int32).toNatClampNeg = nI (A 7 1) := a3.2.1
    simp only [f_X9_rule, if_neg e0, if_neg e1, if_neg e2, if_neg e3, if_pos e4, if_pos q1, q2]
  by_cases e5 : x1 = 5
  · obtain ⟨σ', s1, s2, s3⟩ := ps_po a1 (ps_E0 a3 a4 a5 hX) (by omega) (by omega)
    rw [show nI 0 = (0 : Int32) from rfl] at s1
    refine ⟨nI (ps_pairs A 0), σ, σ', ⟨?_, rfl⟩, ?_, ps_R_Q h (ps_Q_ln s3)⟩
    · simp only [f_X8_rule, if_neg e0, if_neg e1, if_neg e2, if_neg e3, if_neg e4, if_pos e5, ps_pr0 a1 a2, vz_b1]
    · simp only [f_X9_rule, if_neg e0, if_neg e1, if_neg e2, if_neg e3, if_neg e4, if_pos e5, s1, vz_b2]
  · exact ⟨-1, σ, σ, ⟨by simp only [f_X8_rule, if_neg e0, if_neg e1, if_neg e2, if_neg e3, if_neg e4, if_neg e5], rfl⟩, by simp only [f_X9_rule, if_neg e0, if_neg e1, if_neg e2, if_neg e3, if_neg e4, if_neg e5], h⟩
theorem ps_mc : ∀ k, k < 4 → ∃ j, f_X8_repeated 1 (nI (ps_pace k)) = some j ∧ f_J13_bitCount_95d88 j = nI (60 / ps_pace k) := by
  intro k hk
  have e : ∀ x : Int32, f_X8_repeated 1 x = f_X8_repeated_2 (999992 + 8) 1 x := fun x => rfl
  rw [e]
  rcases (show k = 0 ∨ k = 1 ∨ k = 2 ∨ k = 3 by omega) with rfl | rfl | rfl | rfl
  all_goals
    simp only [show 999992 + 8 = 999999 + 1 from rfl, show 999999 = 999998 + 1 from rfl, show 999998 = 999997 + 1 from rfl, show 999997 = 999996 + 1 from rfl, show 999996 = 999995 + 1 from rfl, show 999995 = 999994 + 1 from rfl, show 999994 = 999993 + 1 from rfl]
  · rw [f_X8_repeated_2_s, if_neg (by decide), if_neg (by decide), f_X8_repeated_2_s, if_neg (by decide), if_neg (by decide), f_X8_repeated_2_s, if_neg (by decide), if_neg (by decide), f_X8_repeated_2_s, if_neg (by decide), if_neg (by decide), f_X8_repeated_2_s, if_neg (by decide), if_neg (by decide), f_X8_repeated_2_s, if_neg (by decide), if_pos (by decide)]
    exact ⟨_, rfl, by decide⟩
  · rw [f_X8_repeated_2_s, if_neg (by decide), if_neg (by decide), f_X8_repeated_2_s, if_neg (by decide), if_neg (by decide), f_X8_repeated_2_s, if_neg (by decide), if_neg (by decide), f_X8_repeated_2_s, if_neg (by decide), if_neg (by decide), f_X8_repeated_2_s, if_neg (by decide), if_neg (by decide), f_X8_repeated_2_s, if_neg (by decide), if_neg (by decide), f_X8_repeated_2_s, if_neg (by decide), if_pos (by decide)]
    exact ⟨_, rfl, by decide⟩
  · rw [f_X8_repeated_2_s, if_neg (by decide), if_neg (by decide), f_X8_repeated_2_s, if_neg (by decide), if_neg (by decide), f_X8_repeated_2_s, if_neg (by decide), if_neg (by decide), f_X8_repeated_2_s, if_neg (by decide), if_neg (by decide), f_X8_repeated_2_s, if_neg (by decide), if_neg (by decide), f_X8_repeated_2_s, if_neg (by decide), if_pos (by decide)]
    exact ⟨_, rfl, by decide⟩
  · rw [f_X8_repeated_2_s, if_neg (by decide), if_neg (by decide), f_X8_repeated_2_s, if_neg (by decide), if_neg (by decide), f_X8_repeated_2_s, if_neg (by decide), if_neg (by decide), f_X8_repeated_2_s, if_neg (by decide), if_neg (by decide), f_X8_repeated_2_s, if_neg (by decide), if_pos (by decide)]
    exact ⟨_, rfl, by decide⟩
theorem sm_man : sim_man ps_R := by
  intro σ h x1 x2
  have h' := h
  obtain ⟨⟨A, a1, a2, a3, a4, a5, a6, a7, a8⟩, -, -, -, hX⟩ := h'
  have h4 := a1.1
  by_cases hc : 0 ≤ x1.toInt ∧ x1.toInt < A 0 0
  · obtain ⟨m, hm, rfl⟩ := ps_ofM hc
    obtain ⟨ok1, ok2, ok3, ok4, -⟩ := a1.2.2.2.2.2.1 m hm
    obtain ⟨g1, g2, g3, g4⟩ := a2.2.2.2.2.2.1 m hm
    obtain ⟨k1, k2, k3, k4⟩ := a3.2.2.2.1 m hm
    rw [show 0 + m = m by omega] at k1
    rw [show 0 + 4 + m = 4 + m by omega] at k2
    rw [show 0 + 8 + m = 8 + m by omega] at k3
    have hmY := ps_isManY a1 a4 hm
    have pc := ps_pace8 ok1 g1
    have po := ps_paceOn a1 (ps_E0 a3 a4 a5 hX) (by omega) hm
    rw [show nI 0 = (0 : Int32) from rfl] at po
    have hin : ∀ j, j < 20 → vz_in (nI j) 305 := fun j hj => (ps_in (by omega)).mpr (by omega)
    by_cases e0 : x2 = 0
    · refine ⟨nI (A 1 m), σ, σ, ⟨?_, rfl⟩, ⟨?_, rfl⟩, h⟩
      · simp only [f_X8_man, ps_manY a1 a2 hm, vz_b1, vz_mo, if_pos e0, g1]
      · simp only [f_X9_man, hmY, if_neg ps_10, if_pos e0, if_pos (hin m (by omega)), nI_clamp (show m < 2 ^ 31 by omega), k1]
    by_cases e1 : x2 = 1
    · refine ⟨nI (A 2 m), σ, σ, ⟨?_, rfl⟩, ⟨?_, rfl⟩, h⟩
      · simp only [f_X8_man, ps_manY a1 a2 hm, vz_b1, vz_mo, if_neg e0, if_pos e1, g2]
      · have e : (4 : Int32) + nI m = nI (4 + m) := nI_add 4 m
        simp only [f_X9_man, hmY, if_neg ps_10, if_neg e0, if_pos e1, e, if_pos (hin (4 + m) (by omega)), nI_clamp (show 4 + m < 2 ^ 31 by omega), k2]
    by_cases e2 : x2 = 2
    · refine ⟨nI (ps_pace (A 1 m)), σ, σ, ⟨?_, rfl⟩, ⟨?_, rfl⟩, h⟩
      · simp only [f_X8_man, ps_manY a1 a2 hm, vz_b1, vz_mo, if_neg e0, if_neg e1, if_pos e2, pc]
      · simp only [f_X9_man, hmY, if_neg ps_10, if_neg e0, if_neg e1, if_pos e2, po, vz_b1]
    by_cases e3 : x2 = 3
    · refine ⟨nI (A 3 m), σ, σ, ⟨?_, rfl⟩, ⟨?_, rfl⟩, h⟩
      · simp only [f_X8_man, ps_manY a1 a2 hm, vz_b1, vz_mo, if_neg e0, if_neg e1, if_neg e2, if_pos e3, g3]
      · have e : (8 : Int32) + nI m = nI (8 + m) := nI_add 8 m
        simp only [f_X9_man, hmY, if_neg ps_10, if_neg e0, if_neg e1, if_neg e2, if_pos e3, e, if_pos (hin (8 + m) (by omega)), nI_clamp (show 8 + m < 2 ^ 31 by omega), k3]
    by_cases e4 : x2 = 4
    · obtain ⟨j, j1, j2⟩ := ps_mc (A 1 m) ok1
      obtain ⟨p1, p2⟩ := ps_pace_pos (A 1 m)
      refine ⟨nI (60 / ps_pace (A 1 m)), σ, σ, ⟨?_, rfl⟩, ⟨?_, rfl⟩, h⟩
      · simp only [f_X8_man, ps_manY a1 a2 hm, vz_b1, vz_mo, if_neg e0, if_neg e1, if_neg e2, if_neg e3, if_pos e4, pc, j1, j2]
      · have e : (60 : Int32) / nI (ps_pace (A 1 m)) = nI (60 / ps_pace (A 1 m)) := pk_div (a := 60) (by omega) p1 (by omega)
        have hz : ¬ nI (ps_pace (A 1 m)) = 0 := nI_ne0 p1 (by omega)
        simp only [f_X9_man, hmY, if_neg ps_10, if_neg e0, if_neg e1, if_neg e2, if_neg e3, if_pos e4, po, vz_b1, if_neg hz, e]
    · refine ⟨-1, σ, σ, ⟨?_, rfl⟩, ⟨?_, rfl⟩, h⟩
      · simp only [f_X8_man, ps_manY a1 a2 hm, vz_b1, vz_mo, if_neg e0, if_neg e1, if_neg e2, if_neg e3, if_neg e4]
      · simp only [f_X9_man, hmY, if_neg ps_10, if_neg e0, if_neg e1, if_neg e2, if_neg e3, if_neg e4]
  · refine ⟨-1, σ, σ, ⟨?_, rfl⟩, ⟨?_, rfl⟩, h⟩
    · simp only [f_X8_man, ps_manN a1 a2 hc, vz_b1, vz_mo]
    · simp only [f_X9_man, ps_isMan a1 a4, if_neg hc, if_true]
theorem sm_at : sim_at ps_R := by
  intro σ h x1 x2
  have h' := h
  obtain ⟨⟨A, a1, a2, a3, a4, a5, a6, a7, a8⟩, -, -, -, hX⟩ := h'
  by_cases hc : 0 ≤ x1.toInt ∧ x1.toInt < A 0 0
  · obtain ⟨m, hm, rfl⟩ := ps_ofM hc
    have hmY := ps_isManY a1 a4 hm
    by_cases hd : 0 ≤ x2.toInt ∧ x2.toInt ≤ (59 : Nat)
    · have hd' := hd
      obtain ⟨t, ht, rfl⟩ := ps_ofL hd
      have q := ps_atOn (b := 0) a1 (ps_E0 a3 a4 a5 hX) (by omega) (by omega) hm (show t < 60 by omega) (by omega)
      rw [show nI 0 = (0 : Int32) from rfl, Nat.zero_testBit, if_neg (by decide)] at q
      refine ⟨ps_v (ps_at A m t 0), σ, σ, ⟨?_, rfl⟩, ⟨?_, rfl⟩, h⟩
      · simp only [f_X8_at, ps_manY a1 a2 hm, vz_b1, vz_mo, ps_t8, if_pos hd', if_neg ps_10, ps_ci a1 a2 hm (show t < 60 by omega)]
      · simp only [f_X9_at, hmY, if_neg ps_10, ps_t9, if_pos hd', q, vz_b1]
    · refine ⟨-1, σ, σ, ⟨?_, rfl⟩, ⟨?_, rfl⟩, h⟩
      · simp only [f_X8_at, ps_manY a1 a2 hm, vz_b1, vz_mo, ps_t8, if_neg hd, if_true]
      · simp only [f_X9_at, hmY, if_neg ps_10, ps_t9, if_neg hd, if_true]
  · refine ⟨-1, σ, σ, ⟨?_, rfl⟩, ⟨?_, rfl⟩, h⟩
    · simp only [f_X8_at, ps_manN a1 a2 hc, vz_b1, vz_mo]
    · simp only [f_X9_at, ps_isMan a1 a4, if_neg hc, if_true]
theorem ps_meet_l {A : ps_T} {σ : vz_I} {m q : Nat} (hok : ps_Ok A) (hC : ps_C A σ 21) (hE : ps_E A σ 0 0) (hm : m < A 0 0) (hq : q < A 0 0) : ∀ n t, t ≤ 60 → 60 - t < n → ∃ r, f_X8_meet_38 n (21 + 5 + 2 * m) (21 + 5 + 2 * q) (nI t) σ = some r ∧ f_X9_meet_25 n (nI m) (nI q) (nI t) σ = some r := by
  intro n
  induction n with
  | zero => intro t _ h; omega
  | succ n ih =>
    intro t ht hn
    rw [f_X8_meet_38_s, f_X9_meet_25_s]
    by_cases e : t = 60
    · subst e
      rw [if_pos (by decide), if_pos (by decide)]
      exact ⟨_, rfl, rfl⟩
    · have g : ¬ (60 : Int32) ≤ nI t := nI_ge (b := 60) (by omega) (by omega)
      have k1 := ps_atOn (b := 0) hok hE (by omega) (by omega) hm (show t < 60 by omega) (by omega)
      have k2 := ps_atOn (b := 0) hok hE (by omega) (by omega) hq (show t < 60 by omega) (by omega)
      rw [show nI 0 = (0 : Int32) from rfl, Nat.zero_testBit, if_neg (by decide)] at k1 k2
      rw [if_neg g, if_neg g, ps_ci hok hC hm (by omega), vz_b1, ps_ci hok hC hq (by omega), vz_b1, k1, vz_b1, k2, vz_b1, nI_1]
      obtain ⟨r, r1, r2⟩ := ih (t + 1) (by omega) (by omega)
      rw [r1, r2]
      by_cases z : ps_v (ps_at A m t 0) = -4
      · rw [if_pos z]
        exact ⟨r, rfl, rfl⟩
      · rw [if_neg z]
        by_cases y : ps_v (ps_at A m t 0) = ps_v (ps_at A q t 0)
        · rw [if_pos y]
          exact ⟨_, rfl, rfl⟩
        · rw [if_neg y]
          exact ⟨r, rfl, rfl⟩
theorem sm_meet : sim_meet ps_R := by
  intro σ h x1 x2
  have h' := h
  obtain ⟨⟨A, a1, a2, a3, a4, a5, a6, a7, a8⟩, -, -, -, hX⟩ := h'
  by_cases hc : 0 ≤ x1.toInt ∧ x1.toInt < A 0 0
  · obtain ⟨m, hm, rfl⟩ := ps_ofM hc
    have hmY := ps_isManY a1 a4 hm
    by_cases hd : 0 ≤ x2.toInt ∧ x2.toInt < A 0 0
    · obtain ⟨q, hq, rfl⟩ := ps_ofM hd
      have hqY := ps_isManY a1 a4 hq
      by_cases e : nI m = nI q
      · refine ⟨-1, σ, σ, ⟨?_, rfl⟩, ⟨?_, rfl⟩, h⟩
        · simp only [f_X8_meet, ps_manY a1 a2 hm, ps_manY a1 a2 hq, vz_b1, vz_mo, if_pos e]
        · simp only [f_X9_meet, hmY, hqY, if_neg ps_10, if_pos e]
      · obtain ⟨r, r1, r2⟩ := ps_meet_l a1 a2 (ps_E0 a3 a4 a5 hX) hm hq vz_fu 0 (by omega) (by have : vz_fu = 1000000 := rfl; omega)
        rw [show nI 0 = (0 : Int32) from rfl] at r1 r2
        refine ⟨r, σ, σ, ⟨?_, rfl⟩, ⟨?_, rfl⟩, h⟩
        · simp only [f_X8_meet, ps_manY a1 a2 hm, ps_manY a1 a2 hq, vz_b1, vz_mo, if_neg e, r1]
        · simp only [f_X9_meet, hmY, hqY, if_neg ps_10, if_neg e, r2]
    · refine ⟨-1, σ, σ, ⟨?_, rfl⟩, ⟨?_, rfl⟩, h⟩
      · simp only [f_X8_meet, ps_manY a1 a2 hm, ps_manN a1 a2 hd, vz_b1, vz_mo]
      · simp only [f_X9_meet, hmY, if_neg ps_10, ps_isMan a1 a4, if_neg hd, if_true]
  · refine ⟨-1, σ, σ, ⟨?_, rfl⟩, ⟨?_, rfl⟩, h⟩
    · by_cases hd : 0 ≤ x2.toInt ∧ x2.toInt < A 0 0
      · obtain ⟨q, hq, rfl⟩ := ps_ofM hd
        simp only [f_X8_meet, ps_manN a1 a2 hc, ps_manY a1 a2 hq, vz_b1, vz_mo]
      · simp only [f_X8_meet, ps_manN a1 a2 hc, ps_manN a1 a2 hd, vz_b1, vz_mo]
    · simp only [f_X9_meet, ps_isMan a1 a4, if_neg hc, if_true]
