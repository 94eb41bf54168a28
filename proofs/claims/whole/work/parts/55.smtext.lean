/-! pure: text agrees -/
theorem pl_126 : ∀ (n i : Nat) (x : Int32) (σ : vz_I), i ≤ 61 → 61 - i < n → ∃ σ', f_X9_text_126 n x (nI i) σ = some (x, σ') ∧ (∀ b, b ≠ 108 → b ≠ 109 → b ≠ 119 → σ' b = σ b) ∧ (∀ k, (k < i ∨ 61 ≤ k) → σ' 109 k = σ 109 k) ∧ (∀ k, i ≤ k → k < 61 → σ' 109 k = σ 110 k) ∧ σ' 108 1 = σ 108 4 ∧ σ' 108 2 = σ 108 5 ∧ σ' 108 24 = 0 ∧ (∀ j, j ≠ 1 → j ≠ 2 → j ≠ 24 → σ' 108 j = σ 108 j) ∧ σ' 119 0 = 0 ∧ σ' 119 1 = 0 := by
  intro n
  induction n with
  | zero => intro i x σ _ h; omega
  | succ n ih =>
    intro i x σ hi hn
    rw [f_X9_text_126_s]
    by_cases e : i = 61
    · subst e
      have c0 : (0 : Int32).toNatClampNeg = 0 := rfl
      have c1 : (1 : Int32).toNatClampNeg = 1 := rfl
      have z : (0 : Int32) &&& 1 = 0 := rfl
      rw [if_pos (show (61 : Int32) ≤ nI 61 by decide), vz_let, if_pos (by decide), vz_let, if_pos (by decide), c0, c1, z]
      refine ⟨_, rfl, fun b h1 h2 h3 => ?_, fun k hk => ?_, fun k h1 h2 => by omega, ?_, ?_, ?_, fun j h1 h2 h3 => ?_, ?_, ?_⟩
      · simp (disch := omega) only [vz_up_ne]
      · simp (disch := omega) only [vz_up_ne]
      · simp (disch := omega) only [vz_up_ne, ps_upN, ps_upS]
      · simp (disch := omega) only [vz_up_ne, ps_upN, ps_upS]
      · simp (disch := omega) only [vz_up_ne, ps_upN, ps_upS]
      · simp (disch := omega) only [vz_up_ne, ps_upN]
      · simp (disch := omega) only [ps_upN, ps_upS]
      · simp (disch := omega) only [ps_upS]
    · rw [if_neg (show ¬ (61 : Int32) ≤ nI i from nI_ge (b := 61) (by omega) (by omega)), if_pos ((ps_in (by omega)).mpr (by omega)), if_pos ((ps_in (by omega)).mpr (by omega)), nI_1, nI_clamp (by omega)]
      obtain ⟨σ', q1, q2, q3, q4, q5, q6, q7, q8, q9, q10⟩ := ih (i + 1) x (vz_up σ 109 i (σ 110 i)) (by omega) (by omega)
      refine ⟨σ', q1, fun b h1 h2 h3 => by rw [q2 b h1 h2 h3, vz_up_ne _ _ _ h2], fun k hk => by rw [q3 k (by omega), ps_upN _ _ (by omega)], fun k h1 h2 => ?_, ?_, ?_, q7, fun j h1 h2 h3 => by rw [q8 j h1 h2 h3, vz_up_ne _ _ _ (by omega)], q9, q10⟩
      · by_cases z : k = i
        · subst z
          rw [q3 k (by omega), ps_upS]
        · rw [q4 k (by omega) h2, vz_up_ne _ _ _ (by omega)]
      · rw [q5, vz_up_ne _ _ _ (by omega)]
      · rw [q6, vz_up_ne _ _ _ (by omega)]
theorem pl_60 (x : Int32) (σ : vz_I) : ∃ σ', f_X8_text_60 vz_fu x 0 σ = some (x, σ') ∧ (∀ b, b ≠ 56 → σ' b = σ b) ∧ σ' 56 0 = 0 ∧ σ' 56 1 = 0 := by
  have z : (0 : Int32) &&& 1 = 0 := rfl
  have c0 : (0 : Int32).toNatClampNeg = 0 := rfl
  have c1 : (0 + 1 : Int32).toNatClampNeg = 1 := rfl
  rw [show vz_fu = 999997 + 1 + 1 + 1 from rfl, f_X8_text_60_s, if_neg (by decide), if_pos (by decide), f_X8_text_60_s, if_neg (by decide), if_pos (by decide), f_X8_text_60_s, if_pos (by decide), z, c0, c1]
  exact ⟨_, rfl, fun b hb => by simp (disch := omega) only [vz_up_ne], by simp (disch := omega) only [ps_upN, ps_upS], ps_upS _ _ _ _⟩
theorem pl_96B {σ : vz_I} {c s : Nat} {x : Int32} (h : pt_BR c s σ) : f_X9_text_96 x σ = some ((-10 : Int32) - nI s, vz_up (vz_up σ 108 8 0) 108 9 (nI c)) := by
  have e1 : (vz_up σ 108 8 0) 108 10 = nI c := by rw [ps_upN _ _ (by omega)]; exact h.2.2.1
  have e2 : (vz_up (vz_up σ 108 8 0) 108 9 (nI c)) 108 10 = nI c := by rw [ps_upN _ _ (by omega)]; exact e1
  have e3 : (vz_up (vz_up σ 108 8 0) 108 9 (nI c)) 108 11 = nI s := by rw [ps_upN _ _ (by omega), ps_upN _ _ (by omega)]; exact h.2.2.2
  unfold f_X9_text_96
  rw [vz_let, e1, e2, if_neg (nI_nle h.1 (by have := h.2.1; omega)), e3]
theorem pl_96G {σ : vz_I} {x : Int32} (h : σ 108 10 = 0) : f_X9_text_96 x σ = f_X9_text_126 vz_fu x (nI 0) (vz_up (vz_up σ 108 8 0) 108 9 0) := by
  have e1 : (vz_up σ 108 8 0) 108 10 = 0 := by rw [ps_upN _ _ (by omega)]; exact h
  have e2 : (vz_up (vz_up σ 108 8 0) 108 9 0) 108 10 = 0 := by rw [ps_upN _ _ (by omega)]; exact e1
  unfold f_X9_text_96
  rw [vz_let, e1, e2, if_pos (by decide), show nI 0 = (0 : Int32) from rfl]
theorem sm_text : sim_text ps_R := by
  intro σ h
  obtain ⟨⟨A, a1, a2, a3, a4, a5, a6, a7, a8⟩, ⟨n, hn, t1, t2, t3⟩, hF, hS, hX⟩ := h
  have T8 : pt_T8 n (fun i => (σ 3 i).toNatClampNeg) σ := ⟨hn, t1, fun i hi => by
    obtain ⟨c, c1, c2, c3⟩ := t3 i hi
    have e : (σ 3 i).toNatClampNeg = c := by rw [c2, nI_clamp (by omega)]
    show (σ 3 i).toNatClampNeg < 128 ∧ σ 3 i = nI (σ 3 i).toNatClampNeg
    rw [e]
    exact ⟨c1, c2⟩⟩
  have T9 : pt_T9 n (fun i => (σ 3 i).toNatClampNeg) σ := ⟨hn, t2, fun i hi => by
    obtain ⟨c, c1, c2, c3⟩ := t3 i hi
    have e : (σ 3 i).toNatClampNeg = c := by rw [c2, nI_clamp (by omega)]
    show (σ 3 i).toNatClampNeg < 128 ∧ σ 111 i = nI (σ 3 i).toNatClampNeg
    rw [e]
    exact ⟨c1, c3⟩⟩
  have K : ∀ σ1 : vz_I, (∀ b, 108 ≤ b → σ1 b = σ b) → pt_T9 n (fun i => (σ 3 i).toNatClampNeg) σ1 ∧ ps_fix σ1 := fun σ1 hf => ⟨pt_T9_fr T9 (by rw [hf 108 (by omega)]) (hf 111 (by omega)), ps_fix_fr hX (fun b hb => hf b (by omega)) (by rw [hf 108 (by omega)])⟩
  obtain ⟨r, x8, y9, E, F8, G9, res⟩ := pl_all T8 T9 hX
  rcases res with ⟨hr, -⟩ | ⟨A1, l, hok1, hl, hr, eC1, e71, -⟩
  · have E8 : f_X8_text σ = some ((-10 : Int32) - x8 1 8, vz_up x8 2 0 0) := by
      unfold f_X8_text
      rw [E, vz_b2, if_pos hr, vz_up_ne _ _ _ (show (1 : Nat) ≠ 2 by omega)]
    have S1 : ∀ b, b ≠ 1 → b ≠ 2 → (b < 4 ∨ 20 < b) → (vz_up x8 2 0 0) b = σ b := fun b h1 h2 h3 => by rw [vz_up_ne _ _ _ h2, F8 b h1 h3]
    obtain ⟨T9', hX'⟩ := K (vz_up x8 2 0 0) (fun b hb => S1 b (by omega) (by omega) (by omega))
    obtain ⟨r', x8', z9, E', F8', G9', res'⟩ := pl_all T8 T9' hX'
    obtain ⟨e1, e2⟩ : r = r' ∧ x8 = x8' := by
      rw [E] at E'
      injection E' with q
      injection q with q1 q2
      exact ⟨q1, q2⟩
    subst e1 e2
    rcases res' with ⟨-, c, s, x, hA, hB, E9⟩ | ⟨A2, l2, -, hl2, hr2, -⟩
    · rw [hA.2.2.2] at E8
      rw [pl_96B hB] at E9
      obtain ⟨gA, gB, gC⟩ := G9'
      have U1 : ∀ b, b ≠ 1 → b ≠ 2 → (b < 4 ∨ 20 < b) → b ≠ 108 → b ≠ 109 → b ≠ 110 → (vz_up (vz_up z9 108 8 0) 108 9 (nI c)) b = σ b := fun b h1 h2 h3 h4 h5 h6 => by rw [vz_up_ne _ _ _ h4, vz_up_ne _ _ _ h4, gA b h4 h5 h6, S1 b h1 h2 h3]
      have U2 : ∀ k, k < 244 → (vz_up (vz_up z9 108 8 0) 108 9 (nI c)) 109 k = σ 109 k := fun k hk => by rw [vz_up_ne _ _ _ (by omega), vz_up_ne _ _ _ (by omega), gB k hk, S1 109 (by omega) (by omega) (by omega)]
      have U3 : ∀ j, j ≠ 8 → j ≠ 9 → (j < 4 ∨ 6 < j) → (j < 10 ∨ 15 < j) → (vz_up (vz_up z9 108 8 0) 108 9 (nI c)) 108 j = σ 108 j := fun j h1 h2 h3 h4 => by rw [ps_upN _ _ h2, ps_upN _ _ h1, gC j h3 h4, S1 108 (by omega) (by omega) (by omega)]
      refine ⟨_, _, _, E8, E9, ⟨A, a1, ?_, ?_, ?_, ?_, ?_, ?_, ?_⟩, ?_, ?_, ?_, ?_⟩
      · exact ps_C_fr a1 a2 (fun b q1 q2 => U1 b (by omega) (by omega) (by omega) (by omega) (by omega) (by omega))
      · exact ps_M_fr a1 a3 (fun b q1 q2 => U2 b (by omega))
      · rw [U3 1 (by omega) (by omega) (by omega) (by omega)]; exact a4
      · rw [U3 2 (by omega) (by omega) (by omega) (by omega)]; exact a5
      · exact ps_seen_fr a6 (fun b hb => U1 b (by omega) (by omega) (by omega) (by omega) (by omega) (by omega)) (U3 24 (by omega) (by omega) (by omega) (by omega))
      · exact ps_img_fr (by omega) a7 (fun b hb => U1 b (by omega) (by omega) (by omega) (by omega) (by omega) (by omega)) (fun b _ _ => U2 b (by omega))
      · exact ps_img_fr (by omega) a8 (fun b hb => U1 b (by omega) (by omega) (by omega) (by omega) (by omega) (by omega)) (fun b _ _ => U2 b (by omega))
      · refine ⟨0, by omega, ?_, ?_, fun i hi => by omega⟩
        · rw [vz_up_ne _ _ _ (by omega), vz_up_ne _ _ _ (by omega), gA 2 (by omega) (by omega) (by omega), ps_upS]; rfl
        · rw [ps_upN _ _ (by omega), ps_upS]; rfl
      · refine ⟨?_, ?_⟩
        · rw [ps_upS, vz_up_ne _ _ _ (by omega), vz_up_ne _ _ _ (by omega), gA 1 (by omega) (by omega) (by omega), vz_up_ne _ _ _ (by omega)]; exact hA.2.2.1
        · rw [U1 0 (by omega) (by omega) (by omega) (by omega) (by omega) (by omega), U3 30 (by omega) (by omega) (by omega) (by omega)]; exact hF.2
      · exact ps_sheet_fr hS (fun b hb => U1 b (by omega) (by omega) (by omega) (by omega) (by omega) (by omega))
      · exact ps_fix_fr hX (fun b hb => U1 b (by omega) (by omega) (by omega) (by omega) (by omega) (by omega)) (U3 18 (by omega) (by omega) (by omega) (by omega))
    · exact absurd (hr2.symm.trans hr) (ps_n4 (by omega))
  · have eC3 : ∀ B, ps_Ok B → ps_C B x8 4 → ps_C B (vz_up x8 2 0 0) 4 := fun B hB hC => ps_C_fr hB hC (fun b h1 h2 => vz_up_ne _ _ _ (by omega))
    obtain ⟨x7, k1, k2, k3⟩ := ps_copy (T := 21) hok1 (eC3 A1 hok1 eC1) (by omega)
    obtain ⟨s1, p1, p2, p3, p4⟩ := pl_60 r (vz_up x7 57 0 0)
    have E8 : f_X8_text σ = some (r, s1) := by
      unfold f_X8_text
      rw [E, vz_b2, if_neg (show ¬ r = (-4 : Int32) by rw [hr]; exact ps_n4 (by omega)), k1, vz_b1, p1]
    have S1 : ∀ b, b ≠ 1 → b ≠ 2 → (b < 4 ∨ 20 < b) → (b < 21 ∨ 37 < b) → b ≠ 56 → b ≠ 57 → s1 b = σ b := fun b h1 h2 h3 h4 h5 h6 => by rw [p2 b h5, vz_up_ne _ _ _ h6, k3 b (by omega), vz_up_ne _ _ _ h2, F8 b h1 h3]
    obtain ⟨T9', hX'⟩ := K s1 (fun b hb => S1 b (by omega) (by omega) (by omega) (by omega) (by omega) (by omega))
    obtain ⟨r', x8', z9, E', F8', G9', res'⟩ := pl_all T8 T9' hX'
    obtain ⟨e1, e2⟩ : r = r' ∧ x8 = x8' := by
      rw [E] at E'
      injection E' with q
      injection q with q1 q2
      exact ⟨q1, q2⟩
    subst e1 e2
    rcases res' with ⟨hr2, -⟩ | ⟨A2, l2, hok2, hl2, hr2, eC2, e72, eM2, m4, m5, u1, E9⟩
    · exact absurd (hr.symm.trans hr2) (ps_n4 (by omega))
    · obtain ⟨x7', j1, j2, j3⟩ := ps_copy (T := 21) hok2 (eC3 A2 hok2 eC2) (by omega)
      obtain rfl : x7 = x7' := by
        rw [k1] at j1
        injection j1
      rw [← hr2, pl_96G u1] at E9
      obtain ⟨U, q1, q2, q3, q4, q5, q6, q7, q8, q9, q10⟩ := pl_126 vz_fu 0 r (vz_up (vz_up z9 108 8 0) 108 9 0) (by omega) (by have : vz_fu = 1000000 := rfl; omega)
      rw [q1] at E9
      obtain ⟨gA, gB, gC⟩ := G9'
      have U0 : ∀ b, b ≠ 108 → b ≠ 109 → b ≠ 110 → b ≠ 119 → U b = s1 b := fun b h1 h2 h3 h4 => by rw [q2 b h1 h2 h4, vz_up_ne _ _ _ h1, vz_up_ne _ _ _ h1, gA b h1 h2 h3]
      have U1 : ∀ b, b ≠ 1 → b ≠ 2 → (b < 4 ∨ 20 < b) → (b < 21 ∨ 37 < b) → b ≠ 56 → b ≠ 57 → b ≠ 108 → b ≠ 109 → b ≠ 110 → b ≠ 119 → U b = σ b := fun b h1 h2 h3 h4 h5 h6 h7 h8 h9 h10 => by rw [U0 b h7 h8 h9 h10, S1 b h1 h2 h3 h4 h5 h6]
      have s2 : ∀ b, b ≠ 56 → b ≠ 57 → s1 b = x7 b := fun b h1 h2 => by rw [p2 b h1, vz_up_ne _ _ _ h2]
      refine ⟨r, s1, U, E8, E9, ⟨A2, hok2, ?_, ?_, ?_, ?_, ?_, ?_, ?_⟩, ?_, ?_, ?_, ?_⟩
      · exact ps_C_fr hok2 j2 (fun b h1 h2 => by rw [U0 b (by omega) (by omega) (by omega) (by omega), s2 b (by omega) (by omega)])
      · exact ps_M_fr hok2 eM2 (fun b h1 h2 => by rw [q4 b (by omega) (by omega), vz_up_ne _ _ _ (by omega), vz_up_ne _ _ _ (by omega)])
      · rw [q5, ps_upN _ _ (by omega), ps_upN _ _ (by omega)]; exact m4
      · rw [q6, ps_upN _ _ (by omega), ps_upN _ _ (by omega)]; exact m5
      · refine ⟨0, by omega, ?_, q7, fun i hi => by omega⟩
        rw [U0 57 (by omega) (by omega) (by omega) (by omega), p2 57 (by omega), ps_upS]; rfl
      · exact Or.inl ⟨by rw [U0 56 (by omega) (by omega) (by omega) (by omega)]; exact p3, q9⟩
      · exact Or.inl ⟨by rw [U0 56 (by omega) (by omega) (by omega) (by omega)]; exact p4, q10⟩
      · refine ⟨0, by omega, ?_, ?_, fun i hi => by omega⟩
        · rw [U0 2 (by omega) (by omega) (by omega) (by omega), s2 2 (by omega) (by omega), k3 2 (by omega), ps_upS]; rfl
        · rw [q8 8 (by omega) (by omega) (by omega), ps_upN _ _ (by omega), ps_upS]; rfl
      · refine ⟨?_, ?_⟩
        · rw [U0 1 (by omega) (by omega) (by omega) (by omega), s2 1 (by omega) (by omega), k3 1 (by omega), vz_up_ne _ _ _ (by omega), e72, q8 9 (by omega) (by omega) (by omega), ps_upS]
        · rw [U1 0 (by omega) (by omega) (by omega) (by omega) (by omega) (by omega) (by omega) (by omega) (by omega) (by omega), q8 30 (by omega) (by omega) (by omega), ps_upN _ _ (by omega), ps_upN _ _ (by omega), gC 30 (by omega) (by omega), S1 108 (by omega) (by omega) (by omega) (by omega) (by omega) (by omega)]; exact hF.2
      · exact ps_sheet_fr hS (fun b hb => U1 b (by omega) (by omega) (by omega) (by omega) (by omega) (by omega) (by omega) (by omega) (by omega) (by omega))
      · refine ps_fix_fr hX (fun b hb => U1 b (by omega) (by omega) (by omega) (by omega) (by omega) (by omega) (by omega) (by omega) (by omega) (by omega)) ?_
        rw [q8 18 (by omega) (by omega) (by omega), ps_upN _ _ (by omega), ps_upN _ _ (by omega), gC 18 (by omega) (by omega), S1 108 (by omega) (by omega) (by omega) (by omega) (by omega) (by omega)]
