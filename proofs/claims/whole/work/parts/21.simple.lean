/-! pure: frames of the relation's parts; the simple calls -/
theorem ps_10 : ¬ ((1 : Int32) = 0) := by decide
theorem ps_w0t {x : Int32} {n : Nat} (h : n < 2 ^ 30) (hc : 0 ≤ x.toInt ∧ x.toInt ≤ n) : f_X8_isWithin x 0 (nI n) = 1 := by rw [ps_w0 x h, if_pos hc]
theorem ps_w0f {x : Int32} {n : Nat} (h : n < 2 ^ 30) (hc : ¬ (0 ≤ x.toInt ∧ x.toInt ≤ n)) : f_X8_isWithin x 0 (nI n) = 0 := by rw [ps_w0 x h, if_neg hc]
theorem ps_i0t {x : Int32} {n : Nat} (h : n < 2 ^ 30) (hc : 0 ≤ x.toInt ∧ x.toInt ≤ n) : f_X9_in x.toInt64 0 (nI n).toInt64 = 1 := by rw [ps_i0 x h, if_pos hc]
theorem ps_i0f {x : Int32} {n : Nat} (h : n < 2 ^ 30) (hc : ¬ (0 ≤ x.toInt ∧ x.toInt ≤ n)) : f_X9_in x.toInt64 0 (nI n).toInt64 = 0 := by rw [ps_i0 x h, if_neg hc]
theorem ps_ilt {x : Int32} (n : Nat) (h : n < 2 ^ 30) (hc : 0 ≤ x.toInt ∧ x.toInt ≤ n) : f_X9_in x.toInt64 0 (lN n) = 1 := by rw [ps_il x h, if_pos hc]
theorem ps_ilf {x : Int32} (n : Nat) (h : n < 2 ^ 30) (hc : ¬ (0 ≤ x.toInt ∧ x.toInt ≤ n)) : f_X9_in x.toInt64 0 (lN n) = 0 := by rw [ps_il x h, if_neg hc]
def ps_town (σ : vz_I) : Prop := ∃ A, ps_Ok A ∧ ps_C A σ 21 ∧ ps_M A (σ 109) 0 ∧ σ 108 1 = nI (A 0 0) ∧ σ 108 2 = nI (A 0 1) ∧ ps_seen A σ ∧ ps_img A σ 0 ∧ ps_img A σ 1
theorem ps_seen_fr {A : ps_T} {σ σ' : vz_I} (h : ps_seen A σ) (hf : ∀ b, (57 ≤ b ∧ b ≤ 61) ∨ b = 117 → σ' b = σ b) (h108 : σ' 108 24 = σ 108 24) : ps_seen A σ' := by
  obtain ⟨n, h1, h2, h3, h4⟩ := h
  refine ⟨n, h1, by rw [hf 57 (by omega)]; exact h2, by rw [h108]; exact h3, fun i hi => ?_⟩
  rw [hf 58 (by omega), hf 59 (by omega), hf 60 (by omega), hf 61 (by omega), hf 117 (by omega)]
  exact h4 i hi
theorem ps_img_fr {A : ps_T} {σ σ' : vz_I} {k : Nat} (hk : k < 2) (h : ps_img A σ k) (hf : ∀ b, b = 56 ∨ (66 ≤ b ∧ b ≤ 99) ∨ b = 119 → σ' b = σ b) (hg : ∀ b, 61 ≤ b → b ≤ 182 → σ' 109 b = σ 109 b) : ps_img A σ' k := by
  rcases h with ⟨h1, h2⟩ | ⟨h1, h2, B, b1, b2, b3, b4, b5⟩
  · exact Or.inl ⟨by rw [hf 56 (by omega)]; exact h1, by rw [hf 119 (by omega)]; exact h2⟩
  · exact Or.inr ⟨by rw [hf 56 (by omega)]; exact h1, by rw [hf 119 (by omega)]; exact h2, B, b1, b2, b3, ps_C_fr b1 b4 (fun b q1 q2 => hf b (by omega)), ps_M_fr b1 b5 (fun b q1 q2 => hg b (by omega) (by omega))⟩
theorem ps_town_fr {σ σ' : vz_I} (h : ps_town σ) (hf : ∀ b, (21 ≤ b ∧ b ≤ 37) ∨ (56 ≤ b ∧ b ≤ 61) ∨ (66 ≤ b ∧ b ≤ 99) ∨ b = 109 ∨ b = 117 ∨ b = 119 → σ' b = σ b) (h108 : ∀ j, j = 1 ∨ j = 2 ∨ j = 24 → σ' 108 j = σ 108 j) : ps_town σ' := by
  obtain ⟨A, a1, a2, a3, a4, a5, a6, a7, a8⟩ := h
  refine ⟨A, a1, ps_C_fr a1 a2 (fun b q1 q2 => hf b (by omega)), ps_M_fr a1 a3 (fun b q1 q2 => by rw [hf 109 (by omega)]), by rw [h108 1 (by omega)]; exact a4, by rw [h108 2 (by omega)]; exact a5, ps_seen_fr a6 (fun b hb => hf b (by omega)) (h108 24 (by omega)), ?_, ?_⟩
  · exact ps_img_fr (by omega) a7 (fun b hb => hf b (by omega)) (fun b _ _ => by rw [hf 109 (by omega)])
  · exact ps_img_fr (by omega) a8 (fun b hb => hf b (by omega)) (fun b _ _ => by rw [hf 109 (by omega)])
theorem ps_tape_fr {σ σ' : vz_I} (h : ps_tape σ) (hf : ∀ b, b = 2 ∨ b = 3 ∨ b = 111 → σ' b = σ b) (h108 : σ' 108 8 = σ 108 8) : ps_tape σ' := by
  obtain ⟨n, h1, h2, h3, h4⟩ := h
  refine ⟨n, h1, by rw [hf 2 (by omega)]; exact h2, by rw [h108]; exact h3, fun i hi => ?_⟩
  rw [hf 3 (by omega), hf 111 (by omega)]
  exact h4 i hi
theorem ps_sheet_fr {σ σ' : vz_I} (h : ∀ k, k < 4 → ps_sheet σ k) (hf : ∀ b, (100 ≤ b ∧ b ≤ 107) ∨ (120 ≤ b ∧ b ≤ 122) → σ' b = σ b) : ∀ k, k < 4 → ps_sheet σ' k := by
  intro k hk
  obtain ⟨h1, h2, h3⟩ := h k hk
  unfold ps_sheet
  rw [hf (100 + 2 * k) (by omega), hf (101 + 2 * k) (by omega), hf 120 (by omega), hf 121 (by omega), hf 122 (by omega)]
  exact ⟨h1, h2, h3⟩
theorem ps_fix_fr {σ σ' : vz_I} (h : ps_fix σ) (hf : ∀ b, b = 112 ∨ b = 113 → σ' b = σ b) (h108 : σ' 108 18 = σ 108 18) : ps_fix σ' := by
  unfold ps_fix
  rw [hf 112 (by omega), hf 113 (by omega), h108]
  exact h
theorem ps_ft_fr {σ σ' : vz_I} (h : σ 1 7 = σ 108 9 ∧ σ 0 10 = σ 108 30) (h1 : σ' 1 7 = σ 1 7) (h2 : σ' 0 10 = σ 0 10) (h3 : σ' 108 9 = σ 108 9) (h4 : σ' 108 30 = σ 108 30) : σ' 1 7 = σ' 108 9 ∧ σ' 0 10 = σ' 108 30 := by
  rw [h1, h2, h3, h4]; exact h
theorem sm_end : sim_end ps_R := by
  intro σ h x1
  obtain ⟨hT, ⟨n, hn, t1, t2, t3⟩, hF, hS, hX⟩ := h
  have hb : n < 2 ^ 30 := by omega
  by_cases hc : 0 ≤ x1.toInt ∧ x1.toInt ≤ n
  · obtain ⟨j, hj, rfl⟩ := ps_ofL hc
    refine ⟨nI n, vz_up σ 2 0 (nI j), vz_up (vz_up σ 2 0 (nI j)) 108 8 (nI j), ?_, ?_, ?_, ?_, ?_, ?_, ?_⟩
    · simp only [f_X8_end, t1, ps_w0t hb hc, if_neg ps_10]
    · have e : (vz_up σ 2 0 (nI j)) 108 8 = nI n := by simp (disch := omega) only [vz_up_ne, t2]
      simp only [f_X9_end, e, ps_i0t hb hc, if_neg ps_10]
    · exact ps_town_fr hT (fun b hb => by simp (disch := omega) only [vz_up_ne]) (fun j hj => by simp (disch := omega) only [vz_up_ne, ps_upN])
    · refine ⟨j, by omega, by simp (disch := omega) only [vz_up_ne, ps_upS], by simp (disch := omega) only [ps_upS], fun i hi => ?_⟩
      obtain ⟨c, c1, c2, c3⟩ := t3 i (by omega)
      exact ⟨c, c1, by simp (disch := omega) only [vz_up_ne]; exact c2, by simp (disch := omega) only [vz_up_ne]; exact c3⟩
    · exact ps_ft_fr hF (by simp (disch := omega) only [vz_up_ne]) (by simp (disch := omega) only [vz_up_ne]) (by simp (disch := omega) only [vz_up_ne, ps_upN]) (by simp (disch := omega) only [vz_up_ne, ps_upN])
    · exact ps_sheet_fr hS (fun b hb => by simp (disch := omega) only [vz_up_ne])
    · exact ps_fix_fr hX (fun b hb => by simp (disch := omega) only [vz_up_ne]) (by simp (disch := omega) only [vz_up_ne, ps_upN])
  · refine ⟨-1, σ, σ, ?_, ?_, hT, ⟨n, hn, t1, t2, t3⟩, hF, hS, hX⟩
    · simp only [f_X8_end, t1, ps_w0f hb hc, if_true]
    · simp only [f_X9_end, t2, ps_i0f hb hc, if_true]
theorem sm_forget : sim_forget ps_R := by
  intro σ h x1
  obtain ⟨⟨A, a1, a2, a3, a4, a5, ⟨n, hn, s1, s2, s3⟩, a7, a8⟩, hP, hF, hS, hX⟩ := h
  have hb : n < 2 ^ 30 := by omega
  by_cases hc : 0 ≤ x1.toInt ∧ x1.toInt ≤ n
  · obtain ⟨j, hj, rfl⟩ := ps_ofL hc
    refine ⟨nI n, vz_up σ 57 0 (nI j), vz_up (vz_up σ 57 0 (nI j)) 108 24 (nI j), ?_, ?_, ⟨A, a1, ?_, ?_, ?_, ?_, ?_, ?_, ?_⟩, ?_, ?_, ?_, ?_⟩
    · simp only [f_X8_forget, s1, ps_w0t hb hc, if_neg ps_10]
    · have e : (vz_up σ 57 0 (nI j)) 108 24 = nI n := by simp (disch := omega) only [vz_up_ne, s2]
      simp only [f_X9_forget, e, ps_i0t hb hc, if_neg ps_10]
    · exact ps_C_fr a1 a2 (fun b _ _ => by simp (disch := omega) only [vz_up_ne])
    · simp (disch := omega) only [vz_up_ne]; exact a3
    · simp (disch := omega) only [vz_up_ne, ps_upN]; exact a4
    · simp (disch := omega) only [vz_up_ne, ps_upN]; exact a5
    · refine ⟨j, by omega, by simp (disch := omega) only [vz_up_ne, ps_upS], by simp (disch := omega) only [ps_upS], fun i hi => ?_⟩
      obtain ⟨r, w, t, k, q⟩ := s3 i (by omega)
      refine ⟨r, w, t, k, ?_⟩
      simp (disch := omega) only [vz_up_ne]
      exact q
    · exact ps_img_fr (by omega) a7 (fun b hb => by simp (disch := omega) only [vz_up_ne]) (fun b _ _ => by simp (disch := omega) only [vz_up_ne])
    · exact ps_img_fr (by omega) a8 (fun b hb => by simp (disch := omega) only [vz_up_ne]) (fun b _ _ => by simp (disch := omega) only [vz_up_ne])
    · exact ps_tape_fr hP (fun b hb => by simp (disch := omega) only [vz_up_ne]) (by simp (disch := omega) only [vz_up_ne, ps_upN])
    · exact ps_ft_fr hF (by simp (disch := omega) only [vz_up_ne]) (by simp (disch := omega) only [vz_up_ne]) (by simp (disch := omega) only [vz_up_ne, ps_upN]) (by simp (disch := omega) only [vz_up_ne, ps_upN])
    · exact ps_sheet_fr hS (fun b hb => by simp (disch := omega) only [vz_up_ne])
    · exact ps_fix_fr hX (fun b hb => by simp (disch := omega) only [vz_up_ne]) (by simp (disch := omega) only [vz_up_ne, ps_upN])
  · refine ⟨-1, σ, σ, ?_, ?_, ⟨A, a1, a2, a3, a4, a5, ⟨n, hn, s1, s2, s3⟩, a7, a8⟩, hP, hF, hS, hX⟩
    · simp only [f_X8_forget, s1, ps_w0f hb hc, if_true]
    · simp only [f_X9_forget, s2, ps_i0f hb hc, if_true]
theorem ps_int8 : ∀ c, c < 128 → (nI c).toInt8.toInt32.toInt8.toInt32 = nI c := by decide +kernel
theorem sm_feed : sim_feed ps_R := by
  intro σ h x1
  obtain ⟨hT, ⟨n, hn, t1, t2, t3⟩, hF, hS, hX⟩ := h
  have h127 : (127 : Int32) = nI 127 := rfl
  have h127l : (127 : Int64) = lN 127 := rfl
  by_cases hc : 0 ≤ x1.toInt ∧ x1.toInt ≤ (127 : Nat)
  · obtain ⟨j, hj, rfl⟩ := ps_ofL hc
    by_cases hf : n = 160
    · refine ⟨-3, σ, σ, ?_, ?_, hT, ⟨n, hn, t1, t2, t3⟩, hF, hS, hX⟩
      · subst hf
        simp only [f_X8_feed, h127, ps_w0t (show 127 < 2 ^ 30 by decide) hc, if_neg ps_10, f_X5_append, t1]
        rfl
      · subst hf
        simp only [f_X9_feed, h127l, ps_ilt 127 (by decide) hc, if_neg ps_10, t2]
        rfl
    · have hlt : nI n < (160 : Int32) := (nI_ltI (by omega) (by decide)).mpr (show n < 160 by omega)
      have hne : ¬ nI n = (160 : Int32) := fun e => hf ((nI_eq (by omega) (by decide)).mp e)
      have hin : vz_in (nI n) 160 := (ps_in (by omega)).mpr (by omega)
      refine ⟨nI (n + 1), vz_up (vz_up σ 3 n (nI j)) 2 0 (nI (n + 1)), vz_up (vz_up (vz_up (vz_up σ 3 n (nI j)) 2 0 (nI (n + 1))) 111 n (nI j)) 108 8 (nI (n + 1)), ?_, ?_, ?_, ?_, ?_, ?_, ?_⟩
      · simp only [f_X8_feed, h127, ps_w0t (show 127 < 2 ^ 30 by decide) hc, if_neg ps_10, f_X5_append, t1, if_pos hlt, if_pos hin, vz_let, vz_b2, nI_clamp (show n < 2 ^ 31 by omega), ps_int8 j (by omega)]
        simp (disch := omega) only [vz_up_ne, t1, nI_1, ps_upS]
      · have e : (vz_up (vz_up σ 3 n (nI j)) 2 0 (nI (n + 1))) 108 8 = nI n := by simp (disch := omega) only [vz_up_ne, t2]
        simp only [f_X9_feed, h127l, ps_ilt 127 (by decide) hc, if_neg ps_10, e, if_neg hne, if_pos hin, vz_let, nI_clamp (show n < 2 ^ 31 by omega)]
        simp (disch := omega) only [vz_up_ne, t2, nI_1, ps_upS]
      · exact ps_town_fr hT (fun b hb => by simp (disch := omega) only [vz_up_ne]) (fun j hj => by simp (disch := omega) only [vz_up_ne, ps_upN])
      · refine ⟨n + 1, by omega, by simp (disch := omega) only [vz_up_ne, ps_upS], by simp (disch := omega) only [ps_upS], fun i hi => ?_⟩
        by_cases hin2 : i = n
        · subst hin2
          exact ⟨j, by omega, by simp (disch := omega) only [vz_up_ne, ps_upS], by simp (disch := omega) only [vz_up_ne, ps_upS]⟩
        · obtain ⟨c, c1, c2, c3⟩ := t3 i (by omega)
          exact ⟨c, c1, by simp (disch := omega) only [vz_up_ne, ps_upN]; exact c2, by simp (disch := omega) only [vz_up_ne, ps_upN]; exact c3⟩
      · exact ps_ft_fr hF (by simp (disch := omega) only [vz_up_ne]) (by simp (disch := omega) only [vz_up_ne]) (by simp (disch := omega) only [vz_up_ne, ps_upN]) (by simp (disch := omega) only [vz_up_ne, ps_upN])
      · exact ps_sheet_fr hS (fun b hb => by simp (disch := omega) only [vz_up_ne])
      · exact ps_fix_fr hX (fun b hb => by simp (disch := omega) only [vz_up_ne]) (by simp (disch := omega) only [vz_up_ne, ps_upN])
  · refine ⟨-1, σ, σ, ?_, ?_, hT, ⟨n, hn, t1, t2, t3⟩, hF, hS, hX⟩
    · simp only [f_X8_feed, h127, ps_w0f (show 127 < 2 ^ 30 by decide) hc, if_true]
    · simp only [f_X9_feed, h127l, ps_ilf 127 (by decide) hc, if_true]
