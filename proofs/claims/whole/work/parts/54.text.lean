/-! pure: text -/
def pl_0 : ps_T := fun _ _ => 0
theorem pl_Ok0 : ps_Ok pl_0 := ⟨by show 0 ≤ 4; omega, by show 0 ≤ 4; omega, by show 0 ≤ 9; omega, by show 0 < 60; omega, by show 0 < 60; omega, fun m (h : m < 0) => absurd h (by omega), fun r (h : r < 0) => absurd h (by omega), fun i (h : i < 0) => absurd h (by omega)⟩
theorem pl_all8 (σ : vz_I) : f_X6_readAll σ = vz_b2 (f_X6_readToken (vz_up (vz_up (vz_up (vz_up (vz_up (vz_up (vz_up (vz_up σ 1 7 0) 1 2 0) 1 6 0) 4 0 0) 4 1 0) 4 2 0) 4 3 0) 4 4 0)) (fun v4 σ5 => f_X6_readAll_29 vz_fu (0 : Int32) v4 σ5) := rfl
theorem pl_s8 {n : Nat} {C : Nat → Nat} {σ : vz_I} (hT : pt_T8 n C σ) : pl_8 n C pl_0 0 0 (vz_up (vz_up (vz_up (vz_up (vz_up (vz_up (vz_up (vz_up σ 1 7 0) 1 2 0) 1 6 0) 4 0 0) 4 1 0) 4 2 0) 4 3 0) 4 4 0) ∧ pl_F8 σ (vz_up (vz_up (vz_up (vz_up (vz_up (vz_up (vz_up (vz_up σ 1 7 0) 1 2 0) 1 6 0) 4 0 0) 4 1 0) 4 2 0) 4 3 0) 4 4 0) := by
  have F : pl_F8 σ (vz_up (vz_up (vz_up (vz_up (vz_up (vz_up (vz_up (vz_up σ 1 7 0) 1 2 0) 1 6 0) 4 0 0) 4 1 0) 4 2 0) 4 3 0) 4 4 0) := fun b h1 h2 => by simp (disch := omega) only [vz_up_ne]
  refine ⟨⟨pl_T8 hT F, Nat.zero_le _, ?_, ?_, ?_, ?_, ?_, ?_, ?_, ?_, fun m (h : m < 0) => absurd h (by omega), fun r (h : r < 0) => absurd h (by omega), fun i (h : i < 0) => absurd h (by omega)⟩, F⟩
  · simp (disch := omega) only [vz_up_ne, ps_upN, ps_upS]; rfl
  · simp (disch := omega) only [vz_up_ne, ps_upN, ps_upS]; rfl
  · simp (disch := omega) only [vz_up_ne, ps_upN, ps_upS]
  · simp (disch := omega) only [ps_upN, ps_upS]; rfl
  · simp (disch := omega) only [ps_upN, ps_upS]; rfl
  · simp (disch := omega) only [ps_upN, ps_upS]; rfl
  · simp (disch := omega) only [ps_upN, ps_upS]; rfl
  · simp (disch := omega) only [ps_upN, ps_upS]; rfl
theorem pl_t29 : ∀ (n i : Nat) (σ : vz_I), i ≤ 61 → 61 - i < n → ∃ σ', f_X9_text_29 n 0 (nI i) σ = vz_b1 (f_X9_step σ') (fun σ6 => f_X9_text_52 vz_fu 0 σ6) ∧ (∀ b, b ≠ 110 → σ' b = σ b) ∧ (∀ k, k < i → σ' 110 k = σ 110 k) ∧ (∀ k, i ≤ k → k < 61 → σ' 110 k = 0) := by
  intro n
  induction n with
  | zero => intro i σ _ h; omega
  | succ n ih =>
    intro i σ hi hn
    rw [f_X9_text_29_s]
    by_cases e : i = 61
    · subst e
      rw [if_pos (show (61 : Int32) ≤ nI 61 by decide)]
      exact ⟨σ, rfl, fun _ _ => rfl, fun _ _ => rfl, fun k h1 h2 => by omega⟩
    · rw [if_neg (show ¬ (61 : Int32) ≤ nI i from nI_ge (b := 61) (by omega) (by omega)), if_pos ((ps_in (by omega)).mpr (by omega)), nI_1, nI_clamp (by omega)]
      obtain ⟨σ', q1, q2, q3, q4⟩ := ih (i + 1) (vz_up σ 110 i 0) (by omega) (by omega)
      refine ⟨σ', q1, fun b hb => by rw [q2 b hb, vz_up_ne _ _ _ hb], fun k hk => by rw [q3 k (by omega), ps_upN _ _ (by omega)], fun k h1 h2 => ?_⟩
      by_cases z : k = i
      · subst z
        rw [q3 k (by omega), ps_upS]
      · exact q4 k (by omega) h2
theorem pl_s9 {n : Nat} {C : Nat → Nat} {τ : vz_I} (hT : pt_T9 n C τ) (hX : ps_fix τ) : ∃ τ', f_X9_text τ = f_X9_text_52 vz_fu (nI 0) τ' ∧ pl_9 n C pl_0 0 0 τ' ∧ pl_F9 τ τ' := by
  obtain ⟨τ1, q1, q2, q3, q4⟩ := pl_t29 vz_fu 0 (vz_up (vz_up (vz_up (vz_up (vz_up τ 108 10 0) 108 12 0) 108 4 0) 108 5 0) 108 6 0) (by omega) (by have : vz_fu = 1000000 := rfl; omega)
  have F1 : pl_F9 τ τ1 := ⟨fun b h1 h2 => by rw [q2 b h2]; simp (disch := omega) only [vz_up_ne], fun j h1 h2 => by rw [q2 108 (by omega)]; simp (disch := omega) only [ps_upN]⟩
  obtain ⟨τ', s1, s2, s3⟩ := pt_tk9 (p := 0) (pl_T9 hT F1) (by rw [q2 108 (by omega)]; simp (disch := omega) only [ps_upN, ps_upS]; rfl) (by rw [q2 108 (by omega)]; simp (disch := omega) only [ps_upN, ps_upS]) (Nat.zero_le _)
  have F2 := pl_F9_trans F1 (pl_F9_of s3)
  refine ⟨τ', ?_, ⟨pl_T9 hT F2, s2, ⟨?_, ?_, ?_, fun m (h : m < 0) => absurd h (by omega), fun r (h : r < 0) => absurd h (by omega), fun i (h : i < 0) => absurd h (by omega)⟩, ?_, ?_, ?_, pl_X9 hX F2⟩, F2⟩
  · have e : f_X9_text τ = f_X9_text_29 vz_fu 0 (nI 0) (vz_up (vz_up (vz_up (vz_up (vz_up τ 108 10 0) 108 12 0) 108 4 0) 108 5 0) 108 6 0) := by
      unfold f_X9_text
      rw [vz_let, show nI 0 = (0 : Int32) from rfl]
    rw [e, q1, s1, vz_b1]
    rfl
  · rw [s3.1 110 (by omega), q4 _ (by omega) (by omega)]; rfl
  · rw [s3.1 110 (by omega), q4 _ (by omega) (by omega)]; rfl
  · rw [s3.1 110 (by omega), q4 _ (by omega) (by omega)]; rfl
  · rw [s3.2 4 (by omega), q2 108 (by omega)]; simp (disch := omega) only [ps_upN, ps_upS]; rfl
  · rw [s3.2 5 (by omega), q2 108 (by omega)]; simp (disch := omega) only [ps_upN, ps_upS]; rfl
  · rw [s3.2 6 (by omega), q2 108 (by omega), ps_upS]; rfl
def pl_G9 (σ σ' : vz_I) : Prop := (∀ b, b ≠ 108 → b ≠ 109 → b ≠ 110 → σ' b = σ b) ∧ (∀ k, k < 244 → σ' 109 k = σ 109 k) ∧ ∀ j, (j < 4 ∨ 6 < j) → (j < 10 ∨ 15 < j) → σ' 108 j = σ 108 j
theorem pl_G9_of {σ σ' : vz_I} (h : pl_F9 σ σ') : pl_G9 σ σ' := ⟨fun b h1 _ h3 => h.1 b h1 h3, fun k _ => by rw [h.1 109 (by omega) (by omega)], h.2⟩
theorem pl_G9_trans {σ τ υ : vz_I} (h : pl_G9 σ τ) (g : pl_G9 τ υ) : pl_G9 σ υ := ⟨fun b h1 h2 h3 => by rw [g.1 b h1 h2 h3, h.1 b h1 h2 h3], fun k hk => by rw [g.2.1 k hk, h.2.1 k hk], fun j h1 h2 => by rw [g.2.2 j h1 h2, h.2.2 j h1 h2]⟩
def pl_res (τ : vz_I) (r : Int32) (σ8 σ9 : vz_I) : Prop := (r = -4 ∧ ∃ c s x, pt_A8 c s σ8 ∧ pt_BR c s σ9 ∧ f_X9_text τ = f_X9_text_96 x σ9) ∨ (∃ A l, ps_Ok A ∧ l ≤ 160 ∧ r = nI l ∧ ps_C A σ8 4 ∧ σ8 1 7 = 0 ∧ ps_M A (σ9 110) 0 ∧ σ9 108 4 = nI (A 0 0) ∧ σ9 108 5 = nI (A 0 1) ∧ σ9 108 10 = 0 ∧ f_X9_text τ = f_X9_text_96 (nI l) σ9)
theorem pl_76B {σ : vz_I} {c s : Nat} {x : Int32} (h : pt_BR c s σ) : f_X9_text_76 x σ = f_X9_text_96 x σ := by
  unfold f_X9_text_76
  rw [if_neg (pt_B0 h)]
theorem pl_all {n : Nat} {C : Nat → Nat} {σ τ : vz_I} (hT8 : pt_T8 n C σ) (hT9 : pt_T9 n C τ) (hX : ps_fix τ) : ∃ r σ8 σ9, f_X6_readAll σ = some (r, σ8) ∧ pl_F8 σ σ8 ∧ pl_G9 τ σ9 ∧ pl_res τ r σ8 σ9 := by
  have fu : vz_fu = 1000000 := rfl
  have hn := hT8.1
  obtain ⟨g8, F8⟩ := pl_s8 hT8
  obtain ⟨τ', e9, g9, F9⟩ := pl_s9 hT9 hX
  obtain ⟨y8, v1, v2, v3, v4⟩ := pl_8tk pl_Ok0 g8
  have G8 := pl_F8_trans F8 (pl_F8_of v2)
  rw [pl_all8, v1, vz_b2]
  by_cases k4 : pt_k n C 0 = 4
  · have hB := pt_R9_4 g9.2.1 k4
    rw [if_pos k4, show vz_fu = 999999 + 1 from rfl, pl_29z]
    refine ⟨-4, y8, τ', rfl, G8, pl_G9_of F9, Or.inl ⟨rfl, 1, _, nI 0, v3 k4, hB, ?_⟩⟩
    rw [e9, show vz_fu = 999999 + 1 from rfl, f_X9_text_52_s, if_neg (pt_B0 hB), pl_76B hB]
  · rw [if_neg k4]
    obtain ⟨z8, z9, c1, c2, c3⟩ := pl_loop 900 0 0 0 vz_fu vz_fu pl_0 y8 τ' pl_Ok0 (by omega) (v4 k4) g9 k4 (Nat.le_refl _) (by omega) (by omega) (by omega)
    have H8 := pl_F8_trans G8 c1
    have H9 := pl_F9_trans F9 c2
    rw [show (0 : Int32) = nI 0 from rfl]
    rcases c3 with ⟨d1, c, s, x, hA, hB, d2⟩ | ⟨A, w, q, l, hok, hl, h8, h9, k0, d1, d2⟩
    · refine ⟨-4, z8, z9, d1, H8, pl_G9_of H9, Or.inl ⟨rfl, c, s, x, hA, hB, ?_⟩⟩
      rw [e9, d2, pl_76B hB]
    · obtain ⟨⟨t8, hqe, e2, e6, e7, eC⟩, e3, e4, hq⟩ := h8
      obtain ⟨t9, r9, eM, m4, m5, m6, mX⟩ := h9
      obtain ⟨u1, u2, u3, u4, -⟩ := r9.2 (by omega)
      obtain ⟨-, -, q3, -⟩ := pt_e_spec (C := C) hn hq
      have sn := q3 k0
      obtain ⟨o9, b1, b2, b3⟩ := pl_aw hok eM m4
      have I9 : pl_G9 z9 o9 := ⟨fun b _ h2 _ => b2 b h2, b3, fun j _ _ => by rw [b2 108 (by omega)]⟩
      rw [d1]
      unfold f_X6_readAll_73
      rw [if_neg ps_10, pl_cw hok eC, vz_b1]
      by_cases hW : pl_W A = true
      · rw [if_pos hW, if_neg ps_10]
        unfold f_X6_readAll_101
        rw [if_neg ps_10]
        refine ⟨nI l, z8, o9, rfl, H8, pl_G9_trans (pl_G9_of H9) I9, Or.inr ⟨A, l, hok, hl, rfl, eC, e7, ?_, ?_, ?_, ?_, ?_⟩⟩
        · rw [b2 110 (by omega)]; exact eM
        · rw [b2 108 (by omega)]; exact m4
        · rw [b2 108 (by omega)]; exact m5
        · rw [b2 108 (by omega)]; exact u1
        · rw [e9, d2]
          unfold f_X9_text_76
          rw [if_pos u1, b1, vz_b2, if_pos hW, if_neg ps_10]
      · obtain ⟨r1, r2⟩ := pt_ref8 z8 (c := 6) (s := n) (by omega)
        obtain ⟨f1, f2⟩ := pt_fails (σ := o9) (c := 6) (s := n) (by rw [b2 108 (by omega)]; exact u1) (by rw [b2 108 (by omega), u3, sn]) (by omega)
        rw [if_neg hW, if_pos rfl]
        refine ⟨-4, _, _, ?_, pl_F8_trans H8 (pl_F8_of r2), pl_G9_trans (pl_G9_of H9) (pl_G9_trans I9 (pl_G9_of (pl_F9_of f2))), Or.inl ⟨rfl, 6, n, nI l, r1, f1, ?_⟩⟩
        · rw [t8.2.1]
          rfl
        · rw [e9, d2]
          unfold f_X9_text_76
          rw [if_pos u1, b1, vz_b2, if_neg hW, if_pos rfl]
          rfl
