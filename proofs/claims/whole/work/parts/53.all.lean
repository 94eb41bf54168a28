/-! pure: all walks; all lines -/
def pl_W (A : ps_T) : Bool := !ps_any (A 0 0) (fun m => !ps_wk A m)
theorem pl_cw_l {A : ps_T} {σ : vz_I} {T : Nat} (hok : ps_Ok A) (hC : ps_C A σ T) : ∀ n i, i ≤ A 0 0 → A 0 0 - i < n → ps_any i (fun m => !ps_wk A m) = false → f_X7_canAllWalk_2 n T (nI i) σ = some (if pl_W A = true then 1 else 0) := by
  have o1 := hok.1
  intro n
  induction n with
  | zero => intro i _ h; omega
  | succ n ih =>
    intro i hi hn hF
    rw [f_X7_canAllWalk_2_s, hC.1]
    by_cases e : A 0 0 ≤ i
    · obtain rfl : i = A 0 0 := by omega
      rw [if_pos (nI_le (Nat.le_refl _) (by omega))]
      unfold pl_W
      rw [hF, Bool.not_false, if_pos rfl]
    · rw [if_neg (nI_ge (by omega) (by omega)), if_pos ((ps_in (by omega)).mpr (by omega)), nI_clamp (by omega), ps_cw hok hC (by omega), vz_b1]
      by_cases z : ps_wk A i = true
      · rw [if_pos z, if_neg ps_10, nI_1]
        exact ih (i + 1) (by omega) (by omega) (ps_any_up hF (by rw [z]; rfl))
      · have z' : ps_wk A i = false := by simpa using z
        rw [if_neg z, if_pos rfl]
        unfold pl_W
        rw [ps_anyT (show i < A 0 0 by omega) (by rw [z']; rfl), if_neg (by decide)]
theorem pl_cw {A : ps_T} {σ : vz_I} {T : Nat} (hok : ps_Ok A) (hC : ps_C A σ T) : f_X7_canAllWalk T σ = some (if pl_W A = true then 1 else 0) := pl_cw_l hok hC vz_fu 0 (by omega) (by have : vz_fu = 1000000 := rfl; have := hok.1; omega) rfl
theorem pl_aw34 {A : ps_T} {σ : vz_I} (hok : ps_Ok A) (hM : ps_M A (σ 109) 244) (h4 : σ 108 4 = nI (A 0 0)) : ∀ n i, i ≤ A 0 0 → A 0 0 - i < n → f_X9_areWalks_34 n (if (!ps_any i (fun m => !ps_wk A m)) = true then 1 else 0) (nI i) σ = some (if pl_W A = true then 1 else 0, σ) := by
  have o1 := hok.1
  intro n
  induction n with
  | zero => intro i _ h; omega
  | succ n ih =>
    intro i hi hn
    have h01 : ∀ c : Bool, ((if c = true then (1 : Int32) else 0) = 0 ∨ (if c = true then (1 : Int32) else 0) = 1) := fun c => by cases c <;> decide
    rw [f_X9_areWalks_34_s, h4]
    by_cases e : A 0 0 ≤ i
    · obtain rfl : i = A 0 0 := by omega
      rw [if_pos (nI_le (Nat.le_refl _) (by omega)), if_pos (h01 _)]
      rfl
    · rw [if_neg (nI_ge (by omega) (by omega)), nI_1]
      have q2 := ih (i + 1) (by omega) (by omega)
      rw [ps_any] at q2
      by_cases z0 : ps_any i (fun m => !ps_wk A m) = true
      · rw [z0, Bool.true_or, Bool.not_true, if_neg (by decide)] at q2
        rw [z0, Bool.not_true, if_pos (show (if false = true then (1 : Int32) else 0) = 0 by decide)]
        exact q2
      · have z0' : ps_any i (fun m => !ps_wk A m) = false := by simpa using z0
        rw [z0', Bool.false_or] at q2
        have w := ps_wko hok hM (by omega) (show i < A 0 0 by omega)
        have w' : f_X9_isWalkOn (244 : Int32) (nI i) σ = some (if ps_wk A i = true then 1 else 0) := w
        rw [z0', Bool.not_false, if_pos rfl, if_neg ps_10, w', vz_b1]
        by_cases z : ps_wk A i = true
        · rw [z, Bool.not_true, Bool.not_false, if_pos rfl] at q2
          rw [if_pos z, if_neg ps_10]
          exact q2
        · have z' : ps_wk A i = false := by simpa using z
          rw [z', Bool.not_false, Bool.not_true, if_neg (by decide)] at q2
          rw [if_neg z, if_pos rfl]
          exact q2
theorem pl_aw2 : ∀ (n i : Nat) (σ : vz_I), i ≤ 61 → 61 - i < n → ∃ σ', f_X9_areWalks_2 n (nI i) σ = f_X9_areWalks_34 vz_fu 1 0 σ' ∧ (∀ b, b ≠ 109 → σ' b = σ b) ∧ (∀ k, k < 244 + i → σ' 109 k = σ 109 k) ∧ (∀ k, i ≤ k → k < 61 → σ' 109 (244 + k) = σ 110 k) := by
  intro n
  induction n with
  | zero => intro i σ _ h; omega
  | succ n ih =>
    intro i σ hi hn
    rw [f_X9_areWalks_2_s]
    by_cases e : i = 61
    · subst e
      rw [if_pos (show (61 : Int32) ≤ nI 61 by decide)]
      exact ⟨σ, rfl, fun _ _ => rfl, fun _ _ => rfl, fun k h1 h2 => by omega⟩
    · rw [if_neg (show ¬ (61 : Int32) ≤ nI i from nI_ge (b := 61) (by omega) (by omega)), if_pos ((ps_in (by omega)).mpr (by omega)), show (244 : Int32) + nI i = nI (244 + i) from nI_add 244 i, if_pos ((ps_in (by omega)).mpr (by omega)), vz_let, nI_1, nI_clamp (by omega), nI_clamp (by omega)]
      obtain ⟨σ', q1, q2, q3, q4⟩ := ih (i + 1) (vz_up σ 109 (244 + i) (σ 110 i)) (by omega) (by omega)
      refine ⟨σ', q1, fun b hb => by rw [q2 b hb, vz_up_ne _ _ _ hb], fun k hk => by rw [q3 k (by omega), ps_upN _ _ (by omega)], fun k h1 h2 => ?_⟩
      by_cases z : k = i
      · subst z
        rw [q3 (244 + k) (by omega), ps_upS]
      · rw [q4 k (by omega) h2, vz_up_ne _ _ _ (by omega)]
theorem pl_aw {A : ps_T} {σ : vz_I} (hok : ps_Ok A) (hM : ps_M A (σ 110) 0) (h4 : σ 108 4 = nI (A 0 0)) : ∃ σ', f_X9_areWalks σ = some (if pl_W A = true then 1 else 0, σ') ∧ (∀ b, b ≠ 109 → σ' b = σ b) ∧ (∀ k, k < 244 → σ' 109 k = σ 109 k) := by
  have fu : vz_fu = 1000000 := rfl
  have o1 := hok.1
  obtain ⟨σ', q1, q2, q3, q4⟩ := pl_aw2 vz_fu 0 σ (by omega) (by omega)
  have hM' : ps_M A (σ' 109) 244 := ps_M_mv hok hM (fun k hk => by rw [q4 k (by omega) hk, Nat.zero_add])
  have q5 := pl_aw34 hok hM' (by rw [q2 108 (by omega)]; exact h4) vz_fu 0 (by omega) (by omega)
  rw [ps_any, Bool.not_false, if_pos rfl] at q5
  refine ⟨σ', ?_, q2, fun k hk => q3 k (by omega)⟩
  unfold f_X9_areWalks
  rw [show (0 : Int32) = nI 0 from rfl, q1]
  exact q5
/-! the loop over the lines -/
theorem pl_8tk {n : Nat} {C : Nat → Nat} {A : ps_T} {w p : Nat} {σ : vz_I} (hok : ps_Ok A) (h : pl_8 n C A w p σ) : ∃ σ', f_X6_readToken σ = some (if pt_k n C p = 4 then 0 else 1, σ') ∧ (∀ b, b ≠ 1 → σ' b = σ b) ∧ (pt_k n C p = 4 → pt_A8 1 (pt_s n C p) σ') ∧ (pt_k n C p ≠ 4 → pl_8t n C A w p σ') := by
  obtain ⟨t8, hp, e2, e6, e7, eC⟩ := h
  obtain ⟨σ', s1, s2, s3, s4, s5⟩ := pt_tk8 t8 e2 hp
  obtain ⟨q1, q2, q3, q4⟩ := pt_e_spec (C := C) t8.1 hp
  refine ⟨σ', s1, s2, fun k => ⟨by omega, by omega, (s4 k).1, (s4 k).2⟩, fun k => ?_⟩
  obtain ⟨u1, u2, u3, u4, u5⟩ := s5 k
  exact ⟨⟨pl_T8 t8 (pl_F8_of s2), q2, u2, by rw [s3]; exact e6, by rw [u1]; exact e7, ps_C_fr hok eC (fun b h1 h2 => s2 b (by omega))⟩, u3, u4, hp⟩
theorem pl_29z {f : Nat} {x : Int32} {σ : vz_I} : f_X6_readAll_29 (f + 1) x 0 σ = some (-4, σ) := by
  rw [f_X6_readAll_29_s, if_pos rfl]
  unfold f_X6_readAll_73
  rw [if_pos rfl]
  unfold f_X6_readAll_101
  rw [if_pos rfl]
def pl_end (n : Nat) (C : Nat → Nat) (r8 : Option (Int32 × vz_I)) (r9 : Option (Int32 × vz_I)) (σ8 σ9 : vz_I) : Prop := (r8 = some (-4, σ8) ∧ ∃ c s x, pt_A8 c s σ8 ∧ pt_BR c s σ9 ∧ r9 = f_X9_text_76 x σ9) ∨ (∃ A w q l, ps_Ok A ∧ l ≤ 160 ∧ pl_8t n C A w q σ8 ∧ pl_9 n C A w q σ9 ∧ pt_k n C q = 0 ∧ r8 = f_X6_readAll_73 (nI l) 1 σ8 ∧ r9 = f_X9_text_76 (nI l) σ9)
theorem pl_loop {n : Nat} {C : Nat → Nat} : ∀ (m p l w f8 f9 : Nat) (A : ps_T) (σ8 σ9 : vz_I), ps_Ok A → w ≤ 1 → pl_8t n C A w p σ8 → pl_9 n C A w p σ9 → pt_k n C p ≠ 4 → l ≤ p → n - p < m → m < f8 → m < f9 → ∃ σ8' σ9', pl_F8 σ8 σ8' ∧ pl_F9 σ9 σ9' ∧ pl_end n C (f_X6_readAll_29 f8 (nI l) 1 σ8) (f_X9_text_52 f9 (nI l) σ9) σ8' σ9' := by
  intro m
  induction m with
  | zero => intro p l w f8 f9 A σ8 σ9 _ _ _ _ _ _ h; omega
  | succ m ih =>
    intro p l w f8 f9 A σ8 σ9 hok hw h8 h9 hk4 hl hm hf8 hf9
    obtain ⟨f8, rfl⟩ : ∃ q, f8 = q + 1 + 1 := ⟨f8 - 2, by omega⟩
    obtain ⟨f9, rfl⟩ : ∃ q, f9 = q + 1 + 1 := ⟨f9 - 2, by omega⟩
    have h8' := h8
    obtain ⟨⟨t8, hpe, -⟩, e3, e4, hp⟩ := h8'
    obtain ⟨u1, u2, u3, u4, -⟩ := h9.2.1.2 hk4
    have hn := t8.1
    have kk : pt_k n C p < 10 := by unfold pt_k; repeat (first | omega | split)
    by_cases k0 : pt_k n C p = 0
    · refine ⟨σ8, σ9, pl_F8_refl _, pl_F9_refl _, Or.inr ⟨A, w, p, l, hok, by omega, h8, h9, k0, ?_, ?_⟩⟩
      · rw [f_X6_readAll_29_s, if_neg ps_10, e3, k0, if_pos (show nI 0 = (0 : Int32) from rfl)]
      · rw [f_X9_text_52_s, if_pos u1, u4, k0, if_pos (show nI 0 = (0 : Int32) from rfl)]
    · obtain ⟨q1, q2, q3, q4⟩ := pt_e_spec (C := C) hn hp
      obtain ⟨s1, -, -⟩ := pt_s_spec (C := C) hn hp
      have sn := (q4 k0).2
      have n0 : ¬ nI (pt_k n C p) = (0 : Int32) := nI_ne0 (by omega) (by omega)
      obtain ⟨b, x8, x9, E8, E9, out, F8, F9⟩ := pl_line hok hw h8 h9 hk4
      have S8 : f_X6_readAll_29 (f8 + 1 + 1) (nI l) 1 σ8 = if b = 0 then f_X6_readAll_29 (f8 + 1) (nI (l + 1)) (0 : Int32) x8 else vz_b2 (f_X6_readToken x8) (fun v23 σ24 => if v23 = 0 then f_X6_readAll_29 (f8 + 1) (nI (l + 1)) (0 : Int32) σ24 else f_X6_readAll_29 (f8 + 1) (nI (l + 1)) (1 : Int32) σ24) := by
        rw [f_X6_readAll_29_s, if_neg ps_10, e3, if_neg n0, if_neg (show ¬ (160 : Int32) ≤ nI l from nI_ge (b := 160) (by omega) (by omega)), E8, vz_b2, nI_1]
      have S9 : f_X9_text_52 (f9 + 1 + 1) (nI l) σ9 = f_X9_text_52 (f9 + 1) (nI (l + 1)) x9 := by
        rw [f_X9_text_52_s, if_pos u1, u4, if_neg n0, E9, vz_b1, nI_1]
      rw [S8, S9]
      rcases out with ⟨hb, c, s, hA, hB⟩ | ⟨hb, A', w', q, hok', hw', hq, hqn, g8, g9⟩
      · subst hb
        refine ⟨x8, x9, F8, F9, Or.inl ⟨?_, c, s, nI (l + 1), hA, hB, ?_⟩⟩
        · rw [if_pos rfl, pl_29z]
        · rw [f_X9_text_52_s, if_neg (pt_B0 hB)]
      · subst hb
        obtain ⟨y8, v1, v2, v3, v4⟩ := pl_8tk hok' g8
        rw [if_neg ps_10, v1, vz_b2]
        by_cases k4 : pt_k n C q = 4
        · have hB := pt_R9_4 g9.2.1 k4
          refine ⟨y8, x9, pl_F8_trans F8 (pl_F8_of v2), F9, Or.inl ⟨?_, 1, _, nI (l + 1), v3 k4, hB, ?_⟩⟩
          · rw [if_pos k4, if_pos rfl, pl_29z]
          · rw [f_X9_text_52_s, if_neg (pt_B0 hB)]
        · rw [if_neg k4, if_neg ps_10]
          obtain ⟨z8, z9, c1, c2, c3⟩ := ih q (l + 1) w' (f8 + 1) (f9 + 1) A' y8 x9 hok' hw' (v4 k4) g9 k4 (by omega) (by omega) (by omega) (by omega)
          exact ⟨z8, z9, pl_F8_trans F8 (pl_F8_trans (pl_F8_of v2) c1), pl_F9_trans F9 c2, c3⟩
