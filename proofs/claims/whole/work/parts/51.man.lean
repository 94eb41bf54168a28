/-! pure: a man's line -/
def pl_mn (A : ps_T) (k v l : Nat) (W : Nat → Nat) : ps_T := ps_pth (ps_set (ps_set (ps_set (ps_set A 1 (A 0 0) k) 2 (A 0 0) v) 3 (A 0 0) l) 0 0 (A 0 0 + 1)) (A 0 0) W
theorem pl_C_mn {A : ps_T} {σ σ' : vz_I} {T k v l : Nat} {W : Nat → Nat} (hok : ps_Ok A) (h4 : A 0 0 < 4) (h : ps_C A σ T) (h0 : σ' T 0 = nI (A 0 0 + 1)) (hT : ∀ j, j ≠ 0 → σ' T j = σ T j) (hf : ∀ b, T < b → b ≤ T + 16 → b ≠ T + 5 + 2 * A 0 0 → b ≠ T + 5 + 2 * A 0 0 + 1 → σ' b = σ b) (g0 : σ' (T + 5 + 2 * A 0 0) 0 = nI k) (g1 : σ' (T + 5 + 2 * A 0 0) 1 = nI v) (g2 : σ' (T + 5 + 2 * A 0 0) 2 = nI l) (gW : ∀ j, j < l → σ' (T + 5 + 2 * A 0 0 + 1) j = nI (W j)) : ps_C (pl_mn A k v l W) σ' T := by
  obtain ⟨h1, h2, h3, h4', h5, h6, h7, h8⟩ := h
  obtain ⟨o1, o2, o3, -⟩ := hok
  unfold pl_mn
  refine ⟨?_, ?_, ?_, ?_, ?_, fun m' hm' => ?_, fun r hr => ?_, fun i hi => ?_⟩
  · simp (disch := omega) only [ps_pthN, ps_setS]; exact h0
  · rw [hT 1 (by omega)]; simp (disch := omega) only [ps_pthN, ps_setN]; exact h2
  · rw [hT 2 (by omega)]; simp (disch := omega) only [ps_pthN, ps_setN]; exact h3
  · rw [hT 3 (by omega)]; simp (disch := omega) only [ps_pthN, ps_setN]; exact h4'
  · rw [hT 4 (by omega)]; simp (disch := omega) only [ps_pthN, ps_setN]; exact h5
  · rw [ps_pthN _ _ _ (by omega), ps_setS] at hm'
    by_cases e : m' = A 0 0
    · subst e
      simp (disch := omega) only [ps_pthN, ps_pthS, ps_setN, ps_setS]
      exact ⟨g0, g1, g2, gW⟩
    · simp (disch := omega) only [ps_pthN, ps_setN]
      rw [hf (T + 5 + 2 * m') (by omega) (by omega) (by omega) (by omega), hf (T + 5 + 2 * m' + 1) (by omega) (by omega) (by omega) (by omega)]
      exact h6 m' (by omega)
  · simp (disch := omega) only [ps_pthN, ps_setN] at hr ⊢
    rw [hf (T + 13 + r) (by omega) (by omega) (by omega) (by omega)]
    exact h7 r hr
  · simp (disch := omega) only [ps_pthN, ps_setN] at hi ⊢
    rw [hf (T + 3) (by omega) (by omega) (by omega) (by omega), hf (T + 4) (by omega) (by omega) (by omega) (by omega)]
    exact h8 i hi
theorem pl_M_mn {A : ps_T} {f f' : Nat → Int32} {p k v l : Nat} {W : Nat → Nat} (hok : ps_Ok A) (h4 : A 0 0 < 4) (h : ps_M A f p) (hf : ∀ b, p ≤ b → b ≤ p + 60 → b ≠ p + A 0 0 → b ≠ p + 4 + A 0 0 → b ≠ p + 8 + A 0 0 → (b < p + 12 + 4 * A 0 0 ∨ p + 16 + 4 * A 0 0 ≤ b) → f' b = f b) (g0 : f' (p + A 0 0) = nI k) (g1 : f' (p + 4 + A 0 0) = nI v) (g2 : f' (p + 8 + A 0 0) = nI l) (gW : ∀ j, j < l → f' (p + 12 + 4 * A 0 0 + j) = nI (W j)) : ps_M (pl_mn A k v l W) f' p := by
  obtain ⟨h1, h2, h3, h6, h7, h8⟩ := h
  obtain ⟨o1, o2, o3, -, -, o6, -⟩ := hok
  unfold pl_mn
  refine ⟨?_, ?_, ?_, fun m' hm' => ?_, fun r hr => ?_, fun i hi => ?_⟩
  · rw [hf _ (by omega) (by omega) (by omega) (by omega) (by omega) (by omega)]; simp (disch := omega) only [ps_pthN, ps_setN]; exact h1
  · rw [hf _ (by omega) (by omega) (by omega) (by omega) (by omega) (by omega)]; simp (disch := omega) only [ps_pthN, ps_setN]; exact h2
  · rw [hf _ (by omega) (by omega) (by omega) (by omega) (by omega) (by omega)]; simp (disch := omega) only [ps_pthN, ps_setN]; exact h3
  · rw [ps_pthN _ _ _ (by omega), ps_setS] at hm'
    by_cases e : m' = A 0 0
    · subst e
      simp (disch := omega) only [ps_pthN, ps_pthS, ps_setN, ps_setS]
      exact ⟨g0, g1, g2, gW⟩
    · simp (disch := omega) only [ps_pthN, ps_setN]
      have ho := o6 m' (by omega)
      obtain ⟨y1, y2, y3, y4⟩ := h6 m' (by omega)
      refine ⟨?_, ?_, ?_, fun i hi => ?_⟩
      · rw [hf _ (by omega) (by omega) (by omega) (by omega) (by omega) (by omega)]; exact y1
      · rw [hf _ (by omega) (by omega) (by omega) (by omega) (by omega) (by omega)]; exact y2
      · rw [hf _ (by omega) (by omega) (by omega) (by omega) (by omega) (by omega)]; exact y3
      · rw [hf _ (by omega) (by omega) (by omega) (by omega) (by omega) (by omega)]; exact y4 i hi
  · simp (disch := omega) only [ps_pthN, ps_setN] at hr ⊢
    rw [hf _ (by omega) (by omega) (by omega) (by omega) (by omega) (by omega), hf _ (by omega) (by omega) (by omega) (by omega) (by omega) (by omega), hf _ (by omega) (by omega) (by omega) (by omega) (by omega) (by omega)]
    exact h7 r hr
  · simp (disch := omega) only [ps_pthN, ps_setN] at hi ⊢
    rw [hf _ (by omega) (by omega) (by omega) (by omega) (by omega) (by omega), hf _ (by omega) (by omega) (by omega) (by omega) (by omega) (by omega)]
    exact h8 i hi
theorem pl_Ok_mn {A : ps_T} {k v l : Nat} {W : Nat → Nat} (h : ps_Ok A) (h4 : A 0 0 < 4) (hk : k < 4) (hv : v < 10) (hl : 1 ≤ l) (hl4 : l ≤ 4) (hW : ∀ j, j < l → W j < 8) : ps_Ok (pl_mn A k v l W) := by
  obtain ⟨o1, o2, o3, o4, o5, o6, o7, o8⟩ := h
  unfold pl_mn
  refine ⟨?_, ?_, ?_, ?_, ?_, fun m' hm' => ?_, fun r hr => ?_, fun i hi => ?_⟩
  · simp (disch := omega) only [ps_pthN, ps_setS]; omega
  · simp (disch := omega) only [ps_pthN, ps_setN]; exact o2
  · simp (disch := omega) only [ps_pthN, ps_setN]; exact o3
  · simp (disch := omega) only [ps_pthN, ps_setN]; exact o4
  · simp (disch := omega) only [ps_pthN, ps_setN]; exact o5
  · rw [ps_pthN _ _ _ (by omega), ps_setS] at hm'
    by_cases e : m' = A 0 0
    · subst e
      simp (disch := omega) only [ps_pthN, ps_pthS, ps_setN, ps_setS]
      exact ⟨hk, hv, hl, hl4, hW⟩
    · simp (disch := omega) only [ps_pthN, ps_setN]
      exact o6 m' (by omega)
  · simp (disch := omega) only [ps_pthN, ps_setN] at hr ⊢; exact o7 r hr
  · simp (disch := omega) only [ps_pthN, ps_setN] at hi ⊢; exact o8 i hi
/-! the walk -/
theorem pl_101 {σ : vz_I} {m : Nat} {x : Int32} (hm : m < 4) : f_X9_readMan_101 (nI m) x σ = some (vz_up (vz_up σ 110 (8 + m) x) 108 4 (σ 108 4 + 1)) := by
  have e8 : (8 : Int32) + nI m = nI (8 + m) := nI_add 8 m
  unfold f_X9_readMan_101
  rw [e8, if_pos ((ps_in (by omega)).mpr (by omega)), nI_clamp (by omega), vz_let, vz_up_ne _ _ _ (show (108 : Nat) ≠ 110 by omega)]
theorem pl_47B {σ : vz_I} {m f c s : Nat} {x : Int32} (hm : m < 4) (h : pt_BR c s σ) : f_X9_readMan_47 (f + 1) (nI m) x σ = some (vz_up (vz_up σ 110 (8 + m) x) 108 4 (σ 108 4 + 1)) := by
  rw [f_X9_readMan_47_s, if_neg (pt_B0 h), pl_101 hm]
theorem pl_ac {σ : vz_I} {a i : Nat} {x : Int32} (h : σ a 2 = nI i) (hi : i < 4) : f_X0_addCorner a x σ = some (1, vz_up (vz_up σ (a + 1) i x) a 2 (nI (i + 1))) := by
  unfold f_X0_addCorner
  rw [h, if_pos (show nI i < (4 : Int32) from nI_lt (b := 4) hi (by omega)), if_pos ((ps_in (by omega)).mpr hi), nI_clamp (by omega), vz_let, vz_up_ne _ _ _ (show a ≠ a + 1 by omega), h, nI_1]
theorem pl_ac4 {σ : vz_I} {a : Nat} {x : Int32} (h : σ a 2 = nI 4) : f_X0_addCorner a x σ = some (0, σ) := by
  unfold f_X0_addCorner
  rw [h, if_neg (by decide)]
/-- frames of a walk's reading -/
def pl_wf (a m : Nat) (σ8 σ8' σ9 σ9' : vz_I) : Prop := (∀ b, b ≠ 1 → b ≠ a → b ≠ a + 1 → σ8' b = σ8 b) ∧ (∀ j, j ≠ 2 → σ8' a j = σ8 a j) ∧ (∀ b, b ≠ 108 → b ≠ 110 → σ9' b = σ9 b) ∧ (∀ j, j ≠ 4 → (j < 10 ∨ 15 < j) → σ9' 108 j = σ9 108 j) ∧ (∀ j, j ≠ 8 + m → (j < 12 + 4 * m ∨ 16 + 4 * m ≤ j) → σ9' 110 j = σ9 110 j)
theorem pl_wf_trans {a m : Nat} {x8 y8 z8 x9 y9 z9 : vz_I} (h : pl_wf a m x8 y8 x9 y9) (g : pl_wf a m y8 z8 y9 z9) : pl_wf a m x8 z8 x9 z9 := ⟨fun b h1 h2 h3 => by rw [g.1 b h1 h2 h3, h.1 b h1 h2 h3], fun j hj => by rw [g.2.1 j hj, h.2.1 j hj], fun b h1 h2 => by rw [g.2.2.1 b h1 h2, h.2.2.1 b h1 h2], fun j h1 h2 => by rw [g.2.2.2.1 j h1 h2, h.2.2.2.1 j h1 h2], fun j h1 h2 => by rw [g.2.2.2.2 j h1 h2, h.2.2.2.2 j h1 h2]⟩
theorem pl_wf_mk {a m : Nat} {x8 y8 x9 y9 : vz_I} (ha : a ≠ 1) (h : ∀ b, b ≠ 1 → y8 b = x8 b) (g : pt_F9 x9 y9) : pl_wf a m x8 y8 x9 y9 := ⟨fun b h1 _ _ => h b h1, fun j _ => by rw [h a ha], fun b h1 _ => g.1 b h1, fun j _ h2 => g.2 j h2, fun j _ _ => by rw [g.1 110 (by omega)]⟩
theorem pl_wf_101 (a m : Nat) (x8 : vz_I) {x9 : vz_I} (x y : Int32) : pl_wf a m x8 x8 x9 (vz_up (vz_up x9 110 (8 + m) x) 108 4 y) := ⟨fun _ _ _ _ => rfl, fun _ _ => rfl, fun b h1 h2 => by rw [vz_up_ne _ _ _ h1, vz_up_ne _ _ _ h2], fun j h1 _ => by rw [ps_upN _ _ h1, vz_up_ne _ _ _ (by omega)], fun j h1 _ => by rw [vz_up_ne _ _ _ (by omega), ps_upN _ _ h1]⟩
/-- how a walk's reading ends -/
def pl_wo (n : Nat) (C : Nat → Nat) (a m p : Nat) (σ8 σ9 : vz_I) (b : Int32) (σ8' σ9' : vz_I) : Prop := (b = 0 ∧ pl_bad n C σ8' σ9') ∨ (b = 1 ∧ ∃ l q, 1 ≤ l ∧ l ≤ 4 ∧ p ≤ q ∧ q ≤ n ∧ pt_sf n C q = 0 ∧ σ8' a 2 = nI l ∧ σ9' 110 (8 + m) = nI l ∧ (∀ j, j < l → ∃ u, u < 8 ∧ σ8' (a + 1) j = nI u ∧ σ9' 110 (12 + 4 * m + j) = nI u) ∧ σ8' 1 2 = nI (pt_e n C q) ∧ σ8' 1 6 = σ8 1 6 ∧ σ8' 1 7 = σ8 1 7 ∧ pt_R9 n C q σ9' ∧ σ9' 108 4 = σ9 108 4 + 1)
theorem pl_w_n2 {n : Nat} {C : Nat → Nat} {a m i p f8 f9 : Nat} {σ8 σ9 : vz_I} (ha : 4 < a) (hm : m < 4) (hi : i ≤ 4) (hi1 : 1 ≤ i) (t8 : pt_T8 n C σ8) (e2 : σ8 1 2 = nI p) (hp : p ≤ n) (ea : σ8 a 2 = nI i) (r9 : pt_R9 n C p σ9) (hW : ∀ j, j < i → ∃ u, u < 8 ∧ σ8 (a + 1) j = nI u ∧ σ9 110 (12 + 4 * m + j) = nI u) (hk : pt_k n C p ≠ 2) : ∃ b σ8' σ9', f_X6_readRestOfWalk_2 (f8 + 1) a (nI i) σ8 = some (b, σ8') ∧ f_X9_readMan_47 (f9 + 1) (nI m) (nI i) σ9 = some σ9' ∧ pl_wo n C a m p σ8 σ9 b σ8' σ9' ∧ pl_wf a m σ8 σ8' σ9 σ9' := by
  have nl : ¬ (4 : Int32) < nI i := nI_nlt (a := 4) hi (by omega)
  obtain ⟨x8, s1, s2, s3, s4, s5⟩ := pt_tk8 t8 e2 hp
  by_cases k4 : pt_k n C p = 4
  · rw [if_pos k4] at s1
    have hB := pt_R9_4 r9 k4
    refine ⟨0, x8, _, ?_, pl_47B hm hB, Or.inl ⟨rfl, 1, pt_s n C p, ⟨by omega, by omega, (s4 k4).1, (s4 k4).2⟩, Or.inl (pl_BR108 (pl_BR110 hB _ _) _ (by omega))⟩, pl_wf_trans (pl_wf_mk (by omega) s2 (pt_F9_refl σ9)) (pl_wf_101 _ _ _ _ _)⟩
    rw [f_X6_readRestOfWalk_2_s, if_neg nl, s1, vz_b2, if_pos rfl]
  · obtain ⟨u1, u2, u3, u4, -⟩ := s5 k4
    rw [if_neg k4] at s1
    obtain ⟨w1, w2, w3, w4, -⟩ := r9.2 k4
    have kk : pt_k n C p < 10 := by unfold pt_k; repeat (first | omega | split)
    have n2 : ¬ nI (pt_k n C p) = (2 : Int32) := fun z => hk ((nI_eq (b := 2) (by omega) (by omega)).mp z)
    have E9 : f_X9_readMan_47 (f9 + 1) (nI m) (nI i) σ9 = some (vz_up (vz_up σ9 110 (8 + m) (nI i)) 108 4 (σ9 108 4 + 1)) := by
      rw [f_X9_readMan_47_s, if_pos w1, w4, if_neg n2, pl_101 hm]
    by_cases k3 : pt_k n C p = 3
    · refine ⟨1, x8, _, ?_, E9, Or.inr ⟨rfl, i, p, hi1, hi, Nat.le_refl _, hp, ?_, by rw [s2 a (by omega)]; exact ea, by rw [vz_up_ne _ _ _ (by omega), ps_upS], fun j hj => ?_, u2, s3, u1, pl_R9_108 (pl_R9_110 r9 _ _) _ (by omega), ps_upS _ _ _ _⟩, pl_wf_trans (pl_wf_mk (by omega) s2 (pt_F9_refl σ9)) (pl_wf_101 _ _ _ _ _)⟩
      · rw [f_X6_readRestOfWalk_2_s, if_neg nl, s1, vz_b2, if_neg ps_10, u3, k3, if_pos (show nI 3 = (3 : Int32) from rfl)]
      · unfold pt_sf
        rw [if_neg k4, if_pos k3]
      · obtain ⟨u, h1, h2, h3⟩ := hW j hj
        exact ⟨u, h1, by rw [s2 (a + 1) (by omega)]; exact h2, by rw [vz_up_ne _ _ _ (by omega), ps_upN _ _ (by omega)]; exact h3⟩
    · obtain ⟨r1, r2⟩ := pt_ref8 x8 (c := 2) (s := pt_s n C p) (by omega)
      have sf2 : pt_sf n C p = 2 := by
        unfold pt_sf
        rw [if_neg k4, if_neg k3]
      refine ⟨0, _, _, ?_, E9, Or.inl ⟨rfl, 2, pt_s n C p, r1, Or.inr ⟨p, pl_R9_108 (pl_R9_110 r9 _ _) _ (by omega), sf2, rfl⟩⟩, pl_wf_trans (pl_wf_mk (by omega) (fun b hb => (r2 b hb).trans (s2 b hb)) (pt_F9_refl σ9)) (pl_wf_101 _ _ _ _ _)⟩
      rw [f_X6_readRestOfWalk_2_s, if_neg nl, s1, vz_b2, if_neg ps_10, u3, if_neg (show ¬ nI (pt_k n C p) = (3 : Int32) from fun z => k3 ((nI_eq (b := 3) (by omega) (by omega)).mp z)), if_neg n2, u4]
      rfl
theorem pl_w_4 {n : Nat} {C : Nat → Nat} {a m p f8 f9 : Nat} {σ8 σ9 : vz_I} (ha : 4 < a) (hm : m < 4) (t8 : pt_T8 n C σ8) (e2 : σ8 1 2 = nI p) (hp : p ≤ n) (ea : σ8 a 2 = nI 4) (r9 : pt_R9 n C p σ9) (hk : pt_k n C p = 2) : ∃ b σ8' σ9', f_X6_readRestOfWalk_2 (f8 + 1) a (nI 4) σ8 = some (b, σ8') ∧ f_X9_readMan_47 (f9 + 1 + 1) (nI m) (nI 4) σ9 = some σ9' ∧ pl_wo n C a m p σ8 σ9 b σ8' σ9' ∧ pl_wf a m σ8 σ8' σ9 σ9' := by
  have nl : ¬ (4 : Int32) < nI 4 := by decide
  obtain ⟨x8, s1, s2, s3, s4, s5⟩ := pt_tk8 t8 e2 hp
  obtain ⟨u1, u2, u3, u4, u5⟩ := s5 (by omega)
  rw [if_neg (by omega)] at s1
  obtain ⟨w1, w2, w3, w4, w5⟩ := r9.2 (by omega)
  rw [hk] at u3 w4
  obtain ⟨r1, r2⟩ := pt_ref8 x8 (c := 5) (s := pt_s n C p) (by omega)
  obtain ⟨b1, b2⟩ := pt_fails (c := 5) w1 w3 (by omega)
  have E9 : f_X9_readMan_47 (f9 + 1 + 1) (nI m) (nI 4) σ9 = some (vz_up (vz_up (f_X9_fails (nI 5) σ9) 110 (8 + m) (nI 4)) 108 4 (f_X9_fails (nI 5) σ9 108 4 + 1)) := by
    rw [f_X9_readMan_47_s, if_pos w1, w4, if_pos (show nI 2 = (2 : Int32) from rfl), if_pos (show nI 4 = (4 : Int32) from rfl), show (5 : Int32) = nI 5 from rfl, pl_47B hm b1]
  refine ⟨0, _, _, ?_, E9, Or.inl ⟨rfl, 5, pt_s n C p, r1, Or.inl (pl_BR108 (pl_BR110 b1 _ _) _ (by omega))⟩, pl_wf_trans (pl_wf_mk (by omega) (fun b hb => (r2 b hb).trans (s2 b hb)) b2) (pl_wf_101 _ _ _ _ _)⟩
  · rw [f_X6_readRestOfWalk_2_s, if_neg nl, s1, vz_b2, if_neg ps_10, u3, if_neg (by decide), if_pos (show nI 2 = (2 : Int32) from rfl), pl_ac4 (by rw [s2 a (by omega)]; exact ea), vz_b2, if_pos rfl, u4]
    rfl
theorem pl_walk {n : Nat} {C : Nat → Nat} {a m : Nat} (ha : 4 < a) (hm : m < 4) : ∀ (g i p f8 f9 : Nat) (σ8 σ9 : vz_I), i + g = 4 → 1 ≤ i → g < f8 → g + 1 < f9 → pt_T8 n C σ8 → σ8 1 2 = nI p → p ≤ n → σ8 a 2 = nI i → a < 20 → pt_T9 n C σ9 → pt_R9 n C p σ9 → (∀ j, j < i → ∃ u, u < 8 ∧ σ8 (a + 1) j = nI u ∧ σ9 110 (12 + 4 * m + j) = nI u) → ∃ b σ8' σ9', f_X6_readRestOfWalk_2 f8 a (nI i) σ8 = some (b, σ8') ∧ f_X9_readMan_47 f9 (nI m) (nI i) σ9 = some σ9' ∧ pl_wo n C a m p σ8 σ9 b σ8' σ9' ∧ pl_wf a m σ8 σ8' σ9 σ9' := by
  intro g
  induction g with
  | zero =>
    intro i p f8 f9 σ8 σ9 hi hi1 hf8 hf9 t8 e2 hp ea ha2 t9 r9 hW
    obtain rfl : i = 4 := by omega
    obtain ⟨f8, rfl⟩ : ∃ q, f8 = q + 1 := ⟨f8 - 1, by omega⟩
    obtain ⟨f9, rfl⟩ : ∃ q, f9 = q + 1 + 1 := ⟨f9 - 2, by omega⟩
    by_cases hk : pt_k n C p = 2
    · exact pl_w_4 ha hm t8 e2 hp ea r9 hk
    · exact pl_w_n2 ha hm (by omega) (by omega) t8 e2 hp ea r9 hW hk
  | succ g ih =>
    intro i p f8 f9 σ8 σ9 hi hi1 hf8 hf9 t8 e2 hp ea ha2 t9 r9 hW
    obtain ⟨f8, rfl⟩ : ∃ q, f8 = q + 1 := ⟨f8 - 1, by omega⟩
    obtain ⟨f9, rfl⟩ : ∃ q, f9 = q + 1 := ⟨f9 - 1, by omega⟩
    by_cases hk : pt_k n C p = 2
    · have nl : ¬ (4 : Int32) < nI i := nI_nlt (a := 4) (by omega) (by omega)
      have n4 : ¬ nI i = (4 : Int32) := fun z => by have := (nI_eq (b := 4) (by omega) (by omega)).mp z; omega
      have e12 : ((12 : Int32) + (4 : Int32) * nI m) + nI i = nI (12 + 4 * m + i) := by
        rw [show (4 : Int32) * nI m = nI (4 * m) from pk_mul 4 m, show (12 : Int32) + nI (4 * m) = nI (12 + 4 * m) from nI_add 12 (4 * m), nI_add]
      obtain ⟨x8, s1, s2, s3, s4, s5⟩ := pt_tk8 t8 e2 hp
      obtain ⟨u1, u2, u3, u4, u5⟩ := s5 (by omega)
      have u5' := u5 hk
      rw [if_neg (by omega)] at s1
      obtain ⟨w1, w2, w3, w4, w5⟩ := r9.2 (by omega)
      rw [hk] at u3 w4
      have hv := pt_v_lt t8.1 hp hk
      obtain ⟨q1, q2, -, q4⟩ := pt_e_spec (C := C) t8.1 hp
      obtain ⟨p1, -, -⟩ := pt_s_spec (C := C) t8.1 hp
      have q5 := (q4 (by omega)).1
      have xa : x8 a 2 = nI i := by rw [s2 a (by omega)]; exact ea
      have y5 : (vz_up (vz_up x8 (a + 1) i (nI (pt_v n C p))) a 2 (nI (i + 1))) 1 5 = nI (pt_v n C p) := by
        rw [vz_up_ne _ _ _ (by omega), vz_up_ne _ _ _ (by omega)]; exact u5'
      have y4 : (vz_up (vz_up x8 (a + 1) i (nI (pt_v n C p))) a 2 (nI (i + 1))) 1 4 = nI (pt_s n C p) := by
        rw [vz_up_ne _ _ _ (by omega), vz_up_ne _ _ _ (by omega)]; exact u4
      have yf : ∀ b, b ≠ 1 → b ≠ a → b ≠ a + 1 → (vz_up (vz_up x8 (a + 1) i (nI (pt_v n C p))) a 2 (nI (i + 1))) b = σ8 b := fun b h1 h2 h3 => by rw [vz_up_ne _ _ _ h2, vz_up_ne _ _ _ h3, s2 b h1]
      have ya : ∀ j, j ≠ 2 → (vz_up (vz_up x8 (a + 1) i (nI (pt_v n C p))) a 2 (nI (i + 1))) a j = σ8 a j := fun j hj => by rw [ps_upN _ _ hj, vz_up_ne _ _ _ (by omega), s2 a (by omega)]
      by_cases hc : pt_v n C p ≤ 7
      · have cn : f_X8_isCorner (nI (pt_v n C p)) = 1 := by rw [ps_c8, nI_toInt (by omega), if_pos (by omega)]
        have nf0 : pt_nf n C p 0 7 = 0 := by
          unfold pt_nf
          rw [if_neg (by omega), if_neg (by omega), if_neg (by omega)]
        obtain ⟨x9, b1, b2, b3⟩ := pt_n9t t9 r9 hp (by omega) (by omega) nf0
        have b1' : f_X9_number (0 : Int32) (7 : Int32) σ9 = some (nI (pt_v n C p), x9) := b1
        have F8 : pl_F8 σ8 (vz_up (vz_up x8 (a + 1) i (nI (pt_v n C p))) a 2 (nI (i + 1))) := fun b h1 h2 => yf b h1 (by omega) (by omega)
        have F9 := pl_F9_trans (pl_F9_of b3) (pl_F9_110 x9 (12 + 4 * m + i) (nI (pt_v n C p)))
        obtain ⟨b, z8, z9, c1, c2, c3, c4⟩ := ih (i + 1) (pt_e n C p) f8 f9 (vz_up (vz_up x8 (a + 1) i (nI (pt_v n C p))) a 2 (nI (i + 1))) (vz_up x9 110 (12 + 4 * m + i) (nI (pt_v n C p))) (by omega) (by omega) (by omega) (by omega) (pl_T8 t8 F8) (by rw [vz_up_ne _ _ _ (by omega), vz_up_ne _ _ _ (by omega)]; exact u2) q2 (ps_upS _ _ _ _) ha2 (pl_T9 t9 F9) (pl_R9_110 b2 _ _) (fun j hj => by
          by_cases z : j = i
          · subst z
            exact ⟨pt_v n C p, by omega, by rw [vz_up_ne _ _ _ (by omega), ps_upS], ps_upS _ _ _ _⟩
          · obtain ⟨u, h1, h2, h3⟩ := hW j (by omega)
            exact ⟨u, h1, by rw [vz_up_ne _ _ _ (by omega), ps_upN _ _ z, s2 (a + 1) (by omega)]; exact h2, by rw [ps_upN _ _ (by omega), b3.1 110 (by omega)]; exact h3⟩)
        have W1 : pl_wf a m σ8 (vz_up (vz_up x8 (a + 1) i (nI (pt_v n C p))) a 2 (nI (i + 1))) σ9 (vz_up x9 110 (12 + 4 * m + i) (nI (pt_v n C p))) := ⟨yf, ya, fun b h1 h2 => by rw [vz_up_ne _ _ _ h2, b3.1 b h1], fun j h1 h2 => by rw [vz_up_ne _ _ _ (by omega), b3.2 j h2], fun j h1 h2 => by rw [ps_upN _ _ (by omega), b3.1 110 (by omega)]⟩
        refine ⟨b, z8, z9, ?_, ?_, ?_, pl_wf_trans W1 c4⟩
        · rw [f_X6_readRestOfWalk_2_s, if_neg nl, s1, vz_b2, if_neg ps_10, u3, if_neg (by decide), if_pos (show nI 2 = (2 : Int32) from rfl), u5', pl_ac xa (by omega), vz_b2, if_neg ps_10, y5, cn, if_neg ps_10, nI_1, c1]
        · rw [f_X9_readMan_47_s, if_pos w1, w4, if_pos (show nI 2 = (2 : Int32) from rfl), if_neg n4, b1', vz_b2, e12, if_pos ((ps_in (by omega)).mpr (by omega)), nI_clamp (by omega), vz_let, nI_1, c2]
        · rcases c3 with c3 | ⟨hb, l, q, l1, l2, l3, l4, l5, l6, l7, l8, l9, l10, l11, l12, l13⟩
          · exact Or.inl c3
          · refine Or.inr ⟨hb, l, q, l1, l2, by omega, l4, l5, l6, l7, l8, l9, ?_, ?_, l12, ?_⟩
            · rw [l10, vz_up_ne _ _ _ (by omega), vz_up_ne _ _ _ (by omega)]; exact s3
            · rw [l11, vz_up_ne _ _ _ (by omega), vz_up_ne _ _ _ (by omega)]; exact u1
            · rw [l13, vz_up_ne _ _ _ (by omega), b3.2 4 (by omega)]
      · have cn : f_X8_isCorner (nI (pt_v n C p)) = 0 := by rw [ps_c8, nI_toInt (by omega), if_neg (by omega)]
        have nf3 : pt_nf n C p 0 7 = 3 := by
          unfold pt_nf
          rw [if_neg (by omega), if_neg (by omega), if_pos (by omega)]
        obtain ⟨x9, b1, b2, b3⟩ := pt_n9f t9 r9 hp (by omega) (by omega) (show pt_nf n C p 0 7 ≠ 0 by omega)
        rw [nf3] at b2
        have b1' : f_X9_number (0 : Int32) (7 : Int32) σ9 = some (0, x9) := b1
        have B1 := pl_BR110 b2 (12 + 4 * m + i) 0
        obtain ⟨f9, rfl⟩ : ∃ q, f9 = q + 1 := ⟨f9 - 1, by omega⟩
        obtain ⟨r1, r2⟩ := pt_ref8 (vz_up (vz_up x8 (a + 1) i (nI (pt_v n C p))) a 2 (nI (i + 1))) (c := 3) (s := pt_s n C p) (by omega)
        have W1 : pl_wf a m σ8 (vz_up (vz_up (vz_up (vz_up x8 (a + 1) i (nI (pt_v n C p))) a 2 (nI (i + 1))) 1 7 (nI 3)) 1 8 (nI (pt_s n C p))) σ9 (vz_up x9 110 (12 + 4 * m + i) 0) := ⟨fun b h1 h2 h3 => (r2 b h1).trans (yf b h1 h2 h3), fun j hj => by rw [r2 a (by omega)]; exact ya j hj, fun b h1 h2 => by rw [vz_up_ne _ _ _ h2, b3.1 b h1], fun j h1 h2 => by rw [vz_up_ne _ _ _ (by omega), b3.2 j h2], fun j h1 h2 => by rw [ps_upN _ _ (by omega), b3.1 110 (by omega)]⟩
        have E9 : f_X9_readMan_47 (f9 + 1 + 1) (nI m) (nI i) σ9 = some (vz_up (vz_up (vz_up x9 110 (12 + 4 * m + i) 0) 110 (8 + m) (nI (i + 1))) 108 4 ((vz_up x9 110 (12 + 4 * m + i) 0) 108 4 + 1)) := by
          rw [f_X9_readMan_47_s, if_pos w1, w4, if_pos (show nI 2 = (2 : Int32) from rfl), if_neg n4, b1', vz_b2, e12, if_pos ((ps_in (by omega)).mpr (by omega)), nI_clamp (by omega), vz_let, nI_1, pl_47B hm B1]
        refine ⟨0, _, _, ?_, E9, Or.inl ⟨rfl, 3, pt_s n C p, r1, Or.inl (pl_BR108 (pl_BR110 B1 _ _) _ (by omega))⟩, pl_wf_trans W1 (pl_wf_101 _ _ _ _ _)⟩
        · rw [f_X6_readRestOfWalk_2_s, if_neg nl, s1, vz_b2, if_neg ps_10, u3, if_neg (by decide), if_pos (show nI 2 = (2 : Int32) from rfl), u5', pl_ac xa (by omega), vz_b2, if_neg ps_10, y5, cn, if_pos rfl, y4]
          rfl
    · exact pl_w_n2 ha hm (by omega) (by omega) t8 e2 hp ea r9 hW hk
theorem pl_am {σ : vz_I} {m : Nat} {x : Int32} (hm : m < 4) (h : σ 4 0 = nI m) : f_X7_addMan 4 x σ = some (some (4 + 5 + 2 * m), vz_up (vz_up (vz_up σ (4 + 5 + 2 * m) 0 x) (4 + 5 + 2 * m) 2 0) 4 0 (nI (m + 1))) := by
  unfold f_X7_addMan
  rw [h, if_pos (show nI m < (4 : Int32) from nI_lt (b := 4) hm (by omega)), if_pos ((ps_in (by omega)).mpr hm), nI_clamp (by omega), vz_let, vz_up_ne _ _ _ (show 4 ≠ 4 + 5 + 2 * m by omega), vz_up_ne _ _ _ (show 4 ≠ 4 + 5 + 2 * m by omega), h, nI_1]
theorem pl_rm9 {σ x y z : vz_I} {m : Nat} {k v1 v2 : Int32} (hm : m < 4) (h : σ 108 4 = nI m) (g1 : f_X9_number (0 : Int32) (9 : Int32) (vz_up σ 110 m k) = some (v1, x)) (g2 : f_X9_number (0 : Int32) (7 : Int32) (vz_up x 110 (4 + m) v1) = some (v2, y)) (g3 : f_X9_readMan_47 vz_fu (nI m) (1 : Int32) (vz_up y 110 (12 + 4 * m) v2) = some z) : f_X9_readMan k σ = some z := by
  have e4 : (4 : Int32) + nI m = nI (4 + m) := nI_add 4 m
  have e12 : (12 : Int32) + (4 : Int32) * nI m = nI (12 + 4 * m) := by
    rw [show (4 : Int32) * nI m = nI (4 * m) from pk_mul 4 m, show (12 : Int32) + nI (4 * m) = nI (12 + 4 * m) from nI_add 12 (4 * m)]
  unfold f_X9_readMan
  rw [h, e4, e12, if_pos ((ps_in (by omega)).mpr (by omega)), nI_clamp (by omega), g1, vz_b2, if_pos ((ps_in (by omega)).mpr (by omega)), nI_clamp (by omega), g2, vz_b2, if_pos ((ps_in (by omega)).mpr (by omega)), nI_clamp (by omega), vz_let, g3]
theorem pl_rman {n : Nat} {C : Nat → Nat} {A : ps_T} {w p kd : Nat} {σ8 σ9 : vz_I} (hok : ps_Ok A) (hw : w ≤ 1) (h4 : A 0 0 < 4) (hkd : kd < 4) (h8 : pl_8 n C A w p σ8) (h9 : pl_9 n C A w p σ9) : ∃ b σ8' σ9', f_X6_readMan (nI kd) σ8 = some (b, σ8') ∧ f_X9_readMan (nI kd) σ9 = some σ9' ∧ pl_mid n C p b σ8' σ9' ∧ pl_F8 σ8 σ8' ∧ pl_F9 σ9 σ9' := by
  obtain ⟨t8, hp, e2, e6, e7, eC⟩ := h8
  obtain ⟨t9, r9, eM, m4, m5, m6, mX⟩ := h9
  have eA := pl_am (x := nI kd) h4 eC.1
  have fu : vz_fu = 999999 + 1 := rfl
  obtain ⟨m, em⟩ : ∃ m, m = A 0 0 := ⟨_, rfl⟩
  obtain ⟨a, ea⟩ : ∃ a, a = 4 + 5 + 2 * m := ⟨_, rfl⟩
  rw [← em, ← ea] at eA
  obtain ⟨x3, ex3⟩ : ∃ x3, x3 = vz_up (vz_up (vz_up σ8 a 0 (nI kd)) a 2 0) 4 0 (nI (m + 1)) := ⟨_, rfl⟩
  rw [← ex3] at eA
  have x3f : ∀ b, b ≠ 4 → b ≠ a → x3 b = σ8 b := fun b h1 h2 => by rw [ex3, vz_up_ne _ _ _ h1, vz_up_ne _ _ _ h2, vz_up_ne _ _ _ h2]
  have F0 : pl_F8 σ8 x3 := fun b h1 h2 => x3f b (by omega) (by omega)
  have E80 : f_X6_readMan (nI kd) σ8 = vz_b2 (f_X6_takeNumber (0 : Int32) (9 : Int32) x3) (fun v10 σ11 => if v10 = 0 then some ((0 : Int32), σ11) else vz_b2 (f_X6_takeNumber (0 : Int32) (7 : Int32) (vz_up σ11 a 1 (σ11 1 5))) (fun v14 σ15 => if v14 = 0 then some ((0 : Int32), σ15) else vz_b2 (f_X0_addCorner a (σ15 1 5) σ15) (fun v18 σ19 => vz_b2 (f_X6_readRestOfWalk a σ19) (fun v21 σ22 => if v21 = 0 ∨ v21 = 1 then some (v21, σ22) else none)))) := by
    unfold f_X6_readMan
    rw [eA, vz_b2, vz_mo]
  rw [E80]
  have m4' : σ9 108 4 = nI m := by rw [m4, em]
  have N9 := pl_F9_110 σ9 m (nI kd)
  rcases pl_num 0 9 (pl_T8 t8 F0) (show x3 1 2 = nI p by rw [x3f 1 (by omega) (by omega)]; exact e2) hp (pl_T9 t9 N9) (pl_R9_110 r9 m (nI kd)) (by omega) (by omega) with ⟨x8, x9, c, k4, a1, b1, a2, a3, b2, b3⟩ | ⟨x8, x9, v, q, k2, -, -, v1, q1, q2, a1, b1, a2, a3, a4, a5, a6, -, b2, b3⟩
  · have a1' : f_X6_takeNumber (0 : Int32) (9 : Int32) x3 = some (0, x8) := a1
    have b1' : f_X9_number (0 : Int32) (9 : Int32) (vz_up σ9 110 m (nI kd)) = some (0, x9) := b1
    have B1 := pl_BR110 b2 (4 + m) 0
    have B2 := pl_BR110 B1 (12 + 4 * m) 0
    have E9 := pl_rm9 (by omega) m4' b1' (pt_n9B B1) (by rw [fu]; exact pl_47B (by omega) B2)
    rw [a1', vz_b2, if_pos rfl]
    exact ⟨0, x8, _, rfl, E9, ⟨fun k => ⟨rfl, by rw [k4 k] at a3; exact a3⟩, Or.inl ⟨rfl, c, _, a3, Or.inl (pl_BR108 (pl_BR110 B2 _ _) _ (by omega))⟩⟩, pl_F8_trans F0 (pl_F8_of a2), pl_F9_trans N9 (pl_F9_trans (pl_F9_of b3) (pl_F9_trans (pl_F9_110 _ _ _) (pl_F9_trans (pl_F9_110 _ _ _) (pl_F9_trans (pl_F9_110 _ _ _) (pl_F9_108 _ _ (by omega))))))⟩
  · have a1' : f_X6_takeNumber (0 : Int32) (9 : Int32) x3 = some (1, x8) := a1
    have b1' : f_X9_number (0 : Int32) (9 : Int32) (vz_up σ9 110 m (nI kd)) = some (nI v, x9) := b1
    have G8 := pl_F8_trans F0 (pl_F8_trans (pl_F8_of a2) (pl_F8_up x8 (a := a) 1 (nI v) (by omega)))
    have G9 := pl_F9_trans N9 (pl_F9_trans (pl_F9_of b3) (pl_F9_110 x9 (4 + m) (nI v)))
    rw [a1', vz_b2, if_neg ps_10, a6]
    rcases pl_num 0 7 (pl_T8 t8 G8) (show (vz_up x8 a 1 (nI v)) 1 2 = nI q by rw [vz_up_ne _ _ _ (by omega)]; exact a5) q2 (pl_T9 t9 G9) (pl_R9_110 b2 (4 + m) (nI v)) (by omega) (by omega) with ⟨y8, y9, c, -, d1, f1, d2, d3, f2, f3⟩ | ⟨y8, y9, u, r, -, -, -, u1, r1, r2, d1, f1, d2, d3, d4, d5, d6, -, f2, f3⟩
    · have d1' : f_X6_takeNumber (0 : Int32) (7 : Int32) (vz_up x8 a 1 (nI v)) = some (0, y8) := d1
      have f1' : f_X9_number (0 : Int32) (7 : Int32) (vz_up x9 110 (4 + m) (nI v)) = some (0, y9) := f1
      have B2 := pl_BR110 f2 (12 + 4 * m) 0
      have E9 := pl_rm9 (by omega) m4' b1' f1' (by rw [fu]; exact pl_47B (by omega) B2)
      rw [d1', vz_b2, if_pos rfl]
      exact ⟨0, y8, _, rfl, E9, ⟨fun k => by omega, Or.inl ⟨rfl, c, _, d3, Or.inl (pl_BR108 (pl_BR110 B2 _ _) _ (by omega))⟩⟩, pl_F8_trans G8 (pl_F8_of d2), pl_F9_trans G9 (pl_F9_trans (pl_F9_of f3) (pl_F9_trans (pl_F9_110 _ _ _) (pl_F9_trans (pl_F9_110 _ _ _) (pl_F9_108 _ _ (by omega)))))⟩
    · have d1' : f_X6_takeNumber (0 : Int32) (7 : Int32) (vz_up x8 a 1 (nI v)) = some (1, y8) := d1
      have f1' : f_X9_number (0 : Int32) (7 : Int32) (vz_up x9 110 (4 + m) (nI v)) = some (nI u, y9) := f1
      have ya0 : ∀ j, j ≠ 1 → y8 a j = x3 a j := fun j hj => by rw [d2 a (by omega), ps_upN _ _ hj, a2 a (by omega)]
      have ya2 : y8 a 2 = nI 0 := by rw [ya0 2 (by omega), ex3, vz_up_ne _ _ _ (by omega), ps_upS]; rfl
      have ya : y8 a 1 = nI v := by rw [d2 a (by omega), ps_upS]
      have yc : ∀ b, b ≠ 1 → b ≠ a → y8 b = x3 b := fun b h1 h2 => by rw [d2 b h1, vz_up_ne _ _ _ h2, a2 b h1]
      have H8 := pl_F8_trans G8 (pl_F8_trans (pl_F8_of d2) (pl_F8_trans (pl_F8_up y8 (a := a + 1) 0 (nI u) (by omega)) (pl_F8_up _ (a := a) 2 (nI 1) (by omega))))
      have H9 := pl_F9_trans G9 (pl_F9_trans (pl_F9_of f3) (pl_F9_110 y9 (12 + 4 * m) (nI u)))
      obtain ⟨b, z8, z9, c1, c2, c3, c4⟩ := pl_walk (n := n) (C := C) (a := a) (m := m) (by omega) (by omega) 3 1 r vz_fu vz_fu (vz_up (vz_up y8 (a + 1) 0 (nI u)) a 2 (nI 1)) (vz_up y9 110 (12 + 4 * m) (nI u)) (by omega) (by omega) (by omega) (by omega) (pl_T8 t8 H8) (by rw [vz_up_ne _ _ _ (by omega), vz_up_ne _ _ _ (by omega)]; exact d5) r2 (ps_upS _ _ _ _) (by omega) (pl_T9 t9 H9) (pl_R9_110 f2 _ _) (fun j hj => by
        obtain rfl : j = 0 := by omega
        exact ⟨u, by omega, by rw [vz_up_ne _ _ _ (by omega), ps_upS], ps_upS _ _ _ _⟩)
      have c1' : f_X6_readRestOfWalk a (vz_up (vz_up y8 (a + 1) 0 (nI u)) a 2 (nI (0 + 1))) = some (b, z8) := c1
      have E9 := pl_rm9 (by omega) m4' b1' f1' c2
      obtain ⟨w1, w2, w3, w4, w5⟩ := c4
      have I8 : pl_F8 σ8 z8 := pl_F8_trans H8 (fun b h1 h2 => w1 b h1 (by omega) (by omega))
      have I9 : pl_F9 σ9 z9 := pl_F9_trans H9 ⟨w3, fun j h1 h2 => w4 j (by omega) h2⟩
      have hb : b = 0 ∨ b = 1 := by
        rcases c3 with ⟨h, -⟩ | ⟨h, -⟩
        · exact Or.inl h
        · exact Or.inr h
      rw [d1', vz_b2, if_neg ps_10, d6, pl_ac ya2 (by omega), vz_b2, c1', vz_b2, if_pos hb]
      refine ⟨b, z8, z9, rfl, E9, ⟨fun k => by omega, ?_⟩, I8, I9⟩
      rcases c3 with c3 | ⟨hb1, l, o, l1, l2, l3, l4, l5, l6, l7, l8, l9, l10, l11, l12, l13⟩
      · exact Or.inl c3
      · have hW : ∀ j, j < l → (z8 (a + 1) j).toNatClampNeg < 8 ∧ z8 (a + 1) j = nI (z8 (a + 1) j).toNatClampNeg ∧ z9 110 (12 + 4 * m + j) = nI (z8 (a + 1) j).toNatClampNeg := fun j hj => by
          obtain ⟨x, g1, g2, g3⟩ := l8 j hj
          rw [g2, g3, nI_clamp (by omega)]
          exact ⟨g1, rfl, rfl⟩
        have zc : ∀ b, b ≠ 1 → b ≠ a → b ≠ a + 1 → z8 b = x3 b := fun b h1 h2 h3 => by rw [w1 b h1 h2 h3, vz_up_ne _ _ _ h2, vz_up_ne _ _ _ h3, yc b h1 h2]
        have z9f : ∀ j, j ≠ m → j ≠ 4 + m → j ≠ 8 + m → (j < 12 + 4 * m ∨ 16 + 4 * m ≤ j) → z9 110 j = σ9 110 j := fun j h1 h2 h3 h4 => by rw [w5 j h3 h4, ps_upN _ _ (by omega), f3.1 110 (by omega), ps_upN _ _ h2, b3.1 110 (by omega), ps_upN _ _ h1]
        have zk : z9 110 m = nI kd := by rw [w5 m (by omega) (by omega), ps_upN _ _ (by omega), f3.1 110 (by omega), ps_upN _ _ (by omega), b3.1 110 (by omega), ps_upS]
        have zv : z9 110 (4 + m) = nI v := by rw [w5 (4 + m) (by omega) (by omega), ps_upN _ _ (by omega), f3.1 110 (by omega), ps_upS]
        have hok' := pl_Ok_mn (k := kd) (v := v) (l := l) (W := fun j => (z8 (a + 1) j).toNatClampNeg) hok h4 hkd (by omega) l1 l2 (fun j hj => (hW j hj).1)
        obtain ⟨-, q7, -⟩ := pt_e_spec (C := C) t8.1 l4
        refine Or.inr ⟨hb1, pl_mn A kd v l (fun j => (z8 (a + 1) j).toNatClampNeg), w, o, hok', hw, by omega, l4, l5, ⟨pl_T8 t8 I8, q7, l9, ?_, ?_, ?_⟩, pl_T9 t9 I9, l12, ?_, ?_, ?_, ?_, pl_X9 mX I9⟩
        · rw [l10, vz_up_ne _ _ _ (by omega), vz_up_ne _ _ _ (by omega), d3, vz_up_ne _ _ _ (by omega), a3, x3f 1 (by omega) (by omega)]; exact e6
        · rw [l11, vz_up_ne _ _ _ (by omega), vz_up_ne _ _ _ (by omega), d4, vz_up_ne _ _ _ (by omega), a4, x3f 1 (by omega) (by omega)]; exact e7
        · refine pl_C_mn hok h4 eC ?_ ?_ ?_ ?_ ?_ ?_ ?_
          · rw [zc 4 (by omega) (by omega) (by omega), ex3, ps_upS, em]
          · intro j hj
            rw [zc 4 (by omega) (by omega) (by omega), ex3, ps_upN _ _ hj, vz_up_ne _ _ _ (by omega), vz_up_ne _ _ _ (by omega)]
          · intro b h1 h2 h3 h5
            rw [zc b (by omega) (by omega) (by omega), x3f b (by omega) (by omega)]
          · rw [← em, ← ea, w2 0 (by omega), ps_upN _ _ (by omega), vz_up_ne _ _ _ (by omega), ya0 0 (by omega), ex3, vz_up_ne _ _ _ (by omega), ps_upN _ _ (by omega), ps_upS]
          · rw [← em, ← ea, w2 1 (by omega), ps_upN _ _ (by omega), vz_up_ne _ _ _ (by omega), ya]
          · rw [← em, ← ea]; exact l6
          · intro j hj
            rw [← em, ← ea]; exact (hW j hj).2.1
        · refine pl_M_mn hok h4 eM ?_ ?_ ?_ ?_ ?_
          · intro b h1 h2 h3 h5 h6 h7
            exact z9f b (by omega) (by omega) (by omega) (by omega)
          · rw [Nat.zero_add, ← em]; exact zk
          · rw [Nat.zero_add, ← em]; exact zv
          · rw [Nat.zero_add, ← em]; exact l7
          · intro j hj
            rw [Nat.zero_add, ← em]; exact (hW j hj).2.2
        · rw [l13, vz_up_ne _ _ _ (by omega), f3.2 4 (by omega), vz_up_ne _ _ _ (by omega), b3.2 4 (by omega), vz_up_ne _ _ _ (by omega), m4, nI_1]
          unfold pl_mn
          rw [ps_pthN _ _ _ (by omega), ps_setS]
        · rw [w4 5 (by omega) (by omega), vz_up_ne _ _ _ (by omega), f3.2 5 (by omega), vz_up_ne _ _ _ (by omega), b3.2 5 (by omega), vz_up_ne _ _ _ (by omega), m5]
          unfold pl_mn
          simp (disch := omega) only [ps_pthN, ps_setN]
        · rw [w4 6 (by omega) (by omega), vz_up_ne _ _ _ (by omega), f3.2 6 (by omega), vz_up_ne _ _ _ (by omega), b3.2 6 (by omega), vz_up_ne _ _ _ (by omega)]; exact m6
