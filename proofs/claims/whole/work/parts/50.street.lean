/-! pure: a street's line, a reader's line -/
theorem pl_add {σ : vz_I} {i : Nat} {x1 x2 : Int32} (hi : i < 9) (h : σ 4 1 = nI i) : f_X7_addStreet 4 x1 x2 σ = some (1, vz_up (vz_up (vz_up σ (4 + 3) i x1) (4 + 4) i x2) 4 1 (nI (i + 1))) := by
  have hin : vz_in (nI i) 9 := (ps_in (by omega)).mpr hi
  have e1 : (vz_up σ (4 + 3) i x1) 4 1 = nI i := by rw [vz_up_ne _ _ _ (by omega)]; exact h
  have e2 : (vz_up (vz_up σ (4 + 3) i x1) (4 + 4) i x2) 4 1 = nI i := by rw [vz_up_ne _ _ _ (by omega)]; exact e1
  unfold f_X7_addStreet
  rw [h, if_pos (show nI i < (9 : Int32) from nI_lt (b := 9) hi (by omega)), if_pos hin, nI_clamp (by omega), e1, if_pos hin, nI_clamp (by omega), vz_let, e2, nI_1]
theorem pl_44 {σ σ' : vz_I} {i : Nat} {x2 v : Int32} (hi : i < 9) (h : f_X9_number (0 : Int32) (7 : Int32) (vz_up σ 110 (43 + i) x2) = some (v, σ')) : f_X9_readStreet_44 (nI i) x2 σ = some (vz_up (vz_up σ' 110 (52 + i) v) 110 42 ((vz_up σ' 110 (52 + i) v) 110 42 + 1)) := by
  have c42 : (42 : Int32).toNatClampNeg = 42 := rfl
  have e43 : (43 : Int32) + nI i = nI (43 + i) := nI_add 43 i
  have e52 : (52 : Int32) + nI i = nI (52 + i) := nI_add 52 i
  unfold f_X9_readStreet_44
  rw [e43, if_pos ((ps_in (by omega)).mpr (by omega)), nI_clamp (by omega), h, vz_b2, e52, if_pos ((ps_in (by omega)).mpr (by omega)), if_pos (by decide), if_pos (by decide), nI_clamp (by omega), c42, vz_let]
theorem pl_44B {σ : vz_I} {i c s : Nat} {x2 : Int32} (hi : i < 9) (h : pt_BR c s σ) : ∃ σ', f_X9_readStreet_44 (nI i) x2 σ = some σ' ∧ pt_BR c s σ' ∧ pl_F9 σ σ' := by
  have h1 := pl_BR110 h (43 + i) x2
  exact ⟨_, pl_44 hi (pt_n9B h1), pl_BR110 (pl_BR110 h1 _ _) _ _, pl_F9_trans (pl_F9_110 _ _ _) (pl_F9_trans (pl_F9_110 _ _ _) (pl_F9_110 _ _ _))⟩
theorem pl_rstreet {n : Nat} {C : Nat → Nat} {A : ps_T} {w p : Nat} {σ8 σ9 : vz_I} (hok : ps_Ok A) (hw : w ≤ 1) (h9s : A 0 2 < 9) (h8 : pl_8 n C A w p σ8) (h9 : pl_9 n C A w p σ9) : ∃ b σ8' σ9', f_X6_readStreet σ8 = some (b, σ8') ∧ f_X9_readStreet σ9 = some σ9' ∧ pl_mid n C p b σ8' σ9' ∧ pl_F8 σ8 σ8' ∧ pl_F9 σ9 σ9' := by
  obtain ⟨t8, hp, e2, e6, e7, eC⟩ := h8
  obtain ⟨t9, r9, eM, m4, m5, m6, mX⟩ := h9
  have c42 : (42 : Int32).toNatClampNeg = 42 := rfl
  have i42 : σ9 110 42 = nI (A 0 2) := eM.2.2.1
  have i41 : σ8 4 1 = nI (A 0 2) := eC.2.1
  have l9 : nI (A 0 2) < (9 : Int32) := nI_lt (b := 9) h9s (by omega)
  rcases pl_num 0 7 t8 e2 hp t9 r9 (by omega) (by omega) with ⟨x8, x9, c, k4, a1, b1, a2, a3, b2, b3⟩ | ⟨x8, x9, v, q, k2, -, -, v1, q1, q2, a1, b1, a2, a3, a4, a5, a6, -, b2, b3⟩
  · have a1' : f_X6_takeNumber (0 : Int32) (7 : Int32) σ8 = some (0, x8) := a1
    have b1' : f_X9_number (0 : Int32) (7 : Int32) σ9 = some (0, x9) := b1
    obtain ⟨y9, g1, g2, g3⟩ := pl_44B (x2 := 0) h9s b2
    have E8 : f_X6_readStreet σ8 = some (0, x8) := by
      unfold f_X6_readStreet
      rw [i41, if_pos l9, a1', vz_b2, if_pos rfl]
    have E9 : f_X9_readStreet σ9 = some y9 := by
      unfold f_X9_readStreet
      rw [if_pos (by decide), b1', vz_b2, if_neg (pt_B0 b2), c42, i42, g1]
    exact ⟨0, x8, y9, E8, E9, ⟨fun k => ⟨rfl, by rw [k4 k] at a3; exact a3⟩, Or.inl ⟨rfl, c, _, a3, Or.inl g2⟩⟩, pl_F8_of a2, pl_F9_trans (pl_F9_of b3) g3⟩
  · have a1' : f_X6_takeNumber (0 : Int32) (7 : Int32) σ8 = some (1, x8) := a1
    have b1' : f_X9_number (0 : Int32) (7 : Int32) σ9 = some (nI v, x9) := b1
    have G8 := pl_F8_of a2
    have G9 := pl_F9_of b3
    have tx8 := pl_T8 t8 G8
    by_cases hsame : pt_k n C q = 2 ∧ pt_v n C q = v
    · obtain ⟨kq, vq⟩ := hsame
      obtain ⟨u1, u2, u3, u4, u5⟩ := b2.2 (by omega)
      have u5' := u5 kq
      rw [kq] at u4
      rw [vq] at u5'
      have nf0 : pt_nf n C q 0 7 = 0 := by
        unfold pt_nf
        rw [if_neg (by omega), if_neg (by omega), if_neg (by omega)]
      obtain ⟨y8, d1, d2, d3, d4, d5, d6, d7⟩ := pt_n8t tx8 a5 q2 (by omega) (by omega) nf0
      have d1' : f_X6_takeNumber (0 : Int32) (7 : Int32) x8 = some (1, y8) := d1
      rw [vq] at d6
      obtain ⟨r1, r2⟩ := pt_ref8 y8 (c := 3) (s := pt_s n C q) (by omega)
      obtain ⟨f1, f2⟩ := pt_fails (c := 3) u1 u3 (by omega)
      obtain ⟨y9, g1, g2, g3⟩ := pl_44B (x2 := nI v) h9s f1
      have g1' : f_X9_readStreet_44 (nI (A 0 2)) (nI v) (f_X9_fails (3 : Int32) x9) = some y9 := g1
      have E8 : f_X6_readStreet σ8 = some (0, vz_up (vz_up y8 1 7 (nI 3)) 1 8 (nI (pt_s n C q))) := by
        unfold f_X6_readStreet
        rw [i41, if_pos l9, a1', vz_b2, if_neg ps_10, d1', vz_b2, if_neg ps_10, a6, d6, if_pos rfl, d7]
        rfl
      have E9 : f_X9_readStreet σ9 = some y9 := by
        unfold f_X9_readStreet
        rw [if_pos (by decide), b1', vz_b2, if_pos u1, if_pos (show x9 108 14 = (2 : Int32) from u4), if_pos u5', c42, i42, g1']
      exact ⟨0, _, y9, E8, E9, ⟨fun k => by omega, Or.inl ⟨rfl, 3, _, r1, Or.inl g2⟩⟩, pl_F8_trans G8 (pl_F8_trans (pl_F8_of d2) (pl_F8_of r2)), pl_F9_trans G9 (pl_F9_trans (pl_F9_of f2) g3)⟩
    · have R44 : ∀ y, f_X9_readStreet_44 (nI (A 0 2)) (nI v) x9 = some y → f_X9_readStreet σ9 = some y := by
        intro y hy
        unfold f_X9_readStreet
        rw [if_pos (by decide), b1', vz_b2, c42, i42]
        by_cases k4 : pt_k n C q = 4
        · rw [if_neg (pt_B0 (pt_R9_4 b2 k4)), hy]
        · obtain ⟨u1, u2, u3, u4, u5⟩ := b2.2 k4
          rw [if_pos u1, u4]
          by_cases kq : pt_k n C q = 2
          · have hv := pt_v_lt t8.1 q2 kq
            rw [kq, if_pos (show nI 2 = (2 : Int32) from rfl), u5 kq, if_neg (fun z => hsame ⟨kq, (nI_eq (by omega) (by omega)).mp z⟩), hy]
          · have kk : pt_k n C q < 10 := by unfold pt_k; repeat (first | omega | split)
            rw [if_neg (show ¬ nI (pt_k n C q) = (2 : Int32) from fun z => kq ((nI_eq (b := 2) (by omega) (by omega)).mp z)), hy]
      have M9 := pl_F9_trans G9 (pl_F9_110 x9 (43 + A 0 2) (nI v))
      rcases pl_num 0 7 tx8 a5 q2 (pl_T9 t9 M9) (pl_R9_110 b2 (43 + A 0 2) (nI v)) (by omega) (by omega) with ⟨y8, y9, c, -, d1, f1, d2, d3, f2, f3⟩ | ⟨y8, y9, u, r, kq, uq, -, u1, r1, r2, d1, f1, d2, d3, d4, d5, d6, -, f2, f3⟩
      · have d1' : f_X6_takeNumber (0 : Int32) (7 : Int32) x8 = some (0, y8) := d1
        have f1' : f_X9_number (0 : Int32) (7 : Int32) (vz_up x9 110 (43 + A 0 2) (nI v)) = some (0, y9) := f1
        have E8 : f_X6_readStreet σ8 = some (0, y8) := by
          unfold f_X6_readStreet
          rw [i41, if_pos l9, a1', vz_b2, if_neg ps_10, d1', vz_b2, if_pos rfl]
        exact ⟨0, y8, _, E8, R44 _ (pl_44 h9s f1'), ⟨fun k => by omega, Or.inl ⟨rfl, c, _, d3, Or.inl (pl_BR110 (pl_BR110 f2 _ _) _ _)⟩⟩, pl_F8_trans G8 (pl_F8_of d2), pl_F9_trans M9 (pl_F9_trans (pl_F9_of f3) (pl_F9_trans (pl_F9_110 _ _ _) (pl_F9_110 _ _ _)))⟩
      · have d1' : f_X6_takeNumber (0 : Int32) (7 : Int32) x8 = some (1, y8) := d1
        have f1' : f_X9_number (0 : Int32) (7 : Int32) (vz_up x9 110 (43 + A 0 2) (nI v)) = some (nI u, y9) := f1
        have hne : u ≠ v := fun z => hsame ⟨kq, by omega⟩
        have hok' := ps_Ok_pave (a := v) (b := u) hok h9s (by omega) (by omega)
        have H8 := pl_F8_trans G8 (pl_F8_of d2)
        have y42 : y9 110 42 = nI (A 0 2) := by
          rw [f3.1 110 (by omega), ps_upN _ _ (by omega), b3.1 110 (by omega)]; exact i42
        have w42 : (vz_up y9 110 (52 + A 0 2) (nI u)) 110 42 + 1 = nI (A 0 2 + 1) := by rw [ps_upN _ _ (by omega), y42, nI_1]
        have H9 := pl_F9_trans M9 (pl_F9_trans (pl_F9_of f3) (pl_F9_trans (pl_F9_110 y9 (52 + A 0 2) (nI u)) (pl_F9_110 _ 42 (nI (A 0 2 + 1)))))
        have eC' : ps_C A y8 4 := ps_C_fr hok eC (fun b h1 h2 => by rw [d2 b (by omega), a2 b (by omega)])
        have I8 := pl_F8_trans H8 (pl_F8_trans (pl_F8_up y8 (a := 4 + 3) (A 0 2) (nI v) (by omega)) (pl_F8_trans (pl_F8_up _ (a := 4 + 4) (A 0 2) (nI u) (by omega)) (pl_F8_up _ (a := 4) 1 (nI (A 0 2 + 1)) (by omega))))
        have Z8 : pl_8 n C (ps_set (ps_set (ps_set A 8 (A 0 2) v) 9 (A 0 2) u) 0 2 (A 0 2 + 1)) w r (vz_up (vz_up (vz_up y8 (4 + 3) (A 0 2) (nI v)) (4 + 4) (A 0 2) (nI u)) 4 1 (nI (A 0 2 + 1))) := by
          refine ⟨pl_T8 t8 I8, r2, ?_, ?_, ?_, ps_C_pave hok eC'⟩
          · rw [vz_up_ne _ _ _ (by omega), vz_up_ne _ _ _ (by omega), vz_up_ne _ _ _ (by omega)]; exact d5
          · rw [vz_up_ne _ _ _ (by omega), vz_up_ne _ _ _ (by omega), vz_up_ne _ _ _ (by omega), d3, a3]; exact e6
          · rw [vz_up_ne _ _ _ (by omega), vz_up_ne _ _ _ (by omega), vz_up_ne _ _ _ (by omega), d4, a4]; exact e7
        have Z9 : pl_9 n C (ps_set (ps_set (ps_set A 8 (A 0 2) v) 9 (A 0 2) u) 0 2 (A 0 2 + 1)) w r (vz_up (vz_up y9 110 (52 + A 0 2) (nI u)) 110 42 (nI (A 0 2 + 1))) := by
          refine ⟨pl_T9 t9 H9, pl_R9_110 (pl_R9_110 f2 _ _) _ _, ?_, ?_, ?_, ?_, pl_X9 mX H9⟩
          · have q := ps_M_pave (a := v) (b := u) hok h9s eM
            refine ps_M_fr hok' q (fun b h1 h2 => ?_)
            rw [vz_up_self, vz_up_self, f3.1 110 (by omega), vz_up_self, b3.1 110 (by omega), Nat.zero_add, Nat.zero_add, Nat.zero_add]
          · rw [vz_up_ne _ _ _ (by omega), vz_up_ne _ _ _ (by omega), f3.2 4 (by omega), vz_up_ne _ _ _ (by omega), b3.2 4 (by omega), ps_setN _ _ (by omega), ps_setN _ _ (by omega), ps_setN _ _ (by omega)]; exact m4
          · rw [vz_up_ne _ _ _ (by omega), vz_up_ne _ _ _ (by omega), f3.2 5 (by omega), vz_up_ne _ _ _ (by omega), b3.2 5 (by omega), ps_setN _ _ (by omega), ps_setN _ _ (by omega), ps_setN _ _ (by omega)]; exact m5
          · rw [vz_up_ne _ _ _ (by omega), vz_up_ne _ _ _ (by omega), f3.2 6 (by omega), vz_up_ne _ _ _ (by omega), b3.2 6 (by omega)]; exact m6
        obtain ⟨b, z8, s1, s2, s3⟩ := pl_sm (p := p) hok' hw (by omega) Z8 Z9
        have E8 : f_X6_readStreet σ8 = some (b, z8) := by
          unfold f_X6_readStreet
          rw [i41, if_pos l9, a1', vz_b2, if_neg ps_10, d1', vz_b2, if_neg ps_10, a6, d6, if_neg (fun z => hne ((nI_eq (by omega) (by omega)).mp z)), pl_add h9s eC'.2.1, vz_b2, s1, vz_b2, if_pos (pl_b01 s2)]
        have E9 := R44 _ (pl_44 h9s f1')
        rw [w42] at E9
        exact ⟨b, z8, _, E8, E9, ⟨fun k => by omega, s2⟩, pl_F8_trans I8 (pl_F8_of s3), H9⟩
/-! a reader more -/
def pl_rd (A : ps_T) (c f u : Nat) : ps_T := ps_set (ps_set (ps_set (ps_set A 4 (A 0 1) c) 5 (A 0 1) f) 6 (A 0 1) u) 0 1 (A 0 1 + 1)
theorem pl_C_rd {A : ps_T} {σ : vz_I} {T c f u : Nat} (hok : ps_Ok A) (h4 : A 0 1 < 4) (h : ps_C A σ T) : ps_C (pl_rd A c f u) (vz_up (vz_up (vz_up (vz_up σ T 2 (nI (A 0 1 + 1))) (T + 13 + A 0 1) 0 (nI c)) (T + 13 + A 0 1) 1 (nI f)) (T + 13 + A 0 1) 2 (nI u)) T := by
  obtain ⟨h1, h2, h3, h4', h5, h6, h7, h8⟩ := h
  obtain ⟨o1, o2, o3, -⟩ := hok
  unfold pl_rd
  refine ⟨?_, ?_, ?_, ?_, ?_, fun m' hm' => ?_, fun r hr => ?_, fun i hi => ?_⟩
  · simp (disch := omega) only [ps_upN, vz_up_ne, ps_setN, h1]
  · simp (disch := omega) only [ps_upN, vz_up_ne, ps_setN, h2]
  · simp (disch := omega) only [ps_upS, vz_up_ne, ps_setS]
  · simp (disch := omega) only [ps_upN, vz_up_ne, ps_setN, h4']
  · simp (disch := omega) only [ps_upN, vz_up_ne, ps_setN, h5]
  · simp (disch := omega) only [ps_setN] at hm' ⊢
    simp (disch := omega) only [vz_up_ne]
    exact h6 m' hm'
  · rw [ps_setS] at hr
    by_cases e : r = A 0 1
    · subst e
      simp (disch := omega) only [ps_setN, ps_setS, vz_up_ne, ps_upS, ps_upN]
      exact ⟨trivial, trivial, trivial⟩
    · simp (disch := omega) only [ps_setN, vz_up_ne, ps_upN]
      exact h7 r (by omega)
  · simp (disch := omega) only [ps_setN] at hi ⊢
    simp (disch := omega) only [vz_up_ne]
    exact h8 i hi
theorem pl_M_rd {A : ps_T} {g : Nat → Int32} {p c f u : Nat} (hok : ps_Ok A) (h4 : A 0 1 < 4) (h : ps_M A g p) : ps_M (pl_rd A c f u) (upd (upd (upd g (p + 28 + A 0 1) (nI c)) (p + 32 + A 0 1) (nI f)) (p + 36 + A 0 1) (nI u)) p := by
  obtain ⟨h1, h2, h3, h6, h7, h8⟩ := h
  obtain ⟨o1, o2, o3, -, -, o6, -⟩ := hok
  unfold pl_rd
  refine ⟨?_, ?_, ?_, fun m' hm' => ?_, fun r hr => ?_, fun i hi => ?_⟩
  · simp (disch := omega) only [ps_updN, ps_setN, h1]
  · simp (disch := omega) only [ps_updN, ps_setN, h2]
  · simp (disch := omega) only [ps_updN, ps_setN, h3]
  · simp (disch := omega) only [ps_setN] at hm' ⊢
    have ho := o6 m' hm'
    obtain ⟨g1, g2, g3, g4⟩ := h6 m' hm'
    refine ⟨?_, ?_, ?_, fun i hi => ?_⟩
    · simp (disch := omega) only [ps_updN]; exact g1
    · simp (disch := omega) only [ps_updN]; exact g2
    · simp (disch := omega) only [ps_updN]; exact g3
    · simp (disch := omega) only [ps_updN]; exact g4 i hi
  · rw [ps_setS] at hr
    by_cases e : r = A 0 1
    · subst e
      simp (disch := omega) only [ps_setN, ps_setS, ps_updN, ps_updS]
      exact ⟨trivial, trivial, trivial⟩
    · simp (disch := omega) only [ps_setN, ps_updN]
      exact h7 r (by omega)
  · simp (disch := omega) only [ps_setN] at hi ⊢
    simp (disch := omega) only [ps_updN]
    exact h8 i hi
theorem pl_Ok_rd {A : ps_T} {c f u : Nat} (h : ps_Ok A) (h4 : A 0 1 < 4) (hc : c < 8) (hf : f ≤ u) (hu : u < 60) : ps_Ok (pl_rd A c f u) := by
  obtain ⟨o1, o2, o3, o4, o5, o6, o7, o8⟩ := h
  unfold pl_rd
  refine ⟨?_, ?_, ?_, ?_, ?_, fun m' hm' => ?_, fun r hr => ?_, fun i hi => ?_⟩
  · simp (disch := omega) only [ps_setN]; exact o1
  · simp (disch := omega) only [ps_setS]; omega
  · simp (disch := omega) only [ps_setN]; exact o3
  · simp (disch := omega) only [ps_setN]; exact o4
  · simp (disch := omega) only [ps_setN]; exact o5
  · simp (disch := omega) only [ps_setN] at hm' ⊢; exact o6 m' hm'
  · rw [ps_setS] at hr
    by_cases e : r = A 0 1
    · subst e
      simp (disch := omega) only [ps_setN, ps_setS]
      exact ⟨hc, hf, hu⟩
    · simp (disch := omega) only [ps_setN]
      exact o7 r (by omega)
  · simp (disch := omega) only [ps_setN] at hi ⊢; exact o8 i hi
theorem pl_addr {σ : vz_I} {r : Nat} (hr : r < 4) (h : σ 4 2 = nI r) : f_X7_addReader 4 σ = some (some (4 + 13 + r), vz_up σ 4 2 (nI (r + 1))) := by
  unfold f_X7_addReader
  rw [h, if_pos (show nI r < (4 : Int32) from nI_lt (b := 4) hr (by omega)), nI_1, ps_upS, nI_pred, if_pos ((ps_in (by omega)).mpr hr), nI_clamp (by omega)]
theorem pl_rr9 {σ x y z : vz_I} {r : Nat} {v1 v2 v3 : Int32} (hr : r < 4) (h : σ 108 5 = nI r) (g1 : f_X9_number (0 : Int32) (7 : Int32) σ = some (v1, x)) (g2 : f_X9_number (0 : Int32) (59 : Int32) (vz_up x 110 (28 + r) v1) = some (v2, y)) (g3 : f_X9_number v2 (59 : Int32) (vz_up y 110 (32 + r) v2) = some (v3, z)) : f_X9_readReader σ = some (vz_up (vz_up z 110 (36 + r) v3) 108 5 (z 108 5 + 1)) := by
  have e28 : (28 : Int32) + nI r = nI (28 + r) := nI_add 28 r
  have e32 : (32 : Int32) + nI r = nI (32 + r) := nI_add 32 r
  have e36 : (36 : Int32) + nI r = nI (36 + r) := nI_add 36 r
  unfold f_X9_readReader
  rw [g1, vz_b2, h, e28, e32, e36, if_pos ((ps_in (by omega)).mpr (by omega)), nI_clamp (by omega), g2, vz_b2, if_pos ((ps_in (by omega)).mpr (by omega)), if_pos ((ps_in (by omega)).mpr (by omega)), nI_clamp (by omega), ps_upS, g3, vz_b2, if_pos ((ps_in (by omega)).mpr (by omega)), nI_clamp (by omega), vz_let, vz_up_ne _ _ _ (show (108 : Nat) ≠ 110 by omega)]
theorem pl_rreader {n : Nat} {C : Nat → Nat} {A : ps_T} {w p : Nat} {σ8 σ9 : vz_I} (hok : ps_Ok A) (hw : w ≤ 1) (h4 : A 0 1 < 4) (h8 : pl_8 n C A w p σ8) (h9 : pl_9 n C A w p σ9) : ∃ b σ8' σ9', f_X6_readReader σ8 = some (b, σ8') ∧ f_X9_readReader σ9 = some σ9' ∧ pl_mid n C p b σ8' σ9' ∧ pl_F8 σ8 σ8' ∧ pl_F9 σ9 σ9' := by
  obtain ⟨t8, hp, e2, e6, e7, eC⟩ := h8
  obtain ⟨t9, r9, eM, m4, m5, m6, mX⟩ := h9
  have eA := pl_addr h4 eC.2.2.1
  have F0 : pl_F8 σ8 (vz_up σ8 4 2 (nI (A 0 1 + 1))) := pl_F8_up σ8 _ _ (by omega)
  have E80 : f_X6_readReader σ8 = vz_b2 (f_X6_takeNumber (0 : Int32) (7 : Int32) (vz_up σ8 4 2 (nI (A 0 1 + 1)))) (fun v10 σ11 => if v10 = 0 then some ((0 : Int32), σ11) else vz_b2 (f_X6_takeNumber (0 : Int32) (59 : Int32) (vz_up σ11 (4 + 13 + A 0 1) 0 (σ11 1 5))) (fun v14 σ15 => if v14 = 0 then some ((0 : Int32), σ15) else vz_b2 (f_X6_takeNumber ((vz_up σ15 (4 + 13 + A 0 1) 1 (σ15 1 5)) (4 + 13 + A 0 1) 1) (59 : Int32) (vz_up σ15 (4 + 13 + A 0 1) 1 (σ15 1 5))) (fun v18 σ19 => if v18 = 0 then some ((0 : Int32), σ19) else vz_b2 (f_X6_takeSemicolon (vz_up σ19 (4 + 13 + A 0 1) 2 (σ19 1 5))) (fun v22 σ23 => if v22 = 0 ∨ v22 = 1 then some (v22, σ23) else none)))) := by
    unfold f_X6_readReader
    rw [eA, vz_b2, vz_mo]
  rw [E80]
  rcases pl_num 0 7 (pl_T8 t8 F0) (show (vz_up σ8 4 2 (nI (A 0 1 + 1))) 1 2 = nI p by rw [vz_up_ne _ _ _ (by omega)]; exact e2) hp t9 r9 (by omega) (by omega) with ⟨x8, x9, c, k4, a1, b1, a2, a3, b2, b3⟩ | ⟨x8, x9, v, q, k2, -, -, v1, q1, q2, a1, b1, a2, a3, a4, a5, a6, -, b2, b3⟩
  · have a1' : f_X6_takeNumber (0 : Int32) (7 : Int32) (vz_up σ8 4 2 (nI (A 0 1 + 1))) = some (0, x8) := a1
    have b1' : f_X9_number (0 : Int32) (7 : Int32) σ9 = some (0, x9) := b1
    have B1 := pl_BR110 b2 (28 + A 0 1) 0
    have B2 := pl_BR110 B1 (32 + A 0 1) 0
    have E9 := pl_rr9 h4 m5 b1' (pt_n9B B1) (pt_n9B B2)
    rw [a1', vz_b2, if_pos rfl]
    exact ⟨0, x8, _, rfl, E9, ⟨fun k => ⟨rfl, by rw [k4 k] at a3; exact a3⟩, Or.inl ⟨rfl, c, _, a3, Or.inl (pl_BR108 (pl_BR110 B2 _ _) _ (by omega))⟩⟩, pl_F8_trans F0 (pl_F8_of a2), pl_F9_trans (pl_F9_of b3) (pl_F9_trans (pl_F9_110 _ _ _) (pl_F9_trans (pl_F9_110 _ _ _) (pl_F9_trans (pl_F9_110 _ _ _) (pl_F9_108 _ _ (by omega)))))⟩
  · have a1' : f_X6_takeNumber (0 : Int32) (7 : Int32) (vz_up σ8 4 2 (nI (A 0 1 + 1))) = some (1, x8) := a1
    have b1' : f_X9_number (0 : Int32) (7 : Int32) σ9 = some (nI v, x9) := b1
    have G8 := pl_F8_trans F0 (pl_F8_trans (pl_F8_of a2) (pl_F8_up x8 (a := 4 + 13 + A 0 1) 0 (nI v) (by omega)))
    have G9 := pl_F9_trans (pl_F9_of b3) (pl_F9_110 x9 (28 + A 0 1) (nI v))
    rw [a1', vz_b2, if_neg ps_10, a6]
    rcases pl_num 0 59 (pl_T8 t8 G8) (show (vz_up x8 (4 + 13 + A 0 1) 0 (nI v)) 1 2 = nI q by rw [vz_up_ne _ _ _ (by omega)]; exact a5) q2 (pl_T9 t9 G9) (pl_R9_110 b2 (28 + A 0 1) (nI v)) (by omega) (by omega) with ⟨y8, y9, c, -, d1, f1, d2, d3, f2, f3⟩ | ⟨y8, y9, u, r, -, -, -, u1, r1, r2, d1, f1, d2, d3, d4, d5, d6, -, f2, f3⟩
    · have d1' : f_X6_takeNumber (0 : Int32) (59 : Int32) (vz_up x8 (4 + 13 + A 0 1) 0 (nI v)) = some (0, y8) := d1
      have f1' : f_X9_number (0 : Int32) (59 : Int32) (vz_up x9 110 (28 + A 0 1) (nI v)) = some (0, y9) := f1
      have B2 := pl_BR110 f2 (32 + A 0 1) 0
      have E9 := pl_rr9 h4 m5 b1' f1' (pt_n9B B2)
      rw [d1', vz_b2, if_pos rfl]
      exact ⟨0, y8, _, rfl, E9, ⟨fun k => by omega, Or.inl ⟨rfl, c, _, d3, Or.inl (pl_BR108 (pl_BR110 B2 _ _) _ (by omega))⟩⟩, pl_F8_trans G8 (pl_F8_of d2), pl_F9_trans G9 (pl_F9_trans (pl_F9_of f3) (pl_F9_trans (pl_F9_110 _ _ _) (pl_F9_trans (pl_F9_110 _ _ _) (pl_F9_108 _ _ (by omega)))))⟩
    · have d1' : f_X6_takeNumber (0 : Int32) (59 : Int32) (vz_up x8 (4 + 13 + A 0 1) 0 (nI v)) = some (1, y8) := d1
      have f1' : f_X9_number (0 : Int32) (59 : Int32) (vz_up x9 110 (28 + A 0 1) (nI v)) = some (nI u, y9) := f1
      have H8 := pl_F8_trans G8 (pl_F8_trans (pl_F8_of d2) (pl_F8_up y8 (a := 4 + 13 + A 0 1) 1 (nI u) (by omega)))
      have H9 := pl_F9_trans G9 (pl_F9_trans (pl_F9_of f3) (pl_F9_110 y9 (32 + A 0 1) (nI u)))
      rw [d1', vz_b2, if_neg ps_10, d6, ps_upS]
      rcases pl_num u 59 (pl_T8 t8 H8) (show (vz_up y8 (4 + 13 + A 0 1) 1 (nI u)) 1 2 = nI r by rw [vz_up_ne _ _ _ (by omega)]; exact d5) r2 (pl_T9 t9 H9) (pl_R9_110 f2 (32 + A 0 1) (nI u)) (by omega) (by omega) with ⟨z8, z9, c, -, g1, j1, g2, g3, j2, j3⟩ | ⟨z8, z9, t, o, -, -, t1, t2, o1, o2, g1, j1, g2, g3, g4, g5, g6, -, j2, j3⟩
      · have g1' : f_X6_takeNumber (nI u) (59 : Int32) (vz_up y8 (4 + 13 + A 0 1) 1 (nI u)) = some (0, z8) := g1
        have j1' : f_X9_number (nI u) (59 : Int32) (vz_up y9 110 (32 + A 0 1) (nI u)) = some (nI u, z9) := j1
        have E9 := pl_rr9 h4 m5 b1' f1' j1'
        rw [g1', vz_b2, if_pos rfl]
        exact ⟨0, z8, _, rfl, E9, ⟨fun k => by omega, Or.inl ⟨rfl, c, _, g3, Or.inl (pl_BR108 (pl_BR110 j2 _ _) _ (by omega))⟩⟩, pl_F8_trans H8 (pl_F8_of g2), pl_F9_trans H9 (pl_F9_trans (pl_F9_of j3) (pl_F9_trans (pl_F9_110 _ _ _) (pl_F9_108 _ _ (by omega))))⟩
      · have g1' : f_X6_takeNumber (nI u) (59 : Int32) (vz_up y8 (4 + 13 + A 0 1) 1 (nI u)) = some (1, z8) := g1
        have j1' : f_X9_number (nI u) (59 : Int32) (vz_up y9 110 (32 + A 0 1) (nI u)) = some (nI t, z9) := j1
        have E9 := pl_rr9 h4 m5 b1' f1' j1'
        have z5 : z9 108 5 = nI (A 0 1) := by rw [j3.2 5 (by omega), vz_up_ne _ _ _ (by omega), f3.2 5 (by omega), vz_up_ne _ _ _ (by omega), b3.2 5 (by omega)]; exact m5
        rw [z5, nI_1] at E9
        have hok' := pl_Ok_rd (c := v) (f := u) (u := t) hok h4 (by omega) t1 (by omega)
        have I8 := pl_F8_trans H8 (pl_F8_trans (pl_F8_of g2) (pl_F8_up z8 (a := 4 + 13 + A 0 1) 2 (nI t) (by omega)))
        have I9 := pl_F9_trans H9 (pl_F9_trans (pl_F9_of j3) (pl_F9_trans (pl_F9_110 z9 (36 + A 0 1) (nI t)) (pl_F9_108 _ (k := 5) (nI (A 0 1 + 1)) (by omega))))
        have Z8 : pl_8 n C (pl_rd A v u t) w o (vz_up z8 (4 + 13 + A 0 1) 2 (nI t)) := by
          refine ⟨pl_T8 t8 I8, o2, ?_, ?_, ?_, ps_C_fr hok' (pl_C_rd (c := v) (f := u) (u := t) hok h4 eC) (fun b h1 h2 => ?_)⟩
          · rw [vz_up_ne _ _ _ (by omega)]; exact g5
          · rw [vz_up_ne _ _ _ (by omega), g3, vz_up_ne _ _ _ (by omega), d3, vz_up_ne _ _ _ (by omega), a3, vz_up_ne _ _ _ (by omega)]; exact e6
          · rw [vz_up_ne _ _ _ (by omega), g4, vz_up_ne _ _ _ (by omega), d4, vz_up_ne _ _ _ (by omega), a4, vz_up_ne _ _ _ (by omega)]; exact e7
          · exact pl_upc _ _ _ ((g2 b (by omega)).trans (pl_upc _ _ _ ((d2 b (by omega)).trans (pl_upc _ _ _ (a2 b (by omega))))))
        have Z9 : pl_9 n C (pl_rd A v u t) w o (vz_up (vz_up z9 110 (36 + A 0 1) (nI t)) 108 5 (nI (A 0 1 + 1))) := by
          refine ⟨pl_T9 t9 I9, pl_R9_108 (pl_R9_110 j2 _ _) _ (by omega), ?_, ?_, ?_, ?_, pl_X9 mX I9⟩
          · have q := pl_M_rd (c := v) (f := u) (u := t) hok h4 eM
            refine ps_M_fr hok' q (fun b h1 h2 => ?_)
            rw [vz_up_ne _ _ _ (by omega), vz_up_self, j3.1 110 (by omega), vz_up_self, f3.1 110 (by omega), vz_up_self, b3.1 110 (by omega), Nat.zero_add, Nat.zero_add, Nat.zero_add]
          · rw [ps_upN _ _ (by omega), vz_up_ne _ _ _ (by omega), j3.2 4 (by omega), vz_up_ne _ _ _ (by omega), f3.2 4 (by omega), vz_up_ne _ _ _ (by omega), b3.2 4 (by omega)]
            unfold pl_rd
            rw [ps_setN _ _ (by omega), ps_setN _ _ (by omega), ps_setN _ _ (by omega), ps_setN _ _ (by omega)]; exact m4
          · rw [ps_upS]
            unfold pl_rd
            rw [ps_setS]
          · rw [ps_upN _ _ (by omega), vz_up_ne _ _ _ (by omega), j3.2 6 (by omega), vz_up_ne _ _ _ (by omega), f3.2 6 (by omega), vz_up_ne _ _ _ (by omega), b3.2 6 (by omega)]; exact m6
        obtain ⟨b, w8, s1, s2, s3⟩ := pl_sm (p := p) hok' hw (by omega) Z8 Z9
        rw [g1', vz_b2, if_neg ps_10, g6, s1, vz_b2, if_pos (pl_b01 s2)]
        exact ⟨b, w8, _, rfl, E9, ⟨fun k => by omega, s2⟩, pl_F8_trans I8 (pl_F8_of s3), I9⟩
