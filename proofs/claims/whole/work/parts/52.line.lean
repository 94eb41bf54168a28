/-! pure: a line, both sides -/
def pl_8t (n : Nat) (C : Nat → Nat) (A : ps_T) (w p : Nat) (σ : vz_I) : Prop := pl_8 n C A w (pt_e n C p) σ ∧ σ 1 3 = nI (pt_k n C p) ∧ σ 1 4 = nI (pt_s n C p) ∧ p ≤ n
theorem pl_l8m {σ σ' : vz_I} {j : Nat} {b : Int32} (h3 : σ 1 3 = (1 : Int32)) (hl : f_X6_lineNamed σ = some (nI j)) (hj : j < 4) (hr : f_X6_readMan (nI j) σ = some (b, σ')) (hb : b = 0 ∨ b = 1) : f_X6_readLine σ = some (b, σ') := by
  unfold f_X6_readLine
  rw [if_pos h3, hl, vz_b1]
  rcases (show j = 0 ∨ j = 1 ∨ j = 2 ∨ j = 3 by omega) with rfl | rfl | rfl | rfl
  · rw [if_pos (show nI 0 = (0 : Int32) from rfl), hr, vz_b2, if_pos hb]
  · rw [if_neg (show ¬ nI 1 = (0 : Int32) by decide), if_pos (show nI 1 = (1 : Int32) from rfl), hr, vz_b2, if_pos hb]
  · rw [if_neg (show ¬ nI 2 = (0 : Int32) by decide), if_neg (show ¬ nI 2 = (1 : Int32) by decide), if_pos (show nI 2 = (2 : Int32) from rfl), hr, vz_b2, if_pos hb]
  · rw [if_neg (show ¬ nI 3 = (0 : Int32) by decide), if_neg (show ¬ nI 3 = (1 : Int32) by decide), if_neg (show ¬ nI 3 = (2 : Int32) by decide), if_pos (show nI 3 = (3 : Int32) from rfl), hr, vz_b2, if_pos hb]
theorem pl_l8s {σ σ' : vz_I} {b : Int32} (h3 : σ 1 3 = (1 : Int32)) (hl : f_X6_lineNamed σ = some (nI 4)) (hr : f_X6_readStreet σ = some (b, σ')) (hb : b = 0 ∨ b = 1) : f_X6_readLine σ = some (b, σ') := by
  unfold f_X6_readLine
  rw [if_pos h3, hl, vz_b1, if_neg (show ¬ nI 4 = (0 : Int32) by decide), if_neg (show ¬ nI 4 = (1 : Int32) by decide), if_neg (show ¬ nI 4 = (2 : Int32) by decide), if_neg (show ¬ nI 4 = (3 : Int32) by decide), if_pos (show nI 4 = (4 : Int32) from rfl), hr, vz_b2, if_pos hb]
theorem pl_l8r {σ σ' : vz_I} {b : Int32} (h3 : σ 1 3 = (1 : Int32)) (hl : f_X6_lineNamed σ = some (nI 5)) (hr : f_X6_readReader σ = some (b, σ')) (hb : b = 0 ∨ b = 1) : f_X6_readLine σ = some (b, σ') := by
  unfold f_X6_readLine
  rw [if_pos h3, hl, vz_b1, if_neg (show ¬ nI 5 = (0 : Int32) by decide), if_neg (show ¬ nI 5 = (1 : Int32) by decide), if_neg (show ¬ nI 5 = (2 : Int32) by decide), if_neg (show ¬ nI 5 = (3 : Int32) by decide), if_neg (show ¬ nI 5 = (4 : Int32) by decide), if_pos (show nI 5 = (5 : Int32) from rfl), hr, vz_b2, if_pos hb]
theorem pl_l8n {σ σ' : vz_I} {b : Int32} (h3 : σ 1 3 = (1 : Int32)) (hl : f_X6_lineNamed σ = some (nI 6)) (hr : f_X6_readRain σ = some (b, σ')) (hb : b = 0 ∨ b = 1) : f_X6_readLine σ = some (b, σ') := by
  unfold f_X6_readLine
  rw [if_pos h3, hl, vz_b1, if_neg (show ¬ nI 6 = (0 : Int32) by decide), if_neg (show ¬ nI 6 = (1 : Int32) by decide), if_neg (show ¬ nI 6 = (2 : Int32) by decide), if_neg (show ¬ nI 6 = (3 : Int32) by decide), if_neg (show ¬ nI 6 = (4 : Int32) by decide), if_neg (show ¬ nI 6 = (5 : Int32) by decide), if_pos (show nI 6 = (6 : Int32) from rfl), hr, vz_b2, if_pos hb]
theorem pl_l8x {σ : vz_I} {s : Nat} (h3 : σ 1 3 = (1 : Int32)) (h4 : σ 1 4 = nI s) (hl : f_X6_lineNamed σ = some (-4)) : f_X6_readLine σ = some (0, vz_up (vz_up σ 1 7 (nI 2)) 1 8 (nI s)) := by
  unfold f_X6_readLine
  rw [if_pos h3, hl, vz_b1, if_neg (show ¬ (-4 : Int32) = (0 : Int32) by decide), if_neg (show ¬ (-4 : Int32) = (1 : Int32) by decide), if_neg (show ¬ (-4 : Int32) = (2 : Int32) by decide), if_neg (show ¬ (-4 : Int32) = (3 : Int32) by decide), if_neg (show ¬ (-4 : Int32) = (4 : Int32) by decide), if_neg (show ¬ (-4 : Int32) = (5 : Int32) by decide), if_neg (show ¬ (-4 : Int32) = (6 : Int32) by decide), h4]
  rfl
theorem pl_l8y {σ : vz_I} {s : Nat} (h3 : ¬ σ 1 3 = (1 : Int32)) (h4 : σ 1 4 = nI s) : f_X6_readLine σ = some (0, vz_up (vz_up σ 1 7 (nI 2)) 1 8 (nI s)) := by
  unfold f_X6_readLine
  rw [if_neg h3, h4]
  rfl
/-! the class is full -/
theorem pl_8fm {σ : vz_I} {s : Nat} {x : Int32} (h : σ 4 0 = nI 4) (h4 : σ 1 4 = nI s) : f_X6_readMan x σ = some (0, vz_up (vz_up σ 1 7 (nI 5)) 1 8 (nI s)) := by
  unfold f_X6_readMan f_X7_addMan
  rw [h, if_neg (show ¬ nI 4 < (4 : Int32) by decide), vz_b2, vz_mo, h4]
  rfl
theorem pl_8fs {σ : vz_I} {s : Nat} (h : σ 4 1 = nI 9) (h4 : σ 1 4 = nI s) : f_X6_readStreet σ = some (0, vz_up (vz_up σ 1 7 (nI 5)) 1 8 (nI s)) := by
  unfold f_X6_readStreet
  rw [h, if_neg (show ¬ nI 9 < (9 : Int32) by decide), h4]
  rfl
theorem pl_8fr {σ : vz_I} {s : Nat} (h : σ 4 2 = nI 4) (h4 : σ 1 4 = nI s) : f_X6_readReader σ = some (0, vz_up (vz_up σ 1 7 (nI 5)) 1 8 (nI s)) := by
  unfold f_X6_readReader f_X7_addReader
  rw [h, if_neg (show ¬ nI 4 < (4 : Int32) by decide), vz_b2, vz_mo, h4]
  rfl
theorem pl_8fn {σ : vz_I} {s : Nat} (h : σ 1 6 = nI 1) (h4 : σ 1 4 = nI s) : f_X6_readRain σ = some (0, vz_up (vz_up σ 1 7 (nI 4)) 1 8 (nI s)) := by
  unfold f_X6_readRain
  rw [h, if_neg (show ¬ nI 1 = (0 : Int32) by decide), h4]
  rfl
/-! the reference -/
theorem pl_fm {σ : vz_I} {j m : Nat} (hj : j < 4) (hm : m ≤ 4) (h : σ 108 4 = nI m) : f_X9_isFull (nI j) σ = some (if m = 4 then 1 else 0) := by
  unfold f_X9_isFull f_X9_isFull_13 f_X9_isFull_26
  rw [if_neg (show ¬ (3 : Int32) < nI j from nI_nlt (a := 3) (by omega) (by omega)), h, if_neg (show ¬ nI j = (5 : Int32) from fun z => by have := (nI_eq (b := 5) (by omega) (by omega)).mp z; omega), if_neg (show ¬ nI j = (4 : Int32) from fun z => by have := (nI_eq (b := 4) (by omega) (by omega)).mp z; omega)]
  by_cases e : m = 4
  · subst e
    rw [if_pos rfl]
    exact if_pos rfl
  · rw [if_neg (show ¬ nI m = (4 : Int32) from fun z => e ((nI_eq (b := 4) (by omega) (by omega)).mp z)), if_neg e]
theorem pl_fs {σ : vz_I} {m : Nat} (hm : m ≤ 9) (h : σ 110 42 = nI m) : f_X9_isFull (nI 4) σ = some (if m = 9 then 1 else 0) := by
  have c42 : (42 : Int32).toNatClampNeg = 42 := rfl
  unfold f_X9_isFull f_X9_isFull_13 f_X9_isFull_26
  rw [if_pos (show (3 : Int32) < nI 4 by decide), if_neg (show ¬ nI 4 = (5 : Int32) by decide), if_pos (show nI 4 = (4 : Int32) from rfl), if_pos (by decide), c42, h]
  by_cases e : m = 9
  · subst e
    rw [if_pos rfl]
    exact if_pos rfl
  · rw [if_neg (show ¬ nI m = (9 : Int32) from fun z => e ((nI_eq (b := 9) (by omega) (by omega)).mp z)), if_neg e]
theorem pl_fr {σ : vz_I} {m : Nat} (hm : m ≤ 4) (h : σ 108 5 = nI m) : f_X9_isFull (nI 5) σ = some (if m = 4 then 1 else 0) := by
  unfold f_X9_isFull f_X9_isFull_13 f_X9_isFull_26
  rw [if_pos (show (3 : Int32) < nI 5 by decide), if_pos (show nI 5 = (5 : Int32) from rfl), if_neg (show ¬ nI 5 = (4 : Int32) by decide), h]
  by_cases e : m = 4
  · subst e
    rw [if_pos rfl]
    exact if_pos rfl
  · rw [if_neg (show ¬ nI m = (4 : Int32) from fun z => e ((nI_eq (b := 4) (by omega) (by omega)).mp z)), if_neg e]
theorem pl_fn {σ : vz_I} : f_X9_isFull (nI 6) σ = some 0 := by
  unfold f_X9_isFull f_X9_isFull_13 f_X9_isFull_26
  rw [if_pos (show (3 : Int32) < nI 6 by decide), if_neg (show ¬ nI 6 = (5 : Int32) by decide), if_neg (show ¬ nI 6 = (4 : Int32) by decide)]
theorem pl_54B {σ : vz_I} {c s : Nat} {x : Int32} (h : pt_BR c s σ) : ∃ σ', f_X9_readLine_54 x σ = some σ' ∧ pt_BR c s σ' ∧ pl_F9 σ σ' := by
  have st : ∀ y, f_X9_step (vz_up σ 108 6 y) = some (vz_up σ 108 6 y) := fun y => pt_stepB (pl_BR108 h y (by omega))
  have ne : ∀ y, ¬ (vz_up σ 108 6 y) 108 10 ≤ 0 := fun y => by
    rw [ps_upN _ _ (by omega), h.2.2.1]
    exact nI_nle h.1 (by have := h.2.1; omega)
  unfold f_X9_readLine_54
  by_cases e : σ 108 6 = 0
  · rw [if_pos e]
    by_cases e2 : x = (6 : Int32)
    · rw [if_pos e2, st, vz_b1, if_neg (ne _)]
      exact ⟨_, rfl, pl_BR108 h _ (by omega), pl_F9_108 _ _ (by omega)⟩
    · rw [if_neg e2, st, vz_b1, if_neg (ne _)]
      exact ⟨_, rfl, pl_BR108 h _ (by omega), pl_F9_108 _ _ (by omega)⟩
  · rw [if_neg e, st, vz_b1, if_neg (ne _)]
    exact ⟨_, rfl, pl_BR108 h _ (by omega), pl_F9_108 _ _ (by omega)⟩
theorem pl_54 {σ : vz_I} {x y : Int32} (hy : y = if σ 108 6 = 0 then (if x = (6 : Int32) then 1 else 0) else 1) : f_X9_readLine_54 x σ = vz_b1 (f_X9_step (vz_up σ 108 6 y)) (fun τ => if τ 108 10 ≤ 0 then vz_b1 (f_X9_readMore x τ) (fun υ => pt_tail υ) else some τ) := by
  subst hy
  unfold f_X9_readLine_54
  by_cases e : σ 108 6 = 0
  · rw [if_pos e, if_pos e]
    by_cases e2 : x = (6 : Int32)
    · rw [if_pos e2, if_pos e2]
      rfl
    · rw [if_neg e2, if_neg e2]
      rfl
  · rw [if_neg e, if_neg e]
    rfl
theorem pl_in6 {j : Nat} (hj : j < 7) : f_X9_in (nI j).toInt64 (0 : Int64) (6 : Int64) = 1 := ps_ilt 6 (by decide) (by rw [nI_toInt (by omega)]; omega)
theorem pl_rl9 {σ τ : vz_I} {j : Nat} {y : Int32} (hj : j < 7) (hn : f_X9_nameHere σ = some (nI j)) (hf : f_X9_isFull (nI j) σ = some 0) (hr : j = 6 → σ 108 6 = 0) (hy : y = if σ 108 6 = 0 then (if nI j = (6 : Int32) then 1 else 0) else 1) (ht : f_X9_step (vz_up σ 108 6 y) = some τ) : f_X9_readLine σ = if τ 108 10 ≤ 0 then vz_b1 (f_X9_readMore (nI j) τ) (fun υ => pt_tail υ) else some τ := by
  have e36 : f_X9_readLine_36 (nI j) σ = f_X9_readLine_54 (nI j) σ := by
    unfold f_X9_readLine_36
    by_cases e : nI j = (6 : Int32)
    · rw [if_pos e, if_pos (hr ((nI_eq (b := 6) (by omega) (by omega)).mp e))]
    · rw [if_neg e]
  unfold f_X9_readLine
  rw [hn, vz_b1, pl_in6 hj, if_neg ps_10, hf, vz_b1, if_pos rfl, e36, pl_54 hy, ht, vz_b1]
theorem pl_rl9F {σ : vz_I} {j s : Nat} (hj : j < 6) (hn : f_X9_nameHere σ = some (nI j)) (hf : f_X9_isFull (nI j) σ = some 1) (u1 : σ 108 10 = 0) (u3 : σ 108 13 = nI s) : ∃ σ', f_X9_readLine σ = some σ' ∧ pt_BR 5 s σ' ∧ pl_F9 σ σ' := by
  obtain ⟨b1, b2⟩ := pt_fails (c := 5) u1 u3 (by omega)
  obtain ⟨σ', g1, g2, g3⟩ := pl_54B (x := nI j) b1
  refine ⟨σ', ?_, g2, pl_F9_trans (pl_F9_of b2) g3⟩
  unfold f_X9_readLine f_X9_readLine_36
  rw [hn, vz_b1, pl_in6 (by omega), if_neg ps_10, hf, vz_b1, if_neg ps_10, if_neg (show ¬ nI j = (6 : Int32) from fun z => by have := (nI_eq (b := 6) (by omega) (by omega)).mp z; omega)]
  exact g1
theorem pl_rl9A {σ : vz_I} {s : Nat} (hn : f_X9_nameHere σ = some (nI 6)) (h6 : σ 108 6 = nI 1) (u1 : σ 108 10 = 0) (u3 : σ 108 13 = nI s) : ∃ σ', f_X9_readLine σ = some σ' ∧ pt_BR 4 s σ' ∧ pl_F9 σ σ' := by
  obtain ⟨b1, b2⟩ := pt_fails (c := 4) u1 u3 (by omega)
  obtain ⟨σ', g1, g2, g3⟩ := pl_54B (x := nI 6) b1
  refine ⟨σ', ?_, g2, pl_F9_trans (pl_F9_of b2) g3⟩
  unfold f_X9_readLine f_X9_readLine_36
  rw [hn, vz_b1, pl_in6 (by omega), if_neg ps_10, pl_fn, vz_b1, if_pos rfl, if_pos (show nI 6 = (6 : Int32) from rfl), h6, if_neg (show ¬ nI 1 = (0 : Int32) by decide)]
  exact g1
theorem pl_rl9X {σ : vz_I} {s : Nat} (hn : f_X9_nameHere σ = some (-4)) (u1 : σ 108 10 = 0) (u3 : σ 108 13 = nI s) : ∃ σ', f_X9_readLine σ = some σ' ∧ pt_BR 2 s σ' ∧ pl_F9 σ σ' := by
  obtain ⟨b1, b2⟩ := pt_fails (c := 2) u1 u3 (by omega)
  refine ⟨_, ?_, b1, pl_F9_of b2⟩
  have i0 : f_X9_in (-4 : Int32).toInt64 (0 : Int64) (6 : Int64) = 0 := ps_ilf 6 (by decide) (by rw [show (-4 : Int32).toInt = -4 by decide]; omega)
  unfold f_X9_readLine
  rw [hn, vz_b1, i0, if_pos rfl]
  rfl
theorem pl_rmm {σ σ' : vz_I} {j : Nat} (hj : j < 4) (h : f_X9_readMan (nI j) σ = some σ') : f_X9_readMore (nI j) σ = some σ' := by
  unfold f_X9_readMore
  rw [if_neg (show ¬ (3 : Int32) < nI j from nI_nlt (a := 3) (by omega) (by omega)), h, vz_b1]
theorem pl_rms {σ σ' : vz_I} (h : f_X9_readStreet σ = some σ') : f_X9_readMore (nI 4) σ = some σ' := by
  unfold f_X9_readMore
  rw [if_pos (show (3 : Int32) < nI 4 by decide), if_pos (show nI 4 = (4 : Int32) from rfl), h, vz_b1]
theorem pl_rmr {σ σ' : vz_I} (h : f_X9_readReader σ = some σ') : f_X9_readMore (nI 5) σ = some σ' := by
  unfold f_X9_readMore
  rw [if_pos (show (3 : Int32) < nI 5 by decide), if_neg (show ¬ nI 5 = (4 : Int32) by decide), if_pos (show nI 5 = (5 : Int32) from rfl), h, vz_b1]
theorem pl_fin {n : Nat} {C : Nat → Nat} {p q : Nat} {σ9 τ z8 z9 : vz_I} {b x : Int32} (hR : pt_R9 n C q τ) (hrl : f_X9_readLine σ9 = if τ 108 10 ≤ 0 then vz_b1 (f_X9_readMore x τ) (fun υ => pt_tail υ) else some τ) (hm : f_X9_readMore x τ = some z9) (hmid : pl_mid n C q b z8 z9) (hpq : p ≤ q) (Ft : pl_F9 σ9 τ) (Fz : pl_F9 τ z9) : ∃ σ9', f_X9_readLine σ9 = some σ9' ∧ pl_out n C p b z8 σ9' ∧ pl_F9 σ9 σ9' := by
  by_cases k4 : pt_k n C q = 4
  · have hB := pt_R9_4 hR k4
    obtain ⟨h1, h2⟩ := hmid.1 k4
    refine ⟨τ, ?_, Or.inl ⟨h1, 1, _, h2, hB⟩, Ft⟩
    rw [hrl, hB.2.2.1, if_neg (by decide)]
  · obtain ⟨u1, -⟩ := hR.2 k4
    obtain ⟨σ, t1, t2, t3⟩ := pl_tl hmid.2
    refine ⟨σ, ?_, ?_, pl_F9_trans Ft (pl_F9_trans Fz t3)⟩
    · rw [hrl, u1, if_pos (by decide), hm, vz_b1, t1]
    · rcases t2 with t2 | ⟨hb, A, w, r, g1, g2, g3, g4⟩
      · exact Or.inl t2
      · exact Or.inr ⟨hb, A, w, r, g1, g2, by omega, g4⟩
/-- a line -/
theorem pl_line {n : Nat} {C : Nat → Nat} {A : ps_T} {w p : Nat} {σ8 σ9 : vz_I} (hok : ps_Ok A) (hw : w ≤ 1) (h8 : pl_8t n C A w p σ8) (h9 : pl_9 n C A w p σ9) (hk4 : pt_k n C p ≠ 4) : ∃ b σ8' σ9', f_X6_readLine σ8 = some (b, σ8') ∧ f_X9_readLine σ9 = some σ9' ∧ pl_out n C p b σ8' σ9' ∧ pl_F8 σ8 σ8' ∧ pl_F9 σ9 σ9' := by
  obtain ⟨h8e, e3, e4, hp⟩ := h8
  have h9' := h9
  obtain ⟨t9, r9, eM, m4, m5, m6, mX⟩ := h9'
  have h8' := h8e
  obtain ⟨t8, hpe, e2, e6, e7, eC⟩ := h8'
  obtain ⟨u1, u2, u3, u4, -⟩ := r9.2 hk4
  obtain ⟨q1, q2, q3, q4⟩ := pt_e_spec (C := C) t8.1 hp
  obtain ⟨s1, -, -⟩ := pt_s_spec (C := C) t8.1 hp
  have kk : pt_k n C p < 10 := by unfold pt_k; repeat (first | omega | split)
  have hok' := hok
  obtain ⟨o1, o2, o3, -⟩ := hok'
  have RF : ∀ c, 0 < c ∧ c < 10 → pl_F8 σ8 (vz_up (vz_up σ8 1 7 (nI c)) 1 8 (nI (pt_s n C p))) := fun c hc => pl_F8_of (pt_ref8 σ8 hc).2
  by_cases k1 : pt_k n C p = 1
  · have e3' : σ8 1 3 = (1 : Int32) := by rw [e3, k1]; rfl
    have u4' : σ9 108 14 = 1 := by rw [u4, k1]; rfl
    have hl := pt_lnm t8 e2 e4 q2 q1
    have hn := pt_nmh t9 mX u2 u3 u4' q2 q1
    by_cases hj : pt_nj C (pt_s n C p) (pt_e n C p) < 7
    · have hv : pt_nv C (pt_s n C p) (pt_e n C p) = nI (pt_nj C (pt_s n C p) (pt_e n C p)) := if_pos hj
      rw [hv] at hl hn
      generalize pt_nj C (pt_s n C p) (pt_e n C p) = j at hj hl hn
      have ST : ∀ w', ∃ τ, f_X9_step (vz_up σ9 108 6 (nI w')) = some τ ∧ pl_9 n C A w' (pt_e n C p) τ ∧ pl_F9 σ9 τ := fun w' => by
        have F6 := pl_F9_108 σ9 (k := 6) (nI w') (by omega)
        obtain ⟨τ, g1, g2, g3⟩ := pt_tk9 (p := pt_e n C p) (pl_T9 t9 F6) (by rw [ps_upN _ _ (by omega)]; exact u2) (by rw [ps_upN _ _ (by omega)]; exact u1) hpe
        have F7 := pl_F9_trans F6 (pl_F9_of g3)
        refine ⟨τ, g1, ⟨pl_T9 t9 F7, g2, ?_, ?_, ?_, ?_, pl_X9 mX F7⟩, F7⟩
        · rw [g3.1 110 (by omega), vz_up_ne _ _ _ (by omega)]; exact eM
        · rw [g3.2 4 (by omega), ps_upN _ _ (by omega)]; exact m4
        · rw [g3.2 5 (by omega), ps_upN _ _ (by omega)]; exact m5
        · rw [g3.2 6 (by omega), ps_upS]
      have YW : j ≠ 6 → nI w = if σ9 108 6 = 0 then (if nI j = (6 : Int32) then 1 else 0) else 1 := fun h6 => by
        rw [m6, if_neg (show ¬ nI j = (6 : Int32) from fun z => h6 ((nI_eq (b := 6) (by omega) (by omega)).mp z))]
        rcases (show w = 0 ∨ w = 1 by omega) with rfl | rfl
        · rfl
        · rfl
      have hpe' : p ≤ pt_e n C p := by omega
      by_cases j4 : j < 4
      · by_cases full : A 0 0 = 4
        · obtain ⟨σ9', g1, g2, g3⟩ := pl_rl9F (by omega) hn (by rw [pl_fm j4 o1 m4, if_pos full]) u1 u3
          have E8 := pl_l8m e3' hl j4 (pl_8fm (x := nI j) (by rw [eC.1, full]) e4) (Or.inl rfl)
          exact ⟨0, _, σ9', E8, g1, Or.inl ⟨rfl, 5, _, (pt_ref8 σ8 (by omega)).1, g2⟩, RF 5 (by omega), g3⟩
        · obtain ⟨τ, t1, t2, t3⟩ := ST w
          obtain ⟨b, z8, z9, c1, c2, c3, c4, c5⟩ := pl_rman hok hw (by omega) j4 h8e t2
          obtain ⟨σ9', g1, g2, g3⟩ := pl_fin t2.2.1 (pl_rl9 hj hn (by rw [pl_fm j4 o1 m4, if_neg full]) (fun h => by omega) (YW (by omega)) t1) (pl_rmm j4 c2) c3 hpe' t3 c5
          exact ⟨b, z8, σ9', pl_l8m e3' hl j4 c1 (pl_b01 c3.2), g1, g2, c4, g3⟩
      · rcases (show j = 4 ∨ j = 5 ∨ j = 6 by omega) with rfl | rfl | rfl
        · have i42 : σ9 110 42 = nI (A 0 2) := eM.2.2.1
          by_cases full : A 0 2 = 9
          · obtain ⟨σ9', g1, g2, g3⟩ := pl_rl9F (by omega) hn (by rw [pl_fs o3 i42, if_pos full]) u1 u3
            have E8 := pl_l8s e3' hl (pl_8fs (by rw [eC.2.1, full]) e4) (Or.inl rfl)
            exact ⟨0, _, σ9', E8, g1, Or.inl ⟨rfl, 5, _, (pt_ref8 σ8 (by omega)).1, g2⟩, RF 5 (by omega), g3⟩
          · obtain ⟨τ, t1, t2, t3⟩ := ST w
            obtain ⟨b, z8, z9, c1, c2, c3, c4, c5⟩ := pl_rstreet hok hw (by omega) h8e t2
            obtain ⟨σ9', g1, g2, g3⟩ := pl_fin t2.2.1 (pl_rl9 hj hn (by rw [pl_fs o3 i42, if_neg full]) (fun h => by omega) (YW (by omega)) t1) (pl_rms c2) c3 hpe' t3 c5
            exact ⟨b, z8, σ9', pl_l8s e3' hl c1 (pl_b01 c3.2), g1, g2, c4, g3⟩
        · by_cases full : A 0 1 = 4
          · obtain ⟨σ9', g1, g2, g3⟩ := pl_rl9F (by omega) hn (by rw [pl_fr o2 m5, if_pos full]) u1 u3
            have E8 := pl_l8r e3' hl (pl_8fr (by rw [eC.2.2.1, full]) e4) (Or.inl rfl)
            exact ⟨0, _, σ9', E8, g1, Or.inl ⟨rfl, 5, _, (pt_ref8 σ8 (by omega)).1, g2⟩, RF 5 (by omega), g3⟩
          · obtain ⟨τ, t1, t2, t3⟩ := ST w
            obtain ⟨b, z8, z9, c1, c2, c3, c4, c5⟩ := pl_rreader hok hw (by omega) h8e t2
            obtain ⟨σ9', g1, g2, g3⟩ := pl_fin t2.2.1 (pl_rl9 hj hn (by rw [pl_fr o2 m5, if_neg full]) (fun h => by omega) (YW (by omega)) t1) (pl_rmr c2) c3 hpe' t3 c5
            exact ⟨b, z8, σ9', pl_l8r e3' hl c1 (pl_b01 c3.2), g1, g2, c4, g3⟩
        · rcases (show w = 0 ∨ w = 1 by omega) with rfl | rfl
          · obtain ⟨τ, t1, t2, t3⟩ := ST 1
            obtain ⟨b, z8, z9, c1, c2, c3, c4, c5⟩ := pl_rrain hok h8e t2
            have m60 : σ9 108 6 = 0 := m6
            obtain ⟨σ9', g1, g2, g3⟩ := pl_fin t2.2.1 (pl_rl9 hj hn pl_fn (fun _ => m60) (by rw [if_pos m60, if_pos (show nI 6 = (6 : Int32) from rfl)]; rfl) t1) c2 c3 hpe' t3 c5
            exact ⟨b, z8, σ9', pl_l8n e3' hl c1 (pl_b01 c3.2), g1, g2, c4, g3⟩
          · obtain ⟨σ9', g1, g2, g3⟩ := pl_rl9A hn m6 u1 u3
            have E8 := pl_l8n e3' hl (pl_8fn e6 e4) (Or.inl rfl)
            exact ⟨0, _, σ9', E8, g1, Or.inl ⟨rfl, 4, _, (pt_ref8 σ8 (by omega)).1, g2⟩, RF 4 (by omega), g3⟩
    · have hv : pt_nv C (pt_s n C p) (pt_e n C p) = -4 := if_neg hj
      rw [hv] at hl hn
      obtain ⟨σ9', g1, g2, g3⟩ := pl_rl9X hn u1 u3
      exact ⟨0, _, σ9', pl_l8x e3' e4 hl, g1, Or.inl ⟨rfl, 2, _, (pt_ref8 σ8 (by omega)).1, g2⟩, RF 2 (by omega), g3⟩
  · have n1 : ¬ σ8 1 3 = (1 : Int32) := by
      rw [e3]
      exact fun z => k1 ((nI_eq (b := 1) (by omega) (by omega)).mp z)
    obtain ⟨σ9', g1, g2, g3⟩ := pl_rl9X (pt_nmh0 u4 k1 (by omega)) u1 u3
    exact ⟨0, _, σ9', pl_l8y n1 e4, g1, Or.inl ⟨rfl, 2, _, (pt_ref8 σ8 (by omega)).1, g2⟩, RF 2 (by omega), g3⟩
