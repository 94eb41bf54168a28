/-! pure: numbers, signs, names -/
def pt_nf (n : Nat) (C : Nat → Nat) (p lo hi : Nat) : Nat := if pt_k n C p = 4 then 1 else if pt_k n C p ≠ 2 then 2 else if pt_v n C p < lo ∨ hi < pt_v n C p then 3 else 0
def pt_sf (n : Nat) (C : Nat → Nat) (p : Nat) : Nat := if pt_k n C p = 4 then 1 else if pt_k n C p = 3 then 0 else 2
theorem pt_nf0 {n : Nat} {C : Nat → Nat} {p lo hi : Nat} (h : pt_nf n C p lo hi = 0) : pt_k n C p = 2 ∧ lo ≤ pt_v n C p ∧ pt_v n C p ≤ hi := by
  unfold pt_nf at h
  by_cases e1 : pt_k n C p = 4
  · rw [if_pos e1] at h; omega
  · rw [if_neg e1] at h
    by_cases e2 : pt_k n C p ≠ 2
    · rw [if_pos e2] at h; omega
    · rw [if_neg e2] at h
      by_cases e3 : pt_v n C p < lo ∨ hi < pt_v n C p
      · rw [if_pos e3] at h; omega
      · omega
theorem pt_nf_lt (n : Nat) (C : Nat → Nat) (p lo hi : Nat) : pt_nf n C p lo hi < 10 := by
  unfold pt_nf
  repeat (first | omega | split)
theorem pt_sf_lt (n : Nat) (C : Nat → Nat) (p : Nat) : pt_sf n C p < 10 := by
  unfold pt_sf
  repeat (first | omega | split)
theorem pt_sf0 {n : Nat} {C : Nat → Nat} {p : Nat} (h : pt_sf n C p = 0) : pt_k n C p = 3 := by
  unfold pt_sf at h
  by_cases e1 : pt_k n C p = 4
  · rw [if_pos e1] at h; omega
  · rw [if_neg e1] at h
    by_cases e2 : pt_k n C p = 3
    · exact e2
    · rw [if_neg e2] at h; omega
/-- the class refuses -/
def pt_A8 (c s : Nat) (σ' : vz_I) : Prop := 0 < c ∧ c < 10 ∧ σ' 1 7 = nI c ∧ σ' 1 8 = nI s
theorem pt_ref8 (σ : vz_I) {c s : Nat} (hc : 0 < c ∧ c < 10) : pt_A8 c s (vz_up (vz_up σ 1 7 (nI c)) 1 8 (nI s)) ∧ ∀ b, b ≠ 1 → (vz_up (vz_up σ 1 7 (nI c)) 1 8 (nI s)) b = σ b := ⟨⟨hc.1, hc.2, by rw [ps_upN _ _ (by omega), ps_upS], ps_upS _ _ _ _⟩, fun b hb => by rw [vz_up_ne _ _ _ hb, vz_up_ne _ _ _ hb]⟩
theorem pt_n8t {n : Nat} {C : Nat → Nat} {σ : vz_I} {p lo hi : Nat} (hT : pt_T8 n C σ) (h2 : σ 1 2 = nI p) (hp : p ≤ n) (hlo : lo < 1000) (hhi : hi < 1000) (h : pt_nf n C p lo hi = 0) : ∃ σ', f_X6_takeNumber (nI lo) (nI hi) σ = some (1, σ') ∧ (∀ b, b ≠ 1 → σ' b = σ b) ∧ σ' 1 6 = σ 1 6 ∧ σ' 1 7 = σ 1 7 ∧ σ' 1 2 = nI (pt_e n C p) ∧ σ' 1 5 = nI (pt_v n C p) ∧ σ' 1 4 = nI (pt_s n C p) := by
  obtain ⟨k2, v1, v2⟩ := pt_nf0 h
  obtain ⟨σ', t1, t2, t3, t4, t5⟩ := pt_tk8 hT h2 hp
  obtain ⟨u1, u2, u3, u4, u5⟩ := t5 (by omega)
  have u5' := u5 k2
  rw [k2, if_neg (by omega)] at t1
  rw [k2] at u3
  refine ⟨σ', ?_, t2, t3, u1, u2, u5', u4⟩
  unfold f_X6_takeNumber
  rw [t1, vz_b2, if_neg ps_10, u3, if_pos (show nI 2 = (2 : Int32) from rfl), u5', ps_w, nI_toInt (by omega), nI_toInt (by omega), nI_toInt (by omega), if_pos (show ((lo : Nat) : Int) ≤ (pt_v n C p : Nat) ∧ ((pt_v n C p : Nat) : Int) ≤ (hi : Nat) by omega), if_neg ps_10]
theorem pt_n8f {n : Nat} {C : Nat → Nat} {σ : vz_I} {p lo hi : Nat} (hT : pt_T8 n C σ) (h2 : σ 1 2 = nI p) (hp : p ≤ n) (hlo : lo < 1000) (hhi : hi < 1000) (h : pt_nf n C p lo hi ≠ 0) : ∃ σ', f_X6_takeNumber (nI lo) (nI hi) σ = some (0, σ') ∧ (∀ b, b ≠ 1 → σ' b = σ b) ∧ pt_A8 (pt_nf n C p lo hi) (pt_s n C p) σ' := by
  obtain ⟨σ', t1, t2, t3, t4, t5⟩ := pt_tk8 hT h2 hp
  unfold f_X6_takeNumber
  by_cases e1 : pt_k n C p = 4
  · have z : pt_nf n C p lo hi = 1 := if_pos e1
    rw [e1, if_pos rfl] at t1
    rw [t1, vz_b2, if_pos rfl, z]
    exact ⟨σ', rfl, t2, by omega, by omega, (t4 e1).1, (t4 e1).2⟩
  · obtain ⟨u1, u2, u3, u4, u5⟩ := t5 e1
    rw [if_neg e1] at t1
    rw [t1, vz_b2, if_neg ps_10, u3, u4]
    by_cases e2 : pt_k n C p = 2
    · have hv := pt_v_lt hT.1 hp e2
      have e3 : pt_v n C p < lo ∨ hi < pt_v n C p := by
        unfold pt_nf at h
        rw [if_neg e1, if_neg (fun w => w e2)] at h
        by_cases e3 : pt_v n C p < lo ∨ hi < pt_v n C p
        · exact e3
        · rw [if_neg e3] at h; omega
      have z : pt_nf n C p lo hi = 3 := by unfold pt_nf; rw [if_neg e1, if_neg (fun w => w e2), if_pos e3]
      obtain ⟨r1, r2⟩ := pt_ref8 σ' (c := 3) (s := pt_s n C p) (by omega)
      rw [e2, if_pos (show nI 2 = (2 : Int32) from rfl), u5 e2, ps_w, nI_toInt (by omega), nI_toInt (by omega), nI_toInt (by omega), if_neg (show ¬ (((lo : Nat) : Int) ≤ (pt_v n C p : Nat) ∧ ((pt_v n C p : Nat) : Int) ≤ (hi : Nat)) by omega), if_pos rfl, z]
      exact ⟨_, rfl, fun b hb => (r2 b hb).trans (t2 b hb), r1⟩
    · have kk : pt_k n C p < 10 := by unfold pt_k; repeat (first | omega | split)
      have z : pt_nf n C p lo hi = 2 := by unfold pt_nf; rw [if_neg e1, if_pos e2]
      obtain ⟨r1, r2⟩ := pt_ref8 σ' (c := 2) (s := pt_s n C p) (by omega)
      rw [if_neg (show ¬ nI (pt_k n C p) = (2 : Int32) from fun w => e2 ((nI_eq (b := 2) (by omega) (by omega)).mp w)), z]
      exact ⟨_, rfl, fun b hb => (r2 b hb).trans (t2 b hb), r1⟩
theorem pt_s8t {n : Nat} {C : Nat → Nat} {σ : vz_I} {p : Nat} (hT : pt_T8 n C σ) (h2 : σ 1 2 = nI p) (hp : p ≤ n) (h : pt_sf n C p = 0) : ∃ σ', f_X6_takeSemicolon σ = some (1, σ') ∧ (∀ b, b ≠ 1 → σ' b = σ b) ∧ σ' 1 6 = σ 1 6 ∧ σ' 1 7 = σ 1 7 ∧ σ' 1 2 = nI (pt_e n C p) := by
  have k3 := pt_sf0 h
  obtain ⟨σ', t1, t2, t3, t4, t5⟩ := pt_tk8 hT h2 hp
  obtain ⟨u1, u2, u3, u4, u5⟩ := t5 (by omega)
  rw [k3, if_neg (by omega)] at t1
  rw [k3] at u3
  refine ⟨σ', ?_, t2, t3, u1, u2⟩
  unfold f_X6_takeSemicolon
  rw [t1, vz_b2, if_neg ps_10, u3, if_pos (show nI 3 = (3 : Int32) from rfl)]
theorem pt_s8f {n : Nat} {C : Nat → Nat} {σ : vz_I} {p : Nat} (hT : pt_T8 n C σ) (h2 : σ 1 2 = nI p) (hp : p ≤ n) (h : pt_sf n C p ≠ 0) : ∃ σ', f_X6_takeSemicolon σ = some (0, σ') ∧ (∀ b, b ≠ 1 → σ' b = σ b) ∧ pt_A8 (pt_sf n C p) (pt_s n C p) σ' := by
  obtain ⟨σ', t1, t2, t3, t4, t5⟩ := pt_tk8 hT h2 hp
  unfold f_X6_takeSemicolon
  by_cases e1 : pt_k n C p = 4
  · have z : pt_sf n C p = 1 := if_pos e1
    rw [e1, if_pos rfl] at t1
    rw [t1, vz_b2, if_pos rfl, z]
    exact ⟨σ', rfl, t2, by omega, by omega, (t4 e1).1, (t4 e1).2⟩
  · obtain ⟨u1, u2, u3, u4, u5⟩ := t5 e1
    have e2 : ¬ pt_k n C p = 3 := fun w => h (by unfold pt_sf; rw [if_neg e1, if_pos w])
    have kk : pt_k n C p < 10 := by unfold pt_k; repeat (first | omega | split)
    have z : pt_sf n C p = 2 := by unfold pt_sf; rw [if_neg e1, if_neg e2]
    obtain ⟨r1, r2⟩ := pt_ref8 σ' (c := 2) (s := pt_s n C p) (by omega)
    rw [if_neg e1] at t1
    rw [t1, vz_b2, if_neg ps_10, u3, u4, if_neg (show ¬ nI (pt_k n C p) = (3 : Int32) from fun w => e2 ((nI_eq (b := 3) (by omega) (by omega)).mp w)), z]
    exact ⟨_, rfl, fun b hb => (r2 b hb).trans (t2 b hb), r1⟩
/-! the reference's -/
theorem pt_B0 {σ : vz_I} {c s : Nat} (h : pt_BR c s σ) : ¬ σ 108 10 = 0 := by rw [h.2.2.1]; exact nI_ne0 h.1 (by have := h.2.1; omega)
theorem pt_n47B {σ : vz_I} {c s : Nat} {x1 : Int32} (h : pt_BR c s σ) : f_X9_number_47 x1 σ = some (x1, σ) := by
  unfold f_X9_number_47 f_X9_number_62
  rw [if_neg (pt_B0 h), pt_stepB h, vz_b1]
theorem pt_n20B {σ : vz_I} {c s : Nat} {x1 x2 : Int32} (h : pt_BR c s σ) : f_X9_number_20 x1 x2 σ = some (x1, σ) := by
  unfold f_X9_number_20
  rw [if_neg (pt_B0 h), pt_n47B h]
theorem pt_n9B {σ : vz_I} {c s : Nat} {x1 x2 : Int32} (h : pt_BR c s σ) : f_X9_number x1 x2 σ = some (x1, σ) := by
  unfold f_X9_number
  rw [if_neg (pt_B0 h), pt_n20B h]
theorem pt_in9 {a b c : Nat} (ha : a < 1000) (hb : b < 1000) (hc : c < 1000) : f_X9_in (nI a).toInt64 (nI b).toInt64 (nI c).toInt64 = if b ≤ a ∧ a ≤ c then 1 else 0 := by
  rw [ps_i, ps_x64, ps_x64, ps_x64, nI_toInt (by omega), nI_toInt (by omega), nI_toInt (by omega)]
  by_cases z : b ≤ a ∧ a ≤ c
  · rw [if_pos z, if_pos (by omega)]
  · rw [if_neg z, if_neg (by omega)]
theorem pt_n9t {n : Nat} {C : Nat → Nat} {σ : vz_I} {p lo hi : Nat} (hT : pt_T9 n C σ) (hR : pt_R9 n C p σ) (hp : p ≤ n) (hlo : lo < 1000) (hhi : hi < 1000) (h : pt_nf n C p lo hi = 0) : ∃ σ', f_X9_number (nI lo) (nI hi) σ = some (nI (pt_v n C p), σ') ∧ pt_R9 n C (pt_e n C p) σ' ∧ pt_F9 σ σ' := by
  obtain ⟨k2, v1, v2⟩ := pt_nf0 h
  obtain ⟨u1, u2, u3, u4, u5⟩ := hR.2 (by omega)
  have u5' := u5 k2
  rw [k2] at u4
  obtain ⟨q1, q2, q3, q4⟩ := pt_e_spec (C := C) hT.1 hp
  obtain ⟨σ', s1, s2, s3⟩ := pt_tk9 hT u2 u1 q2
  refine ⟨σ', ?_, s2, s3⟩
  unfold f_X9_number f_X9_number_20 f_X9_number_47 f_X9_number_62
  rw [u1, if_pos rfl, u4, if_pos (show nI 2 = (2 : Int32) from rfl), if_pos rfl, u5', pt_in9 (by omega) hlo hhi, if_pos (show lo ≤ pt_v n C p ∧ pt_v n C p ≤ hi from ⟨v1, v2⟩), if_neg ps_10, if_pos rfl, s1, vz_b1]
theorem pt_n9f {n : Nat} {C : Nat → Nat} {σ : vz_I} {p lo hi : Nat} (hT : pt_T9 n C σ) (hR : pt_R9 n C p σ) (hp : p ≤ n) (hlo : lo < 1000) (hhi : hi < 1000) (h : pt_nf n C p lo hi ≠ 0) : ∃ σ', f_X9_number (nI lo) (nI hi) σ = some (nI lo, σ') ∧ pt_BR (pt_nf n C p lo hi) (pt_s n C p) σ' ∧ pt_F9 σ σ' := by
  by_cases e1 : pt_k n C p = 4
  · have z : pt_nf n C p lo hi = 1 := if_pos e1
    have hB := pt_R9_4 hR e1
    rw [z]
    exact ⟨σ, pt_n9B hB, hB, pt_F9_refl σ⟩
  · obtain ⟨u1, u2, u3, u4, u5⟩ := hR.2 e1
    unfold f_X9_number
    by_cases e2 : pt_k n C p = 2
    · have hv := pt_v_lt hT.1 hp e2
      have e3 : pt_v n C p < lo ∨ hi < pt_v n C p := by
        unfold pt_nf at h
        rw [if_neg e1, if_neg (fun w => w e2)] at h
        by_cases e3 : pt_v n C p < lo ∨ hi < pt_v n C p
        · exact e3
        · rw [if_neg e3] at h; omega
      have z : pt_nf n C p lo hi = 3 := by unfold pt_nf; rw [if_neg e1, if_neg (fun w => w e2), if_pos e3]
      obtain ⟨b1, b2⟩ := pt_fails (c := 3) u1 u3 (by omega)
      refine ⟨_, ?_, by rw [z]; exact b1, b2⟩
      rw [if_pos u1, u4, e2, if_pos (show nI 2 = (2 : Int32) from rfl)]
      unfold f_X9_number_20
      rw [if_pos u1, u5 e2, pt_in9 (by omega) hlo hhi, if_neg (show ¬ (lo ≤ pt_v n C p ∧ pt_v n C p ≤ hi) by omega), if_pos rfl]
      exact pt_n47B b1
    · have kk : pt_k n C p < 10 := by unfold pt_k; repeat (first | omega | split)
      have z : pt_nf n C p lo hi = 2 := by unfold pt_nf; rw [if_neg e1, if_pos e2]
      obtain ⟨b1, b2⟩ := pt_fails (c := 2) u1 u3 (by omega)
      refine ⟨_, ?_, by rw [z]; exact b1, b2⟩
      rw [if_pos u1, u4, if_neg (show ¬ nI (pt_k n C p) = (2 : Int32) from fun w => e2 ((nI_eq (b := 2) (by omega) (by omega)).mp w))]
      exact pt_n20B b1
/-- the end of a line -/
def pt_tail (σ : vz_I) : Option vz_I := if σ 108 10 = 0 then if σ 108 14 = (3 : Int32) then f_X9_readLine_113 σ else f_X9_readLine_113 (f_X9_fails (2 : Int32) σ) else f_X9_readLine_113 σ
theorem pt_tailB {σ : vz_I} {c s : Nat} (h : pt_BR c s σ) : pt_tail σ = some σ := by
  unfold pt_tail f_X9_readLine_113
  rw [if_neg (pt_B0 h), pt_stepB h, vz_b1]
theorem pt_tailT {n : Nat} {C : Nat → Nat} {σ : vz_I} {p : Nat} (hT : pt_T9 n C σ) (hR : pt_R9 n C p σ) (hp : p ≤ n) (h : pt_sf n C p = 0) : ∃ σ', pt_tail σ = some σ' ∧ pt_R9 n C (pt_e n C p) σ' ∧ pt_F9 σ σ' := by
  have k3 := pt_sf0 h
  obtain ⟨u1, u2, u3, u4, u5⟩ := hR.2 (by omega)
  rw [k3] at u4
  obtain ⟨q1, q2, q3, q4⟩ := pt_e_spec (C := C) hT.1 hp
  obtain ⟨σ', s1, s2, s3⟩ := pt_tk9 hT u2 u1 q2
  refine ⟨σ', ?_, s2, s3⟩
  unfold pt_tail f_X9_readLine_113
  rw [if_pos u1, if_pos (show σ 108 14 = (3 : Int32) from u4), s1, vz_b1]
theorem pt_tailF {n : Nat} {C : Nat → Nat} {σ : vz_I} {p : Nat} (hR : pt_R9 n C p σ) (h : pt_sf n C p ≠ 0) : ∃ σ', pt_tail σ = some σ' ∧ pt_BR (pt_sf n C p) (pt_s n C p) σ' ∧ pt_F9 σ σ' := by
  by_cases e1 : pt_k n C p = 4
  · have z : pt_sf n C p = 1 := if_pos e1
    have hB := pt_R9_4 hR e1
    rw [z]
    exact ⟨σ, pt_tailB hB, hB, pt_F9_refl σ⟩
  · obtain ⟨u1, u2, u3, u4, u5⟩ := hR.2 e1
    have e2 : ¬ pt_k n C p = 3 := fun w => h (by unfold pt_sf; rw [if_neg e1, if_pos w])
    have kk : pt_k n C p < 10 := by unfold pt_k; repeat (first | omega | split)
    have z : pt_sf n C p = 2 := by unfold pt_sf; rw [if_neg e1, if_neg e2]
    obtain ⟨b1, b2⟩ := pt_fails (c := 2) u1 u3 (by omega)
    refine ⟨_, ?_, by rw [z]; exact b1, b2⟩
    unfold pt_tail f_X9_readLine_113
    rw [if_pos u1, u4, if_neg (show ¬ nI (pt_k n C p) = (3 : Int32) from fun w => e2 ((nI_eq (b := 3) (by omega) (by omega)).mp w)), show (2 : Int32) = nI 2 from rfl, pt_stepB b1, vz_b1]
/-! names -/
def pt_ln7 (j : Nat) : Nat := vz_sl.getD j 0
def pt_ch (j i : Nat) : Nat := (([112, 108, 97, 105, 110, 116, 104, 105, 110, 115, 116, 111, 117, 116, 111, 108, 100, 115, 116, 114, 101, 101, 116, 114, 101, 97, 100, 101, 114, 114, 97, 105, 110] : List Nat).getD ((([0, 5, 9, 14, 17, 23, 29, 33] : List Nat).getD j 0) + i) 0)
theorem pt_ch_lt : ∀ j, j < 7 → ∀ i, i < pt_ln7 j → pt_ch j i < 128 := by decide +kernel
theorem pt_sch : ∀ j, j < 7 → ∀ i, i < pt_ln7 j → vz_sch j (nI i) = nI (pt_ch j i) := by decide +kernel
theorem pt_len : ∀ j, j < 7 → (([0, 5, 9, 14, 17, 23, 29, 33] : List Nat).getD (j + 1) 0) = (([0, 5, 9, 14, 17, 23, 29, 33] : List Nat).getD j 0) + pt_ln7 j ∧ pt_ln7 j ≤ 6 ∧ (([0, 5, 9, 14, 17, 23, 29, 33] : List Nat).getD j 0) + pt_ln7 j ≤ 33 := by decide +kernel
def pt_nm (C : Nat → Nat) (s e j : Nat) : Bool := decide (e - s = pt_ln7 j ∧ ∀ i, i < pt_ln7 j → C (s + i) = pt_ch j i)
theorem pt_nm_iff {C : Nat → Nat} {s e j : Nat} : pt_nm C s e j = true ↔ e - s = pt_ln7 j ∧ ∀ i, i < pt_ln7 j → C (s + i) = pt_ch j i := by simp only [pt_nm, decide_eq_true_eq]
theorem pt_is8_l {n : Nat} {C : Nat → Nat} {σ : vz_I} {s e j : Nat} (hT : pt_T8 n C σ) (h4 : σ 1 4 = nI s) (he : e ≤ n) (hj : j < 7) (hl : s + pt_ln7 j = e) : ∀ m i, i ≤ pt_ln7 j → pt_ln7 j - i < m → (∀ q, q < i → C (s + q) = pt_ch j q) → f_X6_isNamed_20 m j (nI i) σ = some (if pt_nm C s e j = true then 1 else 0) := by
  have hn := hT.1
  have hC : ∀ i, i < n → C i < 128 := fun i hi => (hT.2.2 i hi).1
  obtain ⟨-, l6, -⟩ := pt_len j hj
  intro m
  induction m with
  | zero => intro i _ h; omega
  | succ m ih =>
    intro i hi hm hq
    rw [f_X6_isNamed_20_s, show vz_slen j = nI (pt_ln7 j) from rfl]
    by_cases z : pt_ln7 j ≤ i
    · obtain rfl : i = pt_ln7 j := by omega
      rw [if_pos (nI_le (Nat.le_refl _) (by omega)), if_pos (pt_nm_iff.mpr ⟨by omega, hq⟩)]
    · have c1 := hC (s + i) (by omega)
      have c2 := pt_ch_lt j hj i (by omega)
      rw [if_neg (nI_ge (by omega) (by omega)), h4, nI_add, pt_b8 hT (by omega), vz_b1, if_pos ((ps_in (by omega)).mpr (show i < vz_sl.getD j 0 by have : pt_ln7 j = vz_sl.getD j 0 := rfl; omega)), pt_sch j hj i (by omega), show pt_by n C (s + i) = nI (C (s + i)) from if_pos (by omega)]
      by_cases y : C (s + i) = pt_ch j i
      · rw [if_pos (by rw [y]), nI_1]
        exact ih (i + 1) (by omega) (by omega) (fun q h => by
          by_cases x : q = i
          · subst x; exact y
          · exact hq q (by omega))
      · rw [if_neg (fun w => y ((nI_eq (by omega) (by omega)).mp w)), if_neg (fun w => y ((pt_nm_iff.mp w).2 i (by omega)))]
theorem pt_is8 {n : Nat} {C : Nat → Nat} {σ : vz_I} {s e : Nat} (hT : pt_T8 n C σ) (h2 : σ 1 2 = nI e) (h4 : σ 1 4 = nI s) (he : e ≤ n) (hs : s ≤ e) (j : Nat) (hj : j < 7) : f_X6_isNamed j σ = some (if pt_nm C s e j = true then 1 else 0) := by
  have hn := hT.1
  obtain ⟨-, l6, -⟩ := pt_len j hj
  unfold f_X6_isNamed
  rw [h2, h4, pk_sub hs, show vz_slen j = nI (pt_ln7 j) from rfl]
  by_cases z : e - s = pt_ln7 j
  · rw [if_pos (by rw [z])]
    exact pt_is8_l hT h4 he hj (by omega) vz_fu 0 (by omega) (by have : vz_fu = 1000000 := rfl; omega) (fun q h => by omega)
  · rw [if_neg (fun w => z ((nI_eq (by omega) (by omega)).mp w)), if_neg (fun w => z (pt_nm_iff.mp w).1)]
def pt_nj (C : Nat → Nat) (s e : Nat) : Nat := if pt_nm C s e 0 = true then 0 else if pt_nm C s e 1 = true then 1 else if pt_nm C s e 2 = true then 2 else if pt_nm C s e 3 = true then 3 else if pt_nm C s e 4 = true then 4 else if pt_nm C s e 5 = true then 5 else if pt_nm C s e 6 = true then 6 else 7
def pt_nv (C : Nat → Nat) (s e : Nat) : Int32 := if pt_nj C s e < 7 then nI (pt_nj C s e) else -4
theorem pt_lnm {n : Nat} {C : Nat → Nat} {σ : vz_I} {s e : Nat} (hT : pt_T8 n C σ) (h2 : σ 1 2 = nI e) (h4 : σ 1 4 = nI s) (he : e ≤ n) (hs : s ≤ e) : f_X6_lineNamed σ = some (pt_nv C s e) := by
  have q := pt_is8 hT h2 h4 he hs
  unfold f_X6_lineNamed pt_nv pt_nj
  rw [q 0 (by omega), vz_b1]
  by_cases z0 : pt_nm C s e 0 = true
  · simp only [if_pos z0]; rfl
  · simp only [if_neg z0]
    rw [if_pos trivial, q 1 (by omega), vz_b1]
    by_cases z1 : pt_nm C s e 1 = true
    · simp only [if_pos z1]; rfl
    · simp only [if_neg z1]
      rw [if_pos trivial, q 2 (by omega), vz_b1]
      by_cases z2 : pt_nm C s e 2 = true
      · simp only [if_pos z2]; rfl
      · simp only [if_neg z2]
        rw [if_pos trivial, q 3 (by omega), vz_b1]
        by_cases z3 : pt_nm C s e 3 = true
        · simp only [if_pos z3]; rfl
        · simp only [if_neg z3]
          rw [if_pos trivial, q 4 (by omega), vz_b1]
          by_cases z4 : pt_nm C s e 4 = true
          · simp only [if_pos z4]; rfl
          · simp only [if_neg z4]
            rw [if_pos trivial, q 5 (by omega), vz_b1]
            by_cases z5 : pt_nm C s e 5 = true
            · simp only [if_pos z5]; rfl
            · simp only [if_neg z5]
              rw [if_pos trivial, q 6 (by omega), vz_b1]
              by_cases z6 : pt_nm C s e 6 = true
              · simp only [if_pos z6]; rfl
              · simp only [if_neg z6]; rfl
theorem pt_nj_eq {C : Nat → Nat} {s e j : Nat} (hj : j < 7) (h : pt_nm C s e j = true) (h0 : ∀ i, i < j → ¬ pt_nm C s e i = true) : pt_nv C s e = nI j := by
  have q : pt_nj C s e = j := by
    unfold pt_nj
    rcases (show j = 0 ∨ j = 1 ∨ j = 2 ∨ j = 3 ∨ j = 4 ∨ j = 5 ∨ j = 6 by omega) with rfl | rfl | rfl | rfl | rfl | rfl | rfl
    · rw [if_pos h]
    · rw [if_neg (h0 0 (by omega)), if_pos h]
    · rw [if_neg (h0 0 (by omega)), if_neg (h0 1 (by omega)), if_pos h]
    · rw [if_neg (h0 0 (by omega)), if_neg (h0 1 (by omega)), if_neg (h0 2 (by omega)), if_pos h]
    · rw [if_neg (h0 0 (by omega)), if_neg (h0 1 (by omega)), if_neg (h0 2 (by omega)), if_neg (h0 3 (by omega)), if_pos h]
    · rw [if_neg (h0 0 (by omega)), if_neg (h0 1 (by omega)), if_neg (h0 2 (by omega)), if_neg (h0 3 (by omega)), if_neg (h0 4 (by omega)), if_pos h]
    · rw [if_neg (h0 0 (by omega)), if_neg (h0 1 (by omega)), if_neg (h0 2 (by omega)), if_neg (h0 3 (by omega)), if_neg (h0 4 (by omega)), if_neg (h0 5 (by omega)), if_pos h]
  unfold pt_nv
  rw [q, if_pos hj]
theorem pt_nj_no {C : Nat → Nat} {s e : Nat} (h0 : ∀ i, i < 7 → ¬ pt_nm C s e i = true) : pt_nv C s e = -4 := by
  have q : pt_nj C s e = 7 := by
    unfold pt_nj
    rw [if_neg (h0 0 (by omega)), if_neg (h0 1 (by omega)), if_neg (h0 2 (by omega)), if_neg (h0 3 (by omega)), if_neg (h0 4 (by omega)), if_neg (h0 5 (by omega)), if_neg (h0 6 (by omega))]
  unfold pt_nv
  rw [q, if_neg (by omega)]
theorem pt_n51 {n : Nat} {C : Nat → Nat} {σ : vz_I} {s e j : Nat} {k2 : Int32 → Option Int32} (hT : pt_T9 n C σ) (hX : ps_fix σ) (h12 : σ 108 12 = nI e) (h13 : σ 108 13 = nI s) (he : e ≤ n) (hj : j < 7) (hl : s + pt_ln7 j = e) : ∀ m i, i ≤ pt_ln7 j → pt_ln7 j - i + 1 < m → (∀ q, q < i → C (s + q) = pt_ch j q) → f_X9_nameHere_51 k2 m (nI j) 1 (nI i) σ = if pt_nm C s e j = true then some (nI j) else k2 (nI (j + 1)) := by
  have hn := hT.1
  have hC : ∀ i, i < n → C i < 128 := fun i hi => (hT.2.2 i hi).1
  obtain ⟨l5, l6, l7⟩ := pt_len j hj
  intro m
  induction m with
  | zero => intro i _ h; omega
  | succ m ih =>
    intro i hi hm hq
    rw [f_X9_nameHere_51_s, if_neg ps_10, h12, h13, pk_sub (by omega)]
    by_cases z : e - s ≤ i
    · have e1 : i = pt_ln7 j := by omega
      rw [if_pos (nI_le z (by omega)), if_pos (pt_nm_iff.mpr ⟨by omega, fun q hq' => hq q (by omega)⟩)]
      unfold f_X9_nameHere_106
      rw [if_neg ps_10]
    · have c1 := hC (s + i) (by omega)
      have c2 := pt_ch_lt j hj i (by omega)
      have x1 := hX.1 j (by omega)
      have x2 : σ 113 (([0, 5, 9, 14, 17, 23, 29, 33] : List Nat).getD j 0 + i) = nI (pt_ch j i) := hX.2.1 _ (by omega)
      rw [if_neg (nI_ge (by omega) (by omega)), nI_add, pt_b9 hT (by omega), vz_b1, if_pos ((ps_in (by omega)).mpr (by omega)), nI_clamp (by omega), x1, nI_add, if_pos ((ps_in (by omega)).mpr (by omega)), nI_clamp (by omega), x2, show pt_by n C (s + i) = nI (C (s + i)) from if_pos (by omega)]
      by_cases y : C (s + i) = pt_ch j i
      · rw [if_pos (by rw [y]), nI_1]
        exact ih (i + 1) (by omega) (by omega) (fun q h => by
          by_cases x : q = i
          · subst x; exact y
          · exact hq q (by omega))
      · rw [if_neg (fun w => y ((nI_eq (b := pt_ch j i) (by omega) (by omega)).mp w)), if_neg (fun w => y ((pt_nm_iff.mp w).2 i (by omega)))]
        obtain ⟨m, rfl⟩ : ∃ q, m = q + 1 := ⟨m - 1, by omega⟩
        rw [f_X9_nameHere_51_s, if_pos rfl]
        unfold f_X9_nameHere_106
        rw [if_pos rfl, nI_1]
theorem pt_n2 {n : Nat} {C : Nat → Nat} {σ : vz_I} {s e : Nat} (hT : pt_T9 n C σ) (hX : ps_fix σ) (h12 : σ 108 12 = nI e) (h13 : σ 108 13 = nI s) (h14 : σ 108 14 = 1) (he : e ≤ n) (hs : s ≤ e) : ∀ m j, j ≤ 7 → 7 - j < m → (∀ i, i < j → ¬ pt_nm C s e i = true) → f_X9_nameHere_2 m (nI j) σ = some (pt_nv C s e) := by
  have hn := hT.1
  have fu : vz_fu = 1000000 := rfl
  intro m
  induction m with
  | zero => intro j _ h; omega
  | succ m ih =>
    intro j hj hm hq
    rw [f_X9_nameHere_2_s]
    by_cases z : j = 7
    · subst z
      rw [if_pos (by decide), pt_nj_no hq]
    · obtain ⟨l5, l6, l7⟩ := pt_len j (by omega)
      have x1 := hX.1 j (by omega)
      have x2 := hX.1 (j + 1) (by omega)
      rw [if_neg (show ¬ (7 : Int32) ≤ nI j from nI_ge (b := 7) (by omega) (by omega)), h14, if_pos rfl, nI_1, if_pos ((ps_in (by omega)).mpr (by omega)), if_pos ((ps_in (by omega)).mpr (by omega)), nI_clamp (by omega), nI_clamp (by omega), x1, x2, l5, pk_sub (by omega), h12, h13, pk_sub hs]
      have nx : ¬ pt_nm C s e j = true → f_X9_nameHere_2 m (nI (j + 1)) σ = some (pt_nv C s e) := fun w => ih (j + 1) (by omega) (by omega) (fun i hi => by
        by_cases x : i = j
        · subst x; exact w
        · exact hq i (by omega))
      by_cases y : e - s = pt_ln7 j
      · rw [if_pos (by rw [y]; congr 1; omega)]
        have q := pt_n51 (k2 := fun x1 => f_X9_nameHere_2 m x1 σ) hT hX h12 h13 he (show j < 7 by omega) (by omega) vz_fu 0 (by omega) (by omega) (fun q h => by omega)
        rw [show nI 0 = (0 : Int32) from rfl] at q
        rw [q]
        by_cases x : pt_nm C s e j = true
        · rw [if_pos x, pt_nj_eq (by omega) x hq]
        · rw [if_neg x]
          exact nx x
      · rw [if_neg (fun w => y (by have := (nI_eq (by omega) (by omega)).mp w; omega)), fu, show 1000000 = 999999 + 1 from rfl, f_X9_nameHere_51_s, if_pos rfl]
        unfold f_X9_nameHere_106
        rw [if_pos rfl, nI_1]
        exact nx (fun w => y (pt_nm_iff.mp w).1)
theorem pt_nmh {n : Nat} {C : Nat → Nat} {σ : vz_I} {s e : Nat} (hT : pt_T9 n C σ) (hX : ps_fix σ) (h12 : σ 108 12 = nI e) (h13 : σ 108 13 = nI s) (h14 : σ 108 14 = 1) (he : e ≤ n) (hs : s ≤ e) : f_X9_nameHere σ = some (pt_nv C s e) :=
  pt_n2 hT hX h12 h13 h14 he hs vz_fu 0 (by omega) (by have : vz_fu = 1000000 := rfl; omega) (fun i h => by omega)
theorem pt_nmh0 {σ : vz_I} {k : Nat} (h14 : σ 108 14 = nI k) (hk : k ≠ 1) (hk2 : k < 10) : f_X9_nameHere σ = some (-4) := by
  unfold f_X9_nameHere
  rw [show vz_fu = 999999 + 1 from rfl, f_X9_nameHere_2_s, if_neg (by decide), h14, if_neg (show ¬ nI k = (1 : Int32) from fun w => hk ((nI_eq (b := 1) (by omega) (by omega)).mp w))]
