/-! pure: the lines of a text: what both sides have between tokens -/
def pl_8 (n : Nat) (C : Nat → Nat) (A : ps_T) (w p : Nat) (σ : vz_I) : Prop := pt_T8 n C σ ∧ p ≤ n ∧ σ 1 2 = nI p ∧ σ 1 6 = nI w ∧ σ 1 7 = 0 ∧ ps_C A σ 4
def pl_9 (n : Nat) (C : Nat → Nat) (A : ps_T) (w p : Nat) (σ : vz_I) : Prop := pt_T9 n C σ ∧ pt_R9 n C p σ ∧ ps_M A (σ 110) 0 ∧ σ 108 4 = nI (A 0 0) ∧ σ 108 5 = nI (A 0 1) ∧ σ 108 6 = nI w ∧ ps_fix σ
def pl_F8 (σ σ' : vz_I) : Prop := ∀ b, b ≠ 1 → (b < 4 ∨ 20 < b) → σ' b = σ b
def pl_F9 (σ σ' : vz_I) : Prop := (∀ b, b ≠ 108 → b ≠ 110 → σ' b = σ b) ∧ ∀ j, (j < 4 ∨ 6 < j) → (j < 10 ∨ 15 < j) → σ' 108 j = σ 108 j
theorem pl_F8_refl (σ : vz_I) : pl_F8 σ σ := fun _ _ _ => rfl
theorem pl_F8_trans {σ τ υ : vz_I} (h : pl_F8 σ τ) (g : pl_F8 τ υ) : pl_F8 σ υ := fun b h1 h2 => by rw [g b h1 h2, h b h1 h2]
theorem pl_F8_of {σ σ' : vz_I} (h : ∀ b, b ≠ 1 → σ' b = σ b) : pl_F8 σ σ' := fun b hb _ => h b hb
theorem pl_F8_up (σ : vz_I) {a : Nat} (k : Nat) (x : Int32) (ha : a = 1 ∨ (4 ≤ a ∧ a ≤ 20)) : pl_F8 σ (vz_up σ a k x) := fun b h1 h2 => vz_up_ne _ _ _ (by omega)
theorem pl_F9_refl (σ : vz_I) : pl_F9 σ σ := ⟨fun _ _ _ => rfl, fun _ _ _ => rfl⟩
theorem pl_F9_trans {σ τ υ : vz_I} (h : pl_F9 σ τ) (g : pl_F9 τ υ) : pl_F9 σ υ := ⟨fun b h1 h2 => by rw [g.1 b h1 h2, h.1 b h1 h2], fun j h1 h2 => by rw [g.2 j h1 h2, h.2 j h1 h2]⟩
theorem pl_F9_of {σ σ' : vz_I} (h : pt_F9 σ σ') : pl_F9 σ σ' := ⟨fun b hb _ => h.1 b hb, fun j _ hj => h.2 j hj⟩
theorem pl_F9_110 (σ : vz_I) (k : Nat) (x : Int32) : pl_F9 σ (vz_up σ 110 k x) := ⟨fun b _ h => vz_up_ne _ _ _ h, fun j _ _ => by rw [vz_up_ne _ _ _ (by omega)]⟩
theorem pl_F9_108 (σ : vz_I) {k : Nat} (x : Int32) (hk : 4 ≤ k ∧ k ≤ 6) : pl_F9 σ (vz_up σ 108 k x) := ⟨fun b h _ => vz_up_ne _ _ _ h, fun j h _ => ps_upN _ _ (by omega)⟩
theorem pl_T8 {n : Nat} {C : Nat → Nat} {σ σ' : vz_I} (h : pt_T8 n C σ) (g : pl_F8 σ σ') : pt_T8 n C σ' := pt_T8_fr h (g 2 (by omega) (by omega)) (g 3 (by omega) (by omega))
theorem pl_T9 {n : Nat} {C : Nat → Nat} {σ σ' : vz_I} (h : pt_T9 n C σ) (g : pl_F9 σ σ') : pt_T9 n C σ' := pt_T9_fr h (g.2 8 (by omega) (by omega)) (g.1 111 (by omega) (by omega))
theorem pl_X9 {σ σ' : vz_I} (h : ps_fix σ) (g : pl_F9 σ σ') : ps_fix σ' := ps_fix_fr h (fun b hb => g.1 b (by omega) (by omega)) (g.2 18 (by omega) (by omega))
theorem pl_BR {c s : Nat} {σ σ' : vz_I} (h : pt_BR c s σ) (h1 : σ' 108 10 = σ 108 10) (h2 : σ' 108 11 = σ 108 11) : pt_BR c s σ' := ⟨h.1, h.2.1, by rw [h1]; exact h.2.2.1, by rw [h2]; exact h.2.2.2⟩
theorem pl_BR110 {c s : Nat} {σ : vz_I} (h : pt_BR c s σ) (k : Nat) (x : Int32) : pt_BR c s (vz_up σ 110 k x) := pl_BR h (by rw [vz_up_ne _ _ _ (by omega)]) (by rw [vz_up_ne _ _ _ (by omega)])
theorem pl_BR108 {c s : Nat} {σ : vz_I} (h : pt_BR c s σ) {k : Nat} (x : Int32) (hk : k ≤ 6) : pt_BR c s (vz_up σ 108 k x) := pl_BR h (ps_upN _ _ (by omega)) (ps_upN _ _ (by omega))
theorem pl_R9 {n : Nat} {C : Nat → Nat} {p : Nat} {σ σ' : vz_I} (h : pt_R9 n C p σ) (g : ∀ j, 10 ≤ j → j ≤ 15 → σ' 108 j = σ 108 j) : pt_R9 n C p σ' := by
  unfold pt_R9
  rw [g 10 (by omega) (by omega), g 11 (by omega) (by omega), g 12 (by omega) (by omega), g 13 (by omega) (by omega), g 14 (by omega) (by omega), g 15 (by omega) (by omega)]
  exact h
theorem pl_R9_110 {n : Nat} {C : Nat → Nat} {p : Nat} {σ : vz_I} (h : pt_R9 n C p σ) (k : Nat) (x : Int32) : pt_R9 n C p (vz_up σ 110 k x) := pl_R9 h (fun j _ _ => by rw [vz_up_ne _ _ _ (by omega)])
theorem pl_R9_108 {n : Nat} {C : Nat → Nat} {p : Nat} {σ : vz_I} (h : pt_R9 n C p σ) {k : Nat} (x : Int32) (hk : k ≤ 6) : pt_R9 n C p (vz_up σ 108 k x) := pl_R9 h (fun j _ _ => ps_upN _ _ (by omega))
theorem pl_upc {σ τ : vz_I} {b : Nat} (a k : Nat) (x : Int32) (h : σ b = τ b) : vz_up σ a k x b = vz_up τ a k x b := by
  unfold vz_up
  rw [h]
/-- a number, both sides -/
theorem pl_num {n : Nat} {C : Nat → Nat} {σ8 σ9 : vz_I} {p : Nat} (lo hi : Nat) (hT8 : pt_T8 n C σ8) (h2 : σ8 1 2 = nI p) (hp : p ≤ n) (hT9 : pt_T9 n C σ9) (hR : pt_R9 n C p σ9) (hlo : lo < 1000) (hhi : hi < 1000) : (∃ σ8' σ9' c, (pt_k n C p = 4 → c = 1) ∧ f_X6_takeNumber (nI lo) (nI hi) σ8 = some (0, σ8') ∧ f_X9_number (nI lo) (nI hi) σ9 = some (nI lo, σ9') ∧ (∀ b, b ≠ 1 → σ8' b = σ8 b) ∧ pt_A8 c (pt_s n C p) σ8' ∧ pt_BR c (pt_s n C p) σ9' ∧ pt_F9 σ9 σ9') ∨ (∃ σ8' σ9' v q, pt_k n C p = 2 ∧ v = pt_v n C p ∧ lo ≤ v ∧ v ≤ hi ∧ p < q ∧ q ≤ n ∧ f_X6_takeNumber (nI lo) (nI hi) σ8 = some (1, σ8') ∧ f_X9_number (nI lo) (nI hi) σ9 = some (nI v, σ9') ∧ (∀ b, b ≠ 1 → σ8' b = σ8 b) ∧ σ8' 1 6 = σ8 1 6 ∧ σ8' 1 7 = σ8 1 7 ∧ σ8' 1 2 = nI q ∧ σ8' 1 5 = nI v ∧ σ8' 1 4 = nI (pt_s n C p) ∧ pt_R9 n C q σ9' ∧ pt_F9 σ9 σ9') := by
  by_cases h : pt_nf n C p lo hi = 0
  · right
    obtain ⟨k2, v1, v2⟩ := pt_nf0 h
    obtain ⟨q1, q2, q3, q4⟩ := pt_e_spec (C := C) hT8.1 hp
    obtain ⟨s1, -, -⟩ := pt_s_spec (C := C) hT8.1 hp
    obtain ⟨σ8', a1, a2, a3, a4, a5, a6, a7⟩ := pt_n8t hT8 h2 hp hlo hhi h
    obtain ⟨σ9', b1, b2, b3⟩ := pt_n9t hT9 hR hp hlo hhi h
    have := (q4 (by omega)).1
    exact ⟨σ8', σ9', pt_v n C p, pt_e n C p, k2, rfl, v1, v2, by omega, q2, a1, b1, a2, a3, a4, a5, a6, a7, b2, b3⟩
  · left
    obtain ⟨σ8', a1, a2, a3⟩ := pt_n8f hT8 h2 hp hlo hhi h
    obtain ⟨σ9', b1, b2, b3⟩ := pt_n9f hT9 hR hp hlo hhi h
    exact ⟨σ8', σ9', pt_nf n C p lo hi, fun k4 => if_pos k4, a1, b1, a2, a3, b2, b3⟩
/-- both sides refuse -/
def pl_bad (n : Nat) (C : Nat → Nat) (σ8 σ9 : vz_I) : Prop := ∃ c s, pt_A8 c s σ8 ∧ (pt_BR c s σ9 ∨ ∃ q, pt_R9 n C q σ9 ∧ pt_sf n C q = c ∧ pt_s n C q = s)
def pl_md (n : Nat) (C : Nat → Nat) (p : Nat) (b : Int32) (σ8 σ9 : vz_I) : Prop := (b = 0 ∧ pl_bad n C σ8 σ9) ∨ (b = 1 ∧ ∃ A w q, ps_Ok A ∧ w ≤ 1 ∧ p ≤ q ∧ q ≤ n ∧ pt_sf n C q = 0 ∧ pl_8 n C A w (pt_e n C q) σ8 ∧ pl_9 n C A w q σ9)
def pl_mid (n : Nat) (C : Nat → Nat) (p : Nat) (b : Int32) (σ8 σ9 : vz_I) : Prop := (pt_k n C p = 4 → b = 0 ∧ pt_A8 1 (pt_s n C p) σ8) ∧ pl_md n C p b σ8 σ9
def pl_out (n : Nat) (C : Nat → Nat) (p : Nat) (b : Int32) (σ8 σ9 : vz_I) : Prop := (b = 0 ∧ ∃ c s, pt_A8 c s σ8 ∧ pt_BR c s σ9) ∨ (b = 1 ∧ ∃ A w q, ps_Ok A ∧ w ≤ 1 ∧ p < q ∧ q ≤ n ∧ pl_8 n C A w q σ8 ∧ pl_9 n C A w q σ9)
theorem pl_b01 {n : Nat} {C : Nat → Nat} {p : Nat} {b : Int32} {σ8 σ9 : vz_I} (h : pl_md n C p b σ8 σ9) : b = 0 ∨ b = 1 := by
  rcases h with ⟨h, -⟩ | ⟨h, -⟩
  · exact Or.inl h
  · exact Or.inr h
theorem pl_tl {n : Nat} {C : Nat → Nat} {p : Nat} {b : Int32} {σ8 σ9 : vz_I} (h : pl_md n C p b σ8 σ9) : ∃ σ, pt_tail σ9 = some σ ∧ pl_out n C p b σ8 σ ∧ pl_F9 σ9 σ := by
  rcases h with ⟨hb, c, s, hA, hB | ⟨q, hR, h1, h2⟩⟩ | ⟨hb, A, w, q, hok, hw, hq, hqn, hs, h8, h9⟩
  · exact ⟨σ9, pt_tailB hB, Or.inl ⟨hb, c, s, hA, hB⟩, pl_F9_refl σ9⟩
  · have := hA.1
    obtain ⟨σ, t1, t2, t3⟩ := pt_tailF hR (by omega)
    rw [h1, h2] at t2
    exact ⟨σ, t1, Or.inl ⟨hb, c, s, hA, t2⟩, pl_F9_of t3⟩
  · obtain ⟨t9, r9, eM, m4, m5, m6, mX⟩ := h9
    obtain ⟨σ, t1, t2, t3⟩ := pt_tailT t9 r9 hqn hs
    have k3 := pt_sf0 hs
    obtain ⟨s1, -, -⟩ := pt_s_spec (C := C) t9.1 hqn
    obtain ⟨q1, q2, q3, q4⟩ := pt_e_spec (C := C) t9.1 hqn
    have := (q4 (by omega)).1
    have F := pl_F9_of t3
    refine ⟨σ, t1, Or.inr ⟨hb, A, w, pt_e n C q, hok, hw, by omega, q2, h8, pl_T9 t9 F, t2, ?_, ?_, ?_, ?_, pl_X9 mX F⟩, F⟩
    · rw [t3.1 110 (by omega)]; exact eM
    · rw [t3.2 4 (by omega)]; exact m4
    · rw [t3.2 5 (by omega)]; exact m5
    · rw [t3.2 6 (by omega)]; exact m6
/-- the end of a line, the class's side, with the reference before it -/
theorem pl_sm {n : Nat} {C : Nat → Nat} {A : ps_T} {w p q : Nat} {σ8 σ9 : vz_I} (hok : ps_Ok A) (hw : w ≤ 1) (hpq : p ≤ q) (h8 : pl_8 n C A w q σ8) (h9 : pl_9 n C A w q σ9) : ∃ b σ, f_X6_takeSemicolon σ8 = some (b, σ) ∧ pl_md n C p b σ σ9 ∧ ∀ a, a ≠ 1 → σ a = σ8 a := by
  obtain ⟨t8, hq, e2, e6, e7, eC⟩ := h8
  by_cases hs : pt_sf n C q = 0
  · obtain ⟨σ, a1, a2, a3, a4, a5⟩ := pt_s8t t8 e2 hq hs
    obtain ⟨q1, q2, q3, q4⟩ := pt_e_spec (C := C) t8.1 hq
    refine ⟨1, σ, a1, Or.inr ⟨rfl, A, w, q, hok, hw, hpq, hq, hs, ⟨pl_T8 t8 (pl_F8_of a2), q2, a5, by rw [a3]; exact e6, by rw [a4]; exact e7, ps_C_fr hok eC (fun b h1 h2 => a2 b (by omega))⟩, h9⟩, a2⟩
  · obtain ⟨σ, a1, a2, a3⟩ := pt_s8f t8 e2 hq hs
    exact ⟨0, σ, a1, Or.inl ⟨rfl, _, _, a3, Or.inr ⟨q, h9.2.1, rfl, rfl⟩⟩, a2⟩
/-- rain -/
theorem pl_rrain {n : Nat} {C : Nat → Nat} {A : ps_T} {p : Nat} {σ8 σ9 : vz_I} (hok : ps_Ok A) (h8 : pl_8 n C A 0 p σ8) (h9 : pl_9 n C A 1 p σ9) : ∃ b σ8' σ9', f_X6_readRain σ8 = some (b, σ8') ∧ f_X9_readMore (6 : Int32) σ9 = some σ9' ∧ pl_mid n C p b σ8' σ9' ∧ pl_F8 σ8 σ8' ∧ pl_F9 σ9 σ9' := by
  obtain ⟨t8, hp, e2, e6, e7, eC⟩ := h8
  obtain ⟨t9, r9, eM, m4, m5, m6, mX⟩ := h9
  have e6' : σ8 1 6 = 0 := e6
  have F0 : pl_F8 σ8 (vz_up σ8 1 6 1) := pl_F8_up σ8 _ _ (by omega)
  have c40 : (40 : Int32).toNatClampNeg = 40 := rfl
  have c41 : (41 : Int32).toNatClampNeg = 41 := rfl
  rcases pl_num 0 59 (pl_T8 t8 F0) (show (vz_up σ8 1 6 1) 1 2 = nI p by rw [ps_upN _ _ (by omega)]; exact e2) hp t9 r9 (by omega) (by omega) with ⟨x8, x9, c, k4, a1, b1, a2, a3, b2, b3⟩ | ⟨x8, x9, v, q, k2, -, -, v1, q1, q2, a1, b1, a2, a3, a4, a5, a6, -, b2, b3⟩
  · have a1' : f_X6_takeNumber (0 : Int32) (59 : Int32) (vz_up σ8 1 6 1) = some (0, x8) := a1
    have b1' : f_X9_number (0 : Int32) (59 : Int32) σ9 = some (0, x9) := b1
    have hB := pl_BR110 b2 40 0
    have E8 : f_X6_readRain σ8 = some (0, x8) := by
      unfold f_X6_readRain
      rw [if_pos e6', a1', vz_b2, if_pos rfl]
    have E9 : f_X9_readMore (6 : Int32) σ9 = some (vz_up (vz_up x9 110 40 0) 110 41 0) := by
      unfold f_X9_readMore
      rw [if_pos (by decide), if_neg (by decide), if_neg (by decide), b1', vz_b2, if_pos (by decide), c40, pt_n9B hB, vz_b2, if_pos (by decide), c41]
    exact ⟨0, x8, _, E8, E9, ⟨fun k => ⟨rfl, by rw [k4 k] at a3; exact a3⟩, Or.inl ⟨rfl, c, _, a3, Or.inl (pl_BR110 hB _ _)⟩⟩, pl_F8_trans F0 (pl_F8_of a2), pl_F9_trans (pl_F9_of b3) (pl_F9_trans (pl_F9_110 _ _ _) (pl_F9_110 _ _ _))⟩
  · have a1' : f_X6_takeNumber (0 : Int32) (59 : Int32) (vz_up σ8 1 6 1) = some (1, x8) := a1
    have b1' : f_X9_number (0 : Int32) (59 : Int32) σ9 = some (nI v, x9) := b1
    have G8 := pl_F8_trans F0 (pl_F8_of a2)
    have G9 := pl_F9_trans (pl_F9_of b3) (pl_F9_110 x9 40 (nI v))
    rcases pl_num 0 59 (pl_T8 t8 G8) a5 q2 (pl_T9 t9 G9) (pl_R9_110 b2 40 (nI v)) (by omega) (by omega) with ⟨y8, y9, c, -, d1, f1, d2, d3, f2, f3⟩ | ⟨y8, y9, u, r, -, -, -, u1, r1, r2, d1, f1, d2, d3, d4, d5, d6, -, f2, f3⟩
    · have d1' : f_X6_takeNumber (0 : Int32) (59 : Int32) x8 = some (0, y8) := d1
      have f1' : f_X9_number (0 : Int32) (59 : Int32) (vz_up x9 110 40 (nI v)) = some (0, y9) := f1
      have E8 : f_X6_readRain σ8 = some (0, y8) := by
        unfold f_X6_readRain
        rw [if_pos e6', a1', vz_b2, if_neg ps_10, d1', vz_b2, if_pos rfl]
      have E9 : f_X9_readMore (6 : Int32) σ9 = some (vz_up y9 110 41 0) := by
        unfold f_X9_readMore
        rw [if_pos (by decide), if_neg (by decide), if_neg (by decide), b1', vz_b2, if_pos (by decide), c40, f1', vz_b2, if_pos (by decide), c41]
      exact ⟨0, y8, _, E8, E9, ⟨fun k => by omega, Or.inl ⟨rfl, c, _, d3, Or.inl (pl_BR110 f2 _ _)⟩⟩, pl_F8_trans G8 (pl_F8_of d2), pl_F9_trans G9 (pl_F9_trans (pl_F9_of f3) (pl_F9_110 _ _ _))⟩
    · have d1' : f_X6_takeNumber (0 : Int32) (59 : Int32) x8 = some (1, y8) := d1
      have f1' : f_X9_number (0 : Int32) (59 : Int32) (vz_up x9 110 40 (nI v)) = some (nI u, y9) := f1
      have hok' := ps_Ok_rain (a := v) (n := u) hok (by omega) (by omega)
      have H8 := pl_F8_trans G8 (pl_F8_of d2)
      have H9 := pl_F9_trans G9 (pl_F9_trans (pl_F9_of f3) (pl_F9_110 y9 41 (nI u)))
      have I8 := pl_F8_trans H8 (pl_F8_trans (pl_F8_up y8 3 (nI v) (show 4 = 1 ∨ _ by omega)) (pl_F8_up _ 4 (nI u) (show 4 = 1 ∨ _ by omega)))
      have eC' : ps_C A y8 4 := ps_C_fr hok eC (fun b h1 h2 => by rw [d2 b (by omega), a2 b (by omega), vz_up_ne _ _ _ (by omega)])
      have Z8 : pl_8 n C (ps_set (ps_set A 7 0 v) 7 1 u) 1 r (vz_up (vz_up y8 4 3 (nI v)) 4 4 (nI u)) := by
        refine ⟨pl_T8 t8 I8, r2, ?_, ?_, ?_, ps_C_rain hok eC'⟩
        · rw [vz_up_ne _ _ _ (by omega), vz_up_ne _ _ _ (by omega)]; exact d5
        · rw [vz_up_ne _ _ _ (by omega), vz_up_ne _ _ _ (by omega), d3, a3, ps_upS]; rfl
        · rw [vz_up_ne _ _ _ (by omega), vz_up_ne _ _ _ (by omega), d4, a4, ps_upN _ _ (by omega)]; exact e7
      have Z9 : pl_9 n C (ps_set (ps_set A 7 0 v) 7 1 u) 1 r (vz_up y9 110 41 (nI u)) := by
        refine ⟨pl_T9 t9 H9, pl_R9_110 f2 _ _, ?_, ?_, ?_, ?_, pl_X9 mX H9⟩
        · have q := ps_M_rain (a := v) (n := u) hok eM
          refine ps_M_fr hok' q (fun b h1 h2 => ?_)
          rw [vz_up_self, f3.1 110 (by omega), vz_up_self, b3.1 110 (by omega)]
          by_cases z1 : b = 41
          · subst z1; rw [ps_updS, ps_updN _ _ (by omega), ps_updS]
          · rw [ps_updN _ _ z1]
            by_cases z2 : b = 40
            · subst z2; rw [ps_updS, ps_updS]
            · rw [ps_updN _ _ z2, ps_updN _ _ (by omega), ps_updN _ _ (by omega)]
        · rw [vz_up_ne _ _ _ (by omega), f3.2 4 (by omega), vz_up_ne _ _ _ (by omega), b3.2 4 (by omega), ps_setN _ _ (by omega), ps_setN _ _ (by omega)]; exact m4
        · rw [vz_up_ne _ _ _ (by omega), f3.2 5 (by omega), vz_up_ne _ _ _ (by omega), b3.2 5 (by omega), ps_setN _ _ (by omega), ps_setN _ _ (by omega)]; exact m5
        · rw [vz_up_ne _ _ _ (by omega), f3.2 6 (by omega), vz_up_ne _ _ _ (by omega), b3.2 6 (by omega)]; exact m6
      obtain ⟨b, z8, s1, s2, s3⟩ := pl_sm (p := p) hok' (by omega) (by omega) Z8 Z9
      have E8 : f_X6_readRain σ8 = some (b, z8) := by
        unfold f_X6_readRain
        rw [if_pos e6', a1', vz_b2, if_neg ps_10, d1', vz_b2, if_neg ps_10, a6, d6]
        unfold f_X7_setRain
        rw [s1, vz_b2, if_pos (pl_b01 s2)]
      have E9 : f_X9_readMore (6 : Int32) σ9 = some (vz_up y9 110 41 (nI u)) := by
        unfold f_X9_readMore
        rw [if_pos (by decide), if_neg (by decide), if_neg (by decide), b1', vz_b2, if_pos (by decide), c40, f1', vz_b2, if_pos (by decide), c41]
      exact ⟨b, z8, _, E8, E9, ⟨fun k => by omega, s2⟩, pl_F8_trans I8 (pl_F8_of s3), H9⟩
