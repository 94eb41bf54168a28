/-! pure: spoil, drift -/
def ps_rn (A : ps_T) (a n : Nat) : ps_T := ps_set (ps_set A 7 0 a) 7 1 n
theorem ps_rn_rn (A : ps_T) (a n b k : Nat) : ps_rn (ps_rn A a n) b k = ps_rn A b k := by
  funext x y
  unfold ps_rn
  by_cases h1 : x = 7 ∧ y = 1
  · obtain ⟨rfl, rfl⟩ := h1; rw [ps_setS, ps_setS]
  · by_cases h0 : x = 7 ∧ y = 0
    · obtain ⟨rfl, rfl⟩ := h0
      rw [ps_setN _ _ (by omega), ps_setS, ps_setN _ _ (by omega), ps_setS]
    · rw [ps_setN _ _ h1, ps_setN _ _ h0, ps_setN _ _ h1, ps_setN _ _ h0, ps_setN _ _ h1, ps_setN _ _ h0]
theorem ps_rnN (A : ps_T) {a n x : Nat} (y : Nat) (h : x ≠ 7) : ps_rn A a n x y = A x y := by
  unfold ps_rn
  rw [ps_setN _ _ (by omega), ps_setN _ _ (by omega)]
theorem ps_rn_self (A : ps_T) : ps_rn A (A 7 0) (A 7 1) = A := by
  unfold ps_rn
  rw [ps_set_self]
  exact ps_set_self A 7 1
theorem ps_neg {a : Nat} (h : a < 2 ^ 31) : (-(nI a)).toInt = -(a : Int) := by
  rw [Int32.toInt_neg, nI_toInt h]
  apply Int.bmod_eq_of_le <;> omega
theorem ps_negle {a b : Nat} (ha : a < 2 ^ 31) (hb : b < 2 ^ 31) : -(nI a) ≤ -(nI b) ↔ nI b ≤ nI a := by
  rw [Int32.le_iff_toInt_le, ps_neg ha, ps_neg hb, nI_leI hb ha]
  omega
def ps_sw (A : ps_T) (n i : Nat) : Int32 := -(nI (ps_pairs (ps_rn A i n) 0))
theorem ps_spo8 {A : ps_T} {k : Nat} {x2 : Int32} {s0 : Int32 × Int32} (hok : ps_Ok A) (hk : k < 60) : ∀ (n i a d : Nat) (σ : vz_I), ps_C (ps_rn A a d) σ 38 → i ≤ 60 → 60 - i < n → ps_pk σ (ps_fo nI (ps_sw A k) i s0) → ∃ σ', f_X8_spoil_42 n (nI k) x2 (nI i) σ = some (f_X2_toldOfFewest x2 σ', σ') ∧ ps_pk σ' (ps_fo nI (ps_sw A k) 60 s0) ∧ ∀ b, (b < 38 ∨ 54 < b) → b ≠ 64 → σ' b = σ b := by
  intro n
  induction n with
  | zero => intro i a d σ _ _ h; omega
  | succ n ih =>
    intro i a d σ hC hi hn hp
    rw [f_X8_spoil_42_s]
    by_cases e : i = 60
    · subst e
      rw [if_pos (by decide)]
      exact ⟨σ, rfl, hp, fun _ _ _ => rfl⟩
    · have hB : ps_Ok (ps_rn A i k) := ps_Ok_rain hok (by omega) hk
      have hC' : ps_C (ps_rn A i k) (f_X7_setRain 38 (nI i) (nI k) σ) 38 := by
        have o1 := hok.1
        have o2 := hok.2.1
        have o3 := hok.2.2.1
        obtain ⟨h1, h2, h3, h4, h5, h6, h7, h8⟩ := hC
        unfold f_X7_setRain
        refine ⟨?_, ?_, ?_, ?_, ?_, fun m' hm' => ?_, fun r hr => ?_, fun i' hi' => ?_⟩
        · rw [ps_upN _ _ (by omega), ps_upN _ _ (by omega), h1, ps_rnN _ _ (by omega), ps_rnN _ _ (by omega)]
        · rw [ps_upN _ _ (by omega), ps_upN _ _ (by omega), h2, ps_rnN _ _ (by omega), ps_rnN _ _ (by omega)]
        · rw [ps_upN _ _ (by omega), ps_upN _ _ (by omega), h3, ps_rnN _ _ (by omega), ps_rnN _ _ (by omega)]
        · rw [ps_upN _ _ (by omega), ps_upS]
          unfold ps_rn
          rw [ps_setN _ _ (by omega), ps_setS]
        · rw [ps_upS]
          unfold ps_rn
          rw [ps_setS]
        · have q := h6 m' (by rw [ps_rnN _ _ (by omega)] at hm' ⊢; exact hm')
          rw [ps_rnN _ _ (by omega)] at hm'
          rw [ps_rnN _ _ (by omega), ps_rnN _ _ (by omega), ps_rnN _ _ (by omega)] at q ⊢
          rw [vz_up_ne _ _ _ (by omega), vz_up_ne _ _ _ (by omega), vz_up_ne _ _ _ (by omega), vz_up_ne _ _ _ (by omega)]
          refine ⟨q.1, q.2.1, q.2.2.1, fun j hj => ?_⟩
          have := q.2.2.2 j hj
          rw [ps_rnN _ _ (by omega)] at this ⊢
          exact this
        · have q := h7 r (by rw [ps_rnN _ _ (by omega)] at hr ⊢; exact hr)
          rw [ps_rnN _ _ (by omega)] at hr
          rw [ps_rnN _ _ (by omega), ps_rnN _ _ (by omega), ps_rnN _ _ (by omega)] at q ⊢
          rw [vz_up_ne _ _ _ (by omega), vz_up_ne _ _ _ (by omega)]
          exact q
        · have q := h8 i' (by rw [ps_rnN _ _ (by omega)] at hi' ⊢; exact hi')
          rw [ps_rnN _ _ (by omega), ps_rnN _ _ (by omega)] at q ⊢
          rw [vz_up_ne _ _ _ (by omega), vz_up_ne _ _ _ (by omega), vz_up_ne _ _ _ (by omega), vz_up_ne _ _ _ (by omega)]
          exact q
      have f8 : ∀ b, b ≠ 38 → (f_X7_setRain 38 (nI i) (nI k) σ) b = σ b := fun b hb => by
        unfold f_X7_setRain
        rw [vz_up_ne _ _ _ hb, vz_up_ne _ _ _ hb]
      rw [if_neg (show ¬ (60 : Int32) ≤ nI i from nI_ge (b := 60) (by omega) (by omega)), ps_pr0 hB hC', vz_b1, nI_1]
      have hp' : ps_pk (f_X7_setRain 38 (nI i) (nI k) σ) (ps_fo nI (ps_sw A k) i s0) := ⟨by rw [f8 _ (by omega)]; exact hp.1, by rw [f8 _ (by omega)]; exact hp.2⟩
      obtain ⟨q1, q2⟩ := ps_offer (x := nI i) (y := ps_sw A k i) hp'
      obtain ⟨σ', e1, e2, e3⟩ := ih (i + 1) i k (f_X2_offer (nI i) (ps_sw A k i) (f_X7_setRain 38 (nI i) (nI k) σ)) (ps_C_fr hB hC' (fun b _ _ => q2 b (by omega))) (by omega) (by omega) q1
      exact ⟨σ', e1, e2, fun b r1 r2 => by rw [e3 b r1 r2, q2 b r2, f8 _ (by omega)]⟩
theorem ps_spo9 {A : ps_T} {k : Nat} {x2 : Int32} {s0 : Int32 × Int32} (hok : ps_Ok A) (hk : k < 60) : ∀ (n i l : Nat) (σ : vz_I) (y : Int32), ps_E A σ 0 0 → ps_PX σ (fun k => k = 40 ∨ k = 41) → σ 109 285 = nI k → i ≤ 60 → 60 - i < n → l ≤ 1000 → (y, -(nI l)) = ps_fo nI (ps_sw A k) i s0 → ∃ σ', f_X9_spoil_51 n x2 (nI l) y (nI i) σ = some (if x2 = 0 then (ps_fo nI (ps_sw A k) 60 s0).1 else -(ps_fo nI (ps_sw A k) 60 s0).2, σ') ∧ ps_Q σ σ' := by
  intro n
  induction n with
  | zero => intro i l σ y _ _ _ _ h; omega
  | succ n ih =>
    intro i l σ y hE hX h41 hi hn hl hp
    rw [f_X9_spoil_51_s]
    by_cases e : i = 60
    · subst e
      rw [if_pos (by decide), ← hp]
      refine ⟨σ, ?_, ps_Q_refl σ⟩
      simp only [Int32.neg_neg]
      split <;> rfl
    · have hB : ps_Ok (ps_rn A i k) := ps_Ok_rain hok (by omega) hk
      have hg := ps_M_rain (a := i) (n := k) hok hE.1
      have hM : ps_M (ps_rn A i k) ((vz_up σ 109 284 (nI i)) 109) 244 := ps_244M (A := A) hB hX (upd (upd (σ 109) (0 + 41) (nI k)) (0 + 40) (nI i)) hg (fun j _ hj => by
        rcases hj with rfl | rfl
        · rw [ps_upS, ps_updS]
        · rw [ps_upN _ _ (by omega), ps_updN _ _ (by omega), ps_updS]; exact h41) (fun j _ hj => ⟨ps_upN _ _ (by omega), by rw [ps_updN _ _ (by omega), ps_updN _ _ (by omega)]⟩)
      have e108 : (vz_up σ 109 284 (nI i)) 108 = σ 108 := vz_up_ne _ _ _ (by omega)
      obtain ⟨υ, u1, u2, u3⟩ := ps_po hB (show ps_E (ps_rn A i k) (vz_up σ 109 284 (nI i)) 244 0 from ⟨hM, by rw [e108, ps_rnN _ _ (by omega)]; exact hE.2.1, by rw [e108, ps_rnN _ _ (by omega)]; exact hE.2.2.1, by rw [e108]; exact hE.2.2.2⟩) (by omega) (by omega)
      have u109 : υ 109 = (vz_up σ 109 284 (nI i)) 109 := u3 _ (by omega) (by omega)
      have hQ : ps_Q σ υ := ⟨fun b hb => by rw [u3 b (by omega) (by omega), vz_up_ne _ _ _ (by omega)], fun j hj => by rw [u109, ps_upN _ _ (by omega)], fun j _ => by rw [u3 108 (by omega) (by omega), e108]⟩
      have hX' : ps_PX υ (fun k => k = 40 ∨ k = 41) := fun j hj hq => by
        rw [u109, ps_upN _ _ (by omega), ps_upN _ _ (by omega)]
        exact hX j hj hq
      have h41' : υ 109 285 = nI k := by rw [u109, ps_upN _ _ (by omega)]; exact h41
      have hpl := ps_pairs_le hB 0
      rw [show nI 244 = (244 : Int32) from rfl] at u1
      rw [if_neg (show ¬ (60 : Int32) ≤ nI i from nI_ge (b := 60) (by omega) (by omega)), if_pos (by decide), show (284 : Int32).toNatClampNeg = 284 from rfl, u1, vz_b2]
      have zz : ps_sw A k i ≤ -(nI l) ↔ nI l ≤ nI (ps_pairs (ps_rn A i k) 0) := ps_negle (by omega) (by omega)
      by_cases z : nI l ≤ nI (ps_pairs (ps_rn A i k) 0)
      · rw [if_pos z]
        unfold f_X9_spoil_90
        rw [if_pos z, nI_1]
        obtain ⟨σ', e1, e2⟩ := ih (i + 1) l υ y (ps_E_Q hok hE hQ) hX' h41' (by omega) (by omega) hl (ps_fo_y hp (zz.mpr z))
        exact ⟨σ', e1, ps_Q_trans hQ e2⟩
      · rw [if_neg z]
        unfold f_X9_spoil_90
        rw [if_neg z, nI_1]
        obtain ⟨σ', e1, e2⟩ := ih (i + 1) (ps_pairs (ps_rn A i k) 0) υ (nI i) (ps_E_Q hok hE hQ) hX' h41' (by omega) (by omega) (by omega) (ps_fo_n hp (fun q => z (zz.mp q)))
        exact ⟨σ', e1, ps_Q_trans hQ e2⟩
theorem sm_spoil : sim_spoil ps_R := by
  intro σ h x1 x2
  have h' := h
  obtain ⟨⟨A, a1, a2, a3, a4, a5, a6, a7, a8⟩, hP, hF, hS, hX⟩ := h'
  have e8 : f_X8_isWithin x1 1 59 = if (1 : Int) ≤ x1.toInt ∧ x1.toInt ≤ (59 : Nat) then 1 else 0 := ps_w x1 1 59
  have e9 : f_X9_in x1.toInt64 1 59 = if (1 : Int) ≤ x1.toInt ∧ x1.toInt ≤ (59 : Nat) then 1 else 0 := by
    rw [ps_i, ps_x64]; rfl
  by_cases hc : (1 : Int) ≤ x1.toInt ∧ x1.toInt ≤ (59 : Nat)
  · rw [if_pos hc] at e8 e9
    obtain ⟨k, hk, rfl⟩ := ps_ofL (n := 59) (x := x1) ⟨by omega, hc.2⟩
    by_cases hd : 0 ≤ x2.toInt ∧ x2.toInt ≤ (1 : Nat)
    · have hi9 : f_X9_in x2.toInt64 0 1 = 1 := ps_ilt 1 (by decide) hd
      obtain ⟨σ3, c1, c2, c3⟩ := ps_copy (T := 38) a1 a2 (by omega)
      obtain ⟨p1, p2⟩ := ps_restart σ3 (-1000)
      have hB0 : ps_Ok (ps_rn A 0 k) := ps_Ok_rain a1 (by omega) (by omega)
      have hpl := ps_pairs_le hB0 0
      have w0 : ∀ c : Int32, ¬ ps_sw A k 0 ≤ ((c, -1000) : Int32 × Int32).2 := fun c q => by
        have q2 := (ps_negle (b := 1000) (by omega) (by omega)).mp q
        rw [nI_leI (by omega) (by omega)] at q2
        omega
      have hC0 : ps_C (ps_rn A (A 7 0) (A 7 1)) (f_X2_restart (-1000) σ3) 38 := by
        rw [ps_rn_self]
        exact ps_C_fr a1 c2 (fun b _ _ => p2 b (by omega))
      obtain ⟨τ, t1, t2, t3⟩ := ps_spo8 (k := k) (x2 := x2) a1 (by omega) vz_fu 0 _ _ (f_X2_restart (-1000) σ3) hC0 (by omega) (by have : vz_fu = 1000000 := rfl; omega) p1
      have q8 : ps_Q σ τ := ps_Q_8 (fun b hb => by rw [t3 b (by omega) (by omega), p2 b (by omega), c3 b (by omega)])
      obtain ⟨i, hi, hfo⟩ := ps_fo_c (c := nI) (w0 (-4)) 59
      have hfo9 := ps_fo_init (c := nI) (w0 (-4)) (w0 0) 59
      obtain ⟨υ, v1, v2, v3, v4⟩ := ps_244 (σ := τ)
      have hQu : ps_Q υ (vz_up υ 109 285 (nI k)) := ⟨fun b hb => vz_up_ne _ _ _ (by omega), fun j hj => ps_upN _ _ (by omega), fun j _ => by rw [vz_up_ne _ _ _ (by omega)]⟩
      have hQ2 : ps_Q σ (vz_up υ 109 285 (nI k)) := ps_Q_trans q8 (ps_Q_trans v3 hQu)
      obtain ⟨ω, w1, w2⟩ := ps_spo9 (k := k) (x2 := x2) (s0 := (0, -1000)) a1 (by omega) vz_fu 0 1000 (vz_up υ 109 285 (nI k)) 0 (ps_E_Q a1 (ps_E0 a3 a4 a5 hX) hQ2) (fun j hj hq => by rw [ps_upN _ _ (by omega), ps_upN _ _ (by omega)]; exact v4 (fun _ => False) j hj (fun z => z)) (ps_upS _ _ _ _) (by omega) (by have : vz_fu = 1000000 := rfl; omega) (by omega) rfl
      refine ⟨if x2 = 0 then (ps_fo nI (ps_sw A k) 60 (0, -1000)).1 else -(ps_fo nI (ps_sw A k) 60 (0, -1000)).2, τ, ω, ?_, ?_, ps_R_Q h (ps_Q_trans hQ2 w2)⟩
      · have e8' : f_X2_toldOfFewest x2 τ = if x2 = 0 then (ps_fo nI (ps_sw A k) 60 (-4, -1000)).1 else -(ps_fo nI (ps_sw A k) 60 (-4, -1000)).2 := by
          unfold f_X2_toldOfFewest
          rw [t2.1, t2.2, if_neg]
          rw [hfo]
          exact ps_n4 (by omega)
        unfold f_X8_spoil
        rw [e8, if_neg ps_10, ps_e8, if_pos hd, if_neg ps_10, c1, vz_b1, ← hfo9, ← e8']
        exact t1
      · unfold f_X9_spoil
        rw [e9, if_neg ps_10, hi9, if_neg ps_10, v1, vz_b1, if_pos (by decide)]
        exact w1
    · have hi9 : f_X9_in x2.toInt64 0 1 = 0 := ps_ilf 1 (by decide) hd
      refine ⟨-1, σ, σ, ?_, ?_, h⟩
      · simp only [f_X8_spoil, e8, if_neg ps_10, ps_e8, if_neg hd, if_true]
      · simp only [f_X9_spoil, e9, if_neg ps_10, hi9, if_true]
  · rw [if_neg hc] at e8 e9
    refine ⟨-1, σ, σ, ?_, ?_, h⟩
    · simp only [f_X8_spoil, e8, if_true]
    · simp only [f_X9_spoil, e9, if_true]
/-! drift -/
theorem ps_draw (x : Int32) : ((x.toUInt32 >>> ((16 : Int32).toUInt32 &&& Int32.toUInt32 31)).toInt32) &&& (32767 : Int32) = (x >>> ((16 : Int32) &&& 31)) &&& (32767 : Int32) := by
  have e : (((16 : Int32) &&& 31).toBitVec.smod 32).toNat = 16 := by decide
  have e2 : (((16 : Int32).toUInt32 &&& Int32.toUInt32 31).toBitVec % 32).toNat = 16 := by decide
  have e3 : ∀ i, i < 32 → (Int32.toBitVec 32767).getLsbD i = decide (i < 15) := by decide
  apply Int32.toBitVec_inj.mp
  apply BitVec.eq_of_getLsbD_eq
  intro i hi
  rw [Int32.toBitVec_and, Int32.toBitVec_and, BitVec.getLsbD_and, BitVec.getLsbD_and, e3 i hi]
  by_cases q : i < 15
  · congr 1
    have l : ((x.toUInt32 >>> ((16 : Int32).toUInt32 &&& Int32.toUInt32 31)).toInt32).toBitVec = x.toBitVec >>> 16 := by
      show (x.toUInt32 >>> ((16 : Int32).toUInt32 &&& Int32.toUInt32 31)).toBitVec = _
      rw [UInt32.toBitVec_shiftRight, BitVec.ushiftRight_eq', e2]
      rfl
    rw [l, Int32.toBitVec_shiftRight, BitVec.sshiftRight_eq', e, BitVec.getLsbD_sshiftRight, BitVec.getLsbD_ushiftRight]
    simp [show ¬ 32 ≤ i by omega, show 16 + i < 32 by omega]
  · simp [q]
def ps_drB (B : ps_T) (g : Nat) : ps_T := ps_rn (ps_rot B (g % B 0 0) (g / 4 % B 3 (g % B 0 0))) (g / 16 % 60) 10
theorem ps_drB0 (B : ps_T) (g : Nat) : ps_drB B g 0 0 = B 0 0 ∧ ps_drB B g 0 1 = B 0 1 := by
  unfold ps_drB
  exact ⟨by rw [ps_rnN _ _ (by omega), ps_rotN _ _ (by omega)], by rw [ps_rnN _ _ (by omega), ps_rotN _ _ (by omega)]⟩
theorem ps_Ok_drB {B : ps_T} {g : Nat} (hok : ps_Ok B) (h1 : 1 ≤ B 0 0) : ps_Ok (ps_drB B g) := ps_Ok_rain (ps_Ok_rot hok (Nat.mod_lt _ h1)) (Nat.mod_lt _ (by omega)) (by omega)
def ps_sd (x : Int32) : Int32 := (x * (1103515245 : Int32)) + (12345 : Int32)
def ps_gt (x : Int32) : Nat := (((x * (1103515245 : Int32)) + (12345 : Int32)) >>> ((16 : Int32) &&& 31) &&& (32767 : Int32)).toNatClampNeg
theorem ps_gt_e (x : Int32) : ((x * (1103515245 : Int32)) + (12345 : Int32)) >>> ((16 : Int32) &&& 31) &&& (32767 : Int32) = nI (ps_gt x) ∧ ps_gt x < 32768 := by
  obtain ⟨j, h1, h2⟩ := pk_andE (((x * (1103515245 : Int32)) + (12345 : Int32)) >>> ((16 : Int32) &&& 31)) (m := 32767) 15 (by decide)
  unfold ps_gt
  rw [h2, nI_clamp (by omega)]
  exact ⟨rfl, h1⟩
def ps_drG (sd : Int32 → Int32) (stp : ps_T → Int32 → ps_T) (pr : ps_T → Int32) : Nat → Int32 → ps_T → Int32 → Int32 → Int32 × Int32
  | 0, _, _, s, l => (s, l)
  | d + 1, x, B, s, l => ps_drG sd stp pr d (sd x) (stp B x) (s + pr (stp B x)) (pr (stp B x))
def ps_stp (B : ps_T) (x : Int32) : ps_T := ps_drB B (ps_gt x)
def ps_prI (B : ps_T) : Int32 := nI (ps_pairs B 0)
abbrev ps_dr : Nat → Int32 → ps_T → Int32 → Int32 → Int32 × Int32 := ps_drG ps_sd ps_stp ps_prI
theorem ps_dr_0 (x : Int32) (B : ps_T) (s l : Int32) : ps_dr 0 x B s l = (s, l) := by unfold ps_dr; rw [ps_drG]
theorem ps_dr_s (d : Nat) (x : Int32) (B : ps_T) (s l : Int32) : ps_dr (d + 1) x B s l = ps_dr d (ps_sd x) (ps_stp B x) (s + ps_prI (ps_stp B x)) (ps_prI (ps_stp B x)) := by unfold ps_dr; rw [ps_drG]
theorem ps_drift8 {B : ps_T} {σ : vz_I} {g : Nat} (hok : ps_Ok B) (h1 : 1 ≤ B 0 0) (hg : g < 32768) (hC : ps_C B σ 38) : ∃ σ', f_X7_driftBy 38 (nI g) σ = some σ' ∧ ps_C (ps_drB B g) σ' 38 ∧ ∀ b, (b < 38 ∨ 54 < b) → σ' b = σ b := by
  have o1 := hok.1
  have hm := Nat.mod_lt g h1
  obtain ⟨ok1, ok2, ok3, ok4, ok5⟩ := hok.2.2.2.2.2.1 _ hm
  obtain ⟨g1, g2, g3, g4⟩ := hC.2.2.2.2.2.1 _ hm
  have hs := Nat.mod_lt (g / 4) ok3
  obtain ⟨τ, t1, t2, t3⟩ := ps_C_turn (k := g / 4 % B 3 (g % B 0 0)) hok hm (by omega) (ps_C_rot0 hok hm hC)
  rw [Nat.zero_add] at t2
  have hC2 := ps_C_rain (a := g / 16 % 60) (n := 10) (ps_Ok_rot hok hm) t2
  refine ⟨_, ?_, hC2, fun b hb => by rw [vz_up_ne _ _ _ (by omega), vz_up_ne _ _ _ (by omega), t3 b (by omega)]⟩
  unfold f_X7_driftBy f_X7_driftBy_46 f_X7_setRain
  rw [hC.1, if_pos (show (1 : Int32) ≤ nI (B 0 0) from nI_le (a := 1) h1 (by omega)), if_neg (nI_ne0 h1 (by omega)), pk_rem (by omega) h1 (by omega), ps_manY hok hC hm, vz_b1, vz_mo, g3, if_neg (nI_nle ok3 (by omega)), if_neg (nI_ne0 ok3 (by omega)), show nI g / (4 : Int32) = nI (g / 4) from pk_div (d := 4) (by omega) (by omega) (by omega), pk_rem (by omega) ok3 (by omega), t1, vz_b1, show nI g / (16 : Int32) = nI (g / 16) from pk_div (d := 16) (by omega) (by omega) (by omega), show nI (g / 16) - nI (g / 16) / (60 : Int32) * (60 : Int32) = nI (g / 16 % 60) from pk_rem (d := 60) (by omega) (by omega) (by omega)]
  rfl
theorem ps_dri8 {N : Nat} {x3 : Int32} (hN : N ≤ 60) : ∀ (n i : Nat) (B : ps_T) (x1 x4 x5 : Int32) (σ : vz_I), ps_Ok B → 1 ≤ B 0 0 → ps_C B σ 38 → i ≤ N → N - i < n → ∃ σ', f_X8_drift_53 n x1 (nI N) x3 x4 x5 (nI i) σ = some (if x3 = 0 then (ps_dr (N - i) x1 B x4 x5).1 else (ps_dr (N - i) x1 B x4 x5).2, σ') ∧ ∀ b, (b < 38 ∨ 54 < b) → σ' b = σ b := by
  intro n
  induction n with
  | zero => intro i B x1 x4 x5 σ _ _ _ _ h; omega
  | succ n ih =>
    intro i B x1 x4 x5 σ hok h1 hC hi hn
    rw [f_X8_drift_53_s]
    by_cases e : N ≤ i
    · obtain rfl : i = N := by omega
      rw [if_pos (nI_le (Nat.le_refl _) (by omega)), Nat.sub_self]
      refine ⟨σ, ?_, fun _ _ => rfl⟩
      rw [ps_dr_0]
      split <;> rfl
    · obtain ⟨q1, q2⟩ := ps_gt_e x1
      obtain ⟨τ, t1, t2, t3⟩ := ps_drift8 hok h1 q2 hC
      have hB := ps_Ok_drB (g := ps_gt x1) hok h1
      rw [if_neg (nI_ge (by omega) (by omega)), ps_draw, q1, t1, vz_b1, ps_pr0 hB t2, vz_b1, nI_1]
      obtain ⟨σ', e1, e2⟩ := ih (i + 1) (ps_drB B (ps_gt x1)) (ps_sd x1) (x4 + nI (ps_pairs (ps_drB B (ps_gt x1)) 0)) (nI (ps_pairs (ps_drB B (ps_gt x1)) 0)) τ hB (by rw [(ps_drB0 B _).1]; exact h1) t2 (by omega) (by omega)
      rw [show N - i = (N - (i + 1)) + 1 by omega, ps_dr_s, show ps_stp B x1 = ps_drB B (ps_gt x1) from rfl, show ps_prI (ps_drB B (ps_gt x1)) = nI (ps_pairs (ps_drB B (ps_gt x1)) 0) from rfl]
      exact ⟨σ', e1, fun b hb => by rw [e2 b hb, t3 b hb]⟩
theorem ps_dri9 {N : Nat} {A : ps_T} {x3 : Int32} (hA : ps_Ok A) (hN : N ≤ 60) : ∀ (n i : Nat) (B : ps_T) (x1 x4 x5 : Int32) (σ : vz_I), ps_Ok B → 1 ≤ B 0 0 → B 0 0 = A 0 0 → B 0 1 = A 0 1 → ps_E A σ 0 0 → ps_M B (σ 109) 244 → i ≤ N → N - i < n → ∃ σ', f_X9_drift_54 n (nI N) x3 x1 x4 x5 (nI i) σ = some (if x3 = 0 then (ps_dr (N - i) x1 B x4 x5).1 else (ps_dr (N - i) x1 B x4 x5).2, σ') ∧ ps_Q σ σ' := by
  intro n
  induction n with
  | zero => intro i B x1 x4 x5 σ _ _ _ _ _ _ _ h; omega
  | succ n ih =>
    intro i B x1 x4 x5 σ hok h1 b0 b1 hE hM hi hn
    rw [f_X9_drift_54_s]
    by_cases e : N ≤ i
    · obtain rfl : i = N := by omega
      rw [if_pos (nI_le (Nat.le_refl _) (by omega)), Nat.sub_self]
      refine ⟨σ, ?_, ps_Q_refl σ⟩
      rw [ps_dr_0]
      split <;> rfl
    · have o1 := hok.1
      obtain ⟨q1, q2⟩ := ps_gt_e x1
      generalize hg : ps_gt x1 = g at q1 q2
      have hm := Nat.mod_lt g h1
      obtain ⟨ok1, ok2, ok3, ok4, ok5⟩ := hok.2.2.2.2.2.1 _ hm
      obtain ⟨g1, g2, g3, g4⟩ := hM.2.2.2.1 _ hm
      have hs := Nat.mod_lt (g / 4) ok3
      obtain ⟨ω, w1, w2, w3, w4⟩ := ps_so (p := 244) (s := g / 4 % B 3 (g % B 0 0)) hok hM hm (by omega) (by omega)
      have hMw : ps_M (ps_rot B (g % B 0 0) (g / 4 % B 3 (g % B 0 0))) (ω 109) 244 := ps_M_pth hok hm hM (fun b _ _ hb => w3 b hb) w4
      have hRok : ps_Ok (ps_rot B (g % B 0 0) (g / 4 % B 3 (g % B 0 0))) := ps_Ok_rot hok hm
      have hB : ps_Ok (ps_drB B g) := ps_Ok_drB hok h1
      have hMr : ps_M (ps_drB B g) ((vz_up (vz_up ω 109 284 (nI (g / 16 % 60))) 109 285 (10 : Int32)) 109) 244 := by
        have q := ps_M_rain (a := g / 16 % 60) (n := 10) hRok hMw
        refine ps_M_fr hB q (fun b _ _ => ?_)
        by_cases z1 : b = 285
        · subst z1; rw [ps_upS, ps_updN _ _ (by omega), ps_updS]; rfl
        · by_cases z2 : b = 284
          · subst z2; rw [ps_upN _ _ (by omega), ps_upS, ps_updS]
          · rw [ps_upN _ _ z1, ps_upN _ _ z2, ps_updN _ _ (by omega), ps_updN _ _ (by omega)]
      generalize hr : vz_up (vz_up ω 109 284 (nI (g / 16 % 60))) 109 285 (10 : Int32) = ρ at hMr
      have e108 : ρ 108 = σ 108 := by rw [← hr, vz_up_ne _ _ _ (by omega), vz_up_ne _ _ _ (by omega), w2 108 (by omega) (by omega)]
      obtain ⟨υ, u1, u2, u3⟩ := ps_po hB (show ps_E (ps_drB B g) ρ 244 0 from ⟨hMr, by rw [e108, (ps_drB0 B g).1, b0]; exact hE.2.1, by rw [e108, (ps_drB0 B g).2, b1]; exact hE.2.2.1, by rw [e108]; exact hE.2.2.2⟩) (by omega) (by omega)
      have hQ : ps_Q σ υ := by
        refine ⟨fun b hb => ?_, fun k hk => ?_, fun j _ => by rw [u3 108 (by omega) (by omega), e108]⟩
        · rw [u3 b (by omega) (by omega), ← hr, vz_up_ne _ _ _ (by omega), vz_up_ne _ _ _ (by omega), w2 b (by omega) (by omega)]
        · rw [u3 109 (by omega) (by omega), ← hr, ps_upN _ _ (by omega), ps_upN _ _ (by omega), w3 k (by omega)]
      rw [show nI 244 = (244 : Int32) from rfl] at w1 u1
      have h108 : σ 108 1 = nI (B 0 0) := by rw [b0]; exact hE.2.1
      rw [if_neg (nI_ge (by omega) (by omega)), vz_let, q1, h108, if_neg (nI_ne0 h1 (by omega)), pk_rem (by omega) h1 (by omega), show (252 : Int32) + nI (g % B 0 0) = nI (252 + g % B 0 0) from nI_add 252 _, if_pos ((ps_in (by omega)).mpr (by omega)), nI_clamp (by omega), show 252 + g % B 0 0 = 244 + 8 + g % B 0 0 by omega, g3, if_neg (nI_ne0 ok3 (by omega)), show nI g / (4 : Int32) = nI (g / 4) from pk_div (d := 4) (by omega) (by omega) (by omega), pk_rem (by omega) ok3 (by omega), w1, vz_b1, if_pos (by decide), vz_let, if_pos (by decide), show nI g / (16 : Int32) = nI (g / 16) from pk_div (d := 16) (by omega) (by omega) (by omega), show nI (g / 16) - nI (g / 16) / (60 : Int32) * (60 : Int32) = nI (g / 16 % 60) from pk_rem (d := 60) (by omega) (by omega) (by omega), show (284 : Int32).toNatClampNeg = 284 from rfl, show (285 : Int32).toNatClampNeg = 285 from rfl, hr, u1, vz_b2, nI_1]
      obtain ⟨σ', e1, e2⟩ := ih (i + 1) (ps_drB B g) (ps_sd x1) (x4 + nI (ps_pairs (ps_drB B g) 0)) (nI (ps_pairs (ps_drB B g) 0)) υ hB (by rw [(ps_drB0 B _).1]; exact h1) (by rw [(ps_drB0 B _).1]; exact b0) (by rw [(ps_drB0 B _).2]; exact b1) (ps_E_Q hA hE hQ) (by rw [u3 109 (by omega) (by omega)]; exact hMr) (by omega) (by omega)
      rw [show N - i = (N - (i + 1)) + 1 by omega, ps_dr_s, show ps_stp B x1 = ps_drB B (ps_gt x1) from rfl, hg, show ps_prI (ps_drB B g) = nI (ps_pairs (ps_drB B g) 0) from rfl]
      exact ⟨σ', e1, ps_Q_trans hQ e2⟩
theorem sm_drift : sim_drift ps_R := by
  intro σ h x1 x2 x3
  have h' := h
  obtain ⟨⟨A, a1, a2, a3, a4, a5, a6, a7, a8⟩, hP, hF, hS, hX⟩ := h'
  have o1 := a1.1
  have e8 : f_X8_isWithin x2 1 60 = if (1 : Int) ≤ x2.toInt ∧ x2.toInt ≤ (60 : Nat) then 1 else 0 := ps_w x2 1 60
  have e9 : f_X9_in x2.toInt64 1 60 = if (1 : Int) ≤ x2.toInt ∧ x2.toInt ≤ (60 : Nat) then 1 else 0 := by
    rw [ps_i, ps_x64]; rfl
  by_cases hc : (1 : Int) ≤ x2.toInt ∧ x2.toInt ≤ (60 : Nat)
  · rw [if_pos hc] at e8 e9
    obtain ⟨N, hN, rfl⟩ := ps_ofL (n := 60) (x := x2) ⟨by omega, hc.2⟩
    by_cases hd : 0 ≤ x3.toInt ∧ x3.toInt ≤ (1 : Nat)
    · have hi9 : f_X9_in x3.toInt64 0 1 = 1 := ps_ilt 1 (by decide) hd
      by_cases h1 : 1 ≤ A 0 0
      · obtain ⟨σ3, c1, c2, c3⟩ := ps_copy (T := 38) a1 a2 (by omega)
        obtain ⟨τ, t1, t2⟩ := ps_dri8 (x3 := x3) hN vz_fu 0 A x1 0 0 σ3 a1 h1 c2 (by omega) (by have : vz_fu = 1000000 := rfl; omega)
        have q8 : ps_Q σ τ := ps_Q_8 (fun b hb => by rw [t2 b (by omega), c3 b (by omega)])
        obtain ⟨υ, v1, v2, v3, v4⟩ := ps_244 (σ := τ)
        have hQ2 : ps_Q σ υ := ps_Q_trans q8 v3
        have hE2 := ps_E_Q a1 (ps_E0 a3 a4 a5 hX) hQ2
        obtain ⟨ω, w1, w2⟩ := ps_dri9 (x3 := x3) a1 hN vz_fu 0 A x1 0 0 υ a1 h1 rfl rfl hE2 (ps_M_mv (f := υ 109) (x := 0) a1 hE2.1 (fun k hk => by rw [v4 (fun _ => False) k hk (fun z => z), Nat.zero_add])) (by omega) (by have : vz_fu = 1000000 := rfl; omega)
        refine ⟨if x3 = 0 then (ps_dr (N - 0) x1 A 0 0).1 else (ps_dr (N - 0) x1 A 0 0).2, τ, ω, ?_, ?_, ps_R_Q h (ps_Q_trans hQ2 w2)⟩
        · unfold f_X8_drift
          rw [e8, if_neg ps_10, ps_e8, if_pos hd, if_neg ps_10, a2.1, if_pos (show (1 : Int32) ≤ nI (A 0 0) from nI_le (a := 1) h1 (by omega)), c1, vz_b1]
          exact t1
        · unfold f_X9_drift
          rw [e9, if_neg ps_10, hi9, if_neg ps_10, q8.2.2 1 (by omega), a4, if_neg (nI_ne0 h1 (by omega)), v1, vz_b1]
          exact w1
      · have z : A 0 0 = 0 := by omega
        refine ⟨-2, σ, σ, ?_, ?_, h⟩
        · unfold f_X8_drift
          rw [e8, if_neg ps_10, ps_e8, if_pos hd, if_neg ps_10, a2.1, z, if_neg (by decide)]
        · unfold f_X9_drift
          rw [e9, if_neg ps_10, hi9, if_neg ps_10, a4, z, if_pos (by decide)]
    · have hi9 : f_X9_in x3.toInt64 0 1 = 0 := ps_ilf 1 (by decide) hd
      refine ⟨-1, σ, σ, ?_, ?_, h⟩
      · simp only [f_X8_drift, e8, if_neg ps_10, ps_e8, if_neg hd, if_true]
      · simp only [f_X9_drift, e9, if_neg ps_10, hi9, if_true]
  · rw [if_neg hc] at e8 e9
    refine ⟨-1, σ, σ, ?_, ?_, h⟩
    · simp only [f_X8_drift, e8, if_true]
    · simp only [f_X9_drift, e9, if_true]
