/-! pure: reads, knows, first, all, count -/
theorem ps_rdh0 (A : ps_T) (c f u m t b : Nat) : ps_rdh A 0 c f u m t b = ps_rd A c f u m t b := by
  unfold ps_rdh
  rw [Nat.zero_testBit]
  rfl
theorem ps_reads_l {A : ps_T} {σ : vz_I} {r t b : Nat} (hok : ps_Ok A) (hE : ps_E A σ 0 0) (hr : r < A 0 1) (ht : t < 60) (hb : b ≤ 1) : ∀ n i, i ≤ A 0 0 → A 0 0 - i < n → f_X9_reads_33 n (nI r) (nI t) (nI b) (nI (ps_mask i (fun m => ps_rd A (A 4 r) (A 5 r) (A 6 r) m t b))) (nI i) σ = some (nI (ps_mask (A 0 0) (fun m => ps_rd A (A 4 r) (A 5 r) (A 6 r) m t b))) := by
  have o1 := hok.1
  intro n
  induction n with
  | zero => intro i _ h; omega
  | succ n ih =>
    intro i hi hn
    rw [f_X9_reads_33_s, hE.2.1]
    by_cases e : A 0 0 ≤ i
    · obtain rfl : i = A 0 0 := by omega
      rw [if_pos (nI_le (Nat.le_refl _) (by omega))]
    · rw [if_neg (nI_ge (by omega) (by omega))]
      have q := ps_readsOn hok hE (by omega) (by omega) hr (show i < A 0 0 by omega) ht hb
      rw [ps_rdh0, show nI 0 = (0 : Int32) from rfl] at q
      have q2 := ih (i + 1) (by omega) (by omega)
      rw [ps_mask] at q2
      have step : ∀ y : Option Int32, (vz_b1 (some (if ps_rd A (A 4 r) (A 5 r) (A 6 r) i t b = true then (1 : Int32) else 0)) (fun v => if v = 0 then f_X9_reads_33 n (nI r) (nI t) (nI b) (nI (ps_mask i (fun m => ps_rd A (A 4 r) (A 5 r) (A 6 r) m t b)) ||| (0 : Int32)) (nI i + (1 : Int32)) σ else f_X9_reads_33 n (nI r) (nI t) (nI b) (nI (ps_mask i (fun m => ps_rd A (A 4 r) (A 5 r) (A 6 r) m t b)) ||| ((1 : Int32) <<< (nI i &&& 31))) (nI i + (1 : Int32)) σ)) = some (nI (ps_mask (A 0 0) (fun m => ps_rd A (A 4 r) (A 5 r) (A 6 r) m t b))) := by
        intro _
        rw [vz_b1]
        by_cases z : ps_rd A (A 4 r) (A 5 r) (A 6 r) i t b = true
        · rw [if_pos z] at q2
          rw [if_pos z, if_neg ps_10, ps_shl1 _ (by omega), ps_or, nI_1]
          exact q2
        · rw [if_neg z] at q2
          rw [if_neg z, if_pos rfl, show (0 : Int32) = nI 0 from rfl, ps_or, nI_1]
          exact q2
      rcases (show b = 0 ∨ b = 1 by omega) with rfl | rfl
      · rw [if_neg (by decide)]
        rw [show nI 0 = (0 : Int32) from rfl] at q
        rw [show (0 : Int32) = nI 0 from rfl] at *
        rw [q]
        exact step none
      · rw [if_pos (by decide)]
        rw [show (1 : Int32) = nI 1 from rfl] at *
        rw [q]
        exact step none
theorem sm_reads : sim_reads ps_R := by
  intro σ h x1 x2 x3
  have h' := h
  obtain ⟨⟨A, a1, a2, a3, a4, a5, a6, a7, a8⟩, -, -, -, hX⟩ := h'
  by_cases hc : 0 ≤ x1.toInt ∧ x1.toInt < A 0 1
  · obtain ⟨r, hr, rfl⟩ := ps_ofM hc
    have hrY := ps_isRdY a1 a5 hr
    obtain ⟨k1, k2, k3⟩ := ps_rOk a1 hr
    by_cases hd : 0 ≤ x2.toInt ∧ x2.toInt ≤ (59 : Nat)
    · have hd' := hd
      obtain ⟨t, ht, rfl⟩ := ps_ofL hd
      by_cases he : 0 ≤ x3.toInt ∧ x3.toInt ≤ (1 : Nat)
      · have he' := he
        obtain ⟨b, hb, rfl⟩ := ps_ofL he
        have hi9 : f_X9_in (nI b).toInt64 0 1 = 1 := ps_ilt 1 (by decide) he'
        have q := ps_reads_l a1 (ps_E0 a3 a4 a5 hX) hr (show t < 60 by omega) hb vz_fu 0 (by omega) (by have := a1.1; have : vz_fu = 1000000 := rfl; omega)
        rw [ps_mask, show nI 0 = (0 : Int32) from rfl] at q
        refine ⟨nI (ps_mask (A 0 0) (fun m => ps_rd A (A 4 r) (A 5 r) (A 6 r) m t b)), σ, σ, ⟨?_, rfl⟩, ⟨?_, rfl⟩, h⟩
        rotate_left
        · simp only [f_X9_reads, hrY, if_neg ps_10, ps_t9, if_pos hd', hi9]
          exact q
        · simp only [f_X8_reads, ps_rdY a1 a2 hr, vz_b1, vz_mo, ps_t8, if_pos hd', if_neg ps_10, ps_e8, if_pos he']
          rw [ps_mn a1 a2 (ps_rcOf a2 hr) k1 k2 k3 hb (by omega)]
      · have hi9 : f_X9_in x3.toInt64 0 1 = 0 := ps_ilf 1 (by decide) he
        refine ⟨-1, σ, σ, ⟨?_, rfl⟩, ⟨?_, rfl⟩, h⟩
        · simp only [f_X8_reads, ps_rdY a1 a2 hr, vz_b1, vz_mo, ps_t8, if_pos hd', if_neg ps_10, ps_e8, if_neg he, if_true]
        · simp only [f_X9_reads, hrY, if_neg ps_10, ps_t9, if_pos hd', hi9, if_true]
    · refine ⟨-1, σ, σ, ⟨?_, rfl⟩, ⟨?_, rfl⟩, h⟩
      · simp only [f_X8_reads, ps_rdY a1 a2 hr, vz_b1, vz_mo, ps_t8, if_neg hd, if_true]
      · simp only [f_X9_reads, hrY, if_neg ps_10, ps_t9, if_neg hd, if_true]
  · refine ⟨-1, σ, σ, ⟨?_, rfl⟩, ⟨?_, rfl⟩, h⟩
    · simp only [f_X8_reads, ps_rdN a1 a2 hc, vz_b1, vz_mo]
    · simp only [f_X9_reads, ps_isRd a1 a5, if_neg hc, if_true]
def ps_val (A : ps_T) (h r s w : Nat) : Nat := if s = 0 then ps_L A h (A 4 r) (A 5 r) (A 6 r) w 0 else if s = 1 then ps_L A h (A 4 r) (A 5 r) (A 6 r) w 1 else ps_W A h (A 4 r) (A 5 r) (A 6 r) w
theorem ps_knows_l {A : ps_T} {σ : vz_I} {r t s : Nat} (hok : ps_Ok A) (hN : ps_N A σ 0 60) (hr : r < A 0 1) (ht : t < 60) (hs : s ≤ 2) : ∀ n i, i ≤ 10 → 10 - i < n → f_X9_knows_40 n (nI r) (nI t) (nI s) (nI (ps_mask i (fun w => decide (ps_val A 0 r s w ≤ t)))) (nI i) σ = some (nI (ps_mask 10 (fun w => decide (ps_val A 0 r s w ≤ t))), σ) := by
  have o2 := hok.2.1
  intro n
  induction n with
  | zero => intro i _ h; omega
  | succ n ih =>
    intro i hi hn
    rw [f_X9_knows_40_s]
    by_cases e : i = 10
    · subst e
      rw [if_pos (by decide)]
    · rw [if_neg (show ¬ (10 : Int32) ≤ nI i from nI_ge (b := 10) (by omega) (by omega)), show (10 : Int32) * nI r = nI (10 * r) from pk_mul 10 r, nI_add, nI_clamp (show 10 * r + i < 2 ^ 31 by omega)]
      obtain ⟨n1, n2⟩ := hN r hr i (by omega)
      have hin : vz_in (nI (10 * r + i)) 40 := (ps_in (by omega)).mpr (by omega)
      have hv : ps_val A 0 r s i < 2000 := by
        have m0 := ps_lo_max (ps_P A 0 (A 4 r) (A 5 r) (A 6 r) i 0)
        have m1 := ps_lo_max (ps_P A 0 (A 4 r) (A 5 r) (A 6 r) i 1)
        have m2 := ps_W_max A 0 (A 4 r) (A 5 r) (A 6 r) i
        unfold ps_val ps_L
        split
        · omega
        · split <;> omega
      have q2 := ih (i + 1) (by omega) (by omega)
      rw [ps_mask] at q2
      have step : f_X9_knows_93 (f_X9_knows_40 n) (nI r) (nI t) (nI s) (nI (ps_mask i (fun w => decide (ps_val A 0 r s w ≤ t)))) (nI i) (nI (ps_val A 0 r s i)) σ = some (nI (ps_mask 10 (fun w => decide (ps_val A 0 r s w ≤ t))), σ) := by
        unfold f_X9_knows_93
        by_cases z : ps_val A 0 r s i ≤ t
        · rw [if_neg (nI_nlt z (by omega)), ps_shl1 _ (by omega), ps_or, nI_1]
          rw [decide_eq_true z, if_pos rfl] at q2
          exact q2
        · rw [if_pos (nI_lt (by omega) (by omega)), show (0 : Int32) = nI 0 from rfl, ps_or, nI_1]
          rw [decide_eq_false z, if_neg (by decide)] at q2
          exact q2
      rcases (show s = 0 ∨ s = 1 ∨ s = 2 by omega) with rfl | rfl | rfl
      · rw [if_pos (by decide), if_pos hin, n1]
        exact step
      · rw [if_neg (by decide), if_pos (by decide), if_pos hin, n2]
        exact step
      · rw [if_neg (by decide), if_neg (by decide), ps_wo hok hN hr (by omega), vz_b1]
        exact step
theorem sm_knows : sim_knows ps_R := by
  intro σ h x1 x2 x3
  have h' := h
  obtain ⟨⟨A, a1, a2, a3, a4, a5, a6, a7, a8⟩, -, -, -, hX⟩ := h'
  by_cases hc : 0 ≤ x1.toInt ∧ x1.toInt < A 0 1
  · obtain ⟨r, hr, rfl⟩ := ps_ofM hc
    have hrY := ps_isRdY a1 a5 hr
    obtain ⟨k1, k2, k3⟩ := ps_rOk a1 hr
    by_cases hd : 0 ≤ x2.toInt ∧ x2.toInt ≤ (59 : Nat)
    · have hd' := hd
      obtain ⟨t, ht, rfl⟩ := ps_ofL hd
      by_cases he : 0 ≤ x3.toInt ∧ x3.toInt ≤ (2 : Nat)
      · have he' := he
        obtain ⟨s, hs, rfl⟩ := ps_ofL he
        have hi9 : f_X9_in (nI s).toInt64 0 2 = 1 := ps_ilt 2 (by decide) he'
        obtain ⟨σ', s1, s2, s3⟩ := ps_learn a1 (ps_E0 a3 a4 a5 hX) (by omega) (by omega)
        have q := ps_knows_l a1 s2 hr (show t < 60 by omega) hs vz_fu 0 (by omega) (by have : vz_fu = 1000000 := rfl; omega)
        rw [ps_mask, show nI 0 = (0 : Int32) from rfl] at q
        rw [show nI 0 = (0 : Int32) from rfl] at s1
        refine ⟨nI (ps_mask 10 (fun w => decide (ps_val A 0 r s w ≤ t))), σ, σ', ⟨?_, rfl⟩, ?_, ps_R_Q h (ps_Q_ln s3)⟩
        · simp only [f_X8_knows, ps_rdY a1 a2 hr, vz_b1, vz_mo, ps_t8, if_pos hd', if_neg ps_10]
          rcases (show s = 0 ∨ s = 1 ∨ s = 2 by omega) with rfl | rfl | rfl
          · have q3 := ps_nr (T := 21) (b := 0) (h := 0) (o := 15) a1 a2 (ps_rcOf a2 hr) k1 k2 k3 (by omega) (by omega) (ps_h0 a1.1) (show t < 60 by omega) rfl
            rw [show nI 0 = (0 : Int32) from rfl, show nI 15 = (15 : Int32) from rfl] at q3
            rw [if_pos (by decide), q3]
            rfl
          · have q3 := ps_nr (T := 21) (b := 1) (h := 0) (o := 15) a1 a2 (ps_rcOf a2 hr) k1 k2 k3 (by omega) (by omega) (ps_h0 a1.1) (show t < 60 by omega) rfl
            rw [show nI 1 = (1 : Int32) from rfl, show nI 15 = (15 : Int32) from rfl] at q3
            rw [if_neg (by decide), if_pos (by decide), q3]
            rfl
          · have q3 := ps_wn (T := 21) (h := 0) (o := 15) a1 a2 (ps_rcOf a2 hr) k1 k2 k3 (by omega) (ps_h0 a1.1) (show t < 60 by omega) rfl
            rw [show nI 15 = (15 : Int32) from rfl] at q3
            rw [if_neg (by decide), if_neg (by decide), if_pos (by decide), q3]
            rfl
        · simp only [f_X9_knows, hrY, if_neg ps_10, ps_t9, if_pos hd', hi9, s1, vz_b1]
          exact q
      · have hi9 : f_X9_in x3.toInt64 0 2 = 0 := ps_ilf 2 (by decide) he
        obtain ⟨n0, n1, n2⟩ := ps_not2 he
        refine ⟨-1, σ, σ, ⟨?_, rfl⟩, ?_, h⟩
        · simp only [f_X8_knows, ps_rdY a1 a2 hr, vz_b1, vz_mo, ps_t8, if_pos hd', if_neg ps_10, if_neg n0, if_neg n1, if_neg n2]
        · simp only [f_X9_knows, hrY, if_neg ps_10, ps_t9, if_pos hd', hi9, if_true]
    · refine ⟨-1, σ, σ, ⟨?_, rfl⟩, ?_, h⟩
      · simp only [f_X8_knows, ps_rdY a1 a2 hr, vz_b1, vz_mo, ps_t8, if_neg hd, if_true]
      · simp only [f_X9_knows, hrY, if_neg ps_10, ps_t9, if_neg hd, if_true]
  · refine ⟨-1, σ, σ, ⟨?_, rfl⟩, ?_, h⟩
    · simp only [f_X8_knows, ps_rdN a1 a2 hc, vz_b1, vz_mo]
    · simp only [f_X9_knows, ps_isRd a1 a5, if_neg hc, if_true]
theorem ps_never (A : ps_T) (h c f u w : Nat) : (1000 : Int32) ≤ nI (ps_W A h c f u w) ↔ ps_W A h c f u w = 1000 := by
  have m := ps_W_max A h c f u w
  rw [show (1000 : Int32) = nI 1000 from rfl, nI_leI (by omega) (by omega)]
  omega
theorem sm_first : sim_first ps_R := by
  intro σ h x1 x2
  have h' := h
  obtain ⟨⟨A, a1, a2, a3, a4, a5, a6, a7, a8⟩, -, -, -, hX⟩ := h'
  by_cases hc : 0 ≤ x1.toInt ∧ x1.toInt < A 0 1
  · obtain ⟨r, hr, rfl⟩ := ps_ofM hc
    have hrY := ps_isRdY a1 a5 hr
    obtain ⟨k1, k2, k3⟩ := ps_rOk a1 hr
    by_cases hd : 0 ≤ x2.toInt ∧ x2.toInt ≤ (9 : Nat)
    · have hd' := hd
      obtain ⟨w, hw, rfl⟩ := ps_ofL hd
      obtain ⟨σ', s1, s2, s3⟩ := ps_learn a1 (ps_E0 a3 a4 a5 hX) (by omega) (by omega)
      rw [show nI 0 = (0 : Int32) from rfl] at s1
      refine ⟨ps_n (ps_W A 0 (A 4 r) (A 5 r) (A 6 r) w), σ, σ', ⟨?_, rfl⟩, ?_, ps_R_Q h (ps_Q_ln s3)⟩
      · simp only [f_X8_first, ps_rdY a1 a2 hr, vz_b1, vz_mo, ps_n8, if_pos hd', if_neg ps_10, ps_fw a1 a2 (ps_rcOf a2 hr) k1 k2 k3 (show w < 10 by omega)]
      · simp only [f_X9_first, hrY, if_neg ps_10, ps_n9, if_pos hd', s1, vz_b1, ps_wo a1 s2 hr (show w < 10 by omega)]
        unfold ps_n
        by_cases z : ps_W A 0 (A 4 r) (A 5 r) (A 6 r) w = 1000
        · rw [if_pos ((ps_never _ _ _ _ _ _).mpr z), if_pos z]
        · rw [if_neg (fun q => z ((ps_never _ _ _ _ _ _).mp q)), if_neg z]
    · refine ⟨-1, σ, σ, ⟨?_, rfl⟩, ?_, h⟩
      · simp only [f_X8_first, ps_rdY a1 a2 hr, vz_b1, vz_mo, ps_n8, if_neg hd, if_true]
      · simp only [f_X9_first, hrY, if_neg ps_10, ps_n9, if_neg hd, if_true]
  · refine ⟨-1, σ, σ, ⟨?_, rfl⟩, ?_, h⟩
    · simp only [f_X8_first, ps_rdN a1 a2 hc, vz_b1, vz_mo]
    · simp only [f_X9_first, ps_isRd a1 a5, if_neg hc, if_true]
theorem ps_all8 {A : ps_T} {σ : vz_I} {w : Nat} (hok : ps_Ok A) (hC : ps_C A σ 21) (hw : w < 10) : ∀ n i, i ≤ A 0 1 → A 0 1 - i < n → f_X8_all_13 n (nI w) (nI (ps_mask i (fun r => !decide (ps_W A 0 (A 4 r) (A 5 r) (A 6 r) w = 1000)))) (nI i) σ = some (nI (ps_mask (A 0 1) (fun r => !decide (ps_W A 0 (A 4 r) (A 5 r) (A 6 r) w = 1000)))) := by
  have o2 := hok.2.1
  intro n
  induction n with
  | zero => intro i _ h; omega
  | succ n ih =>
    intro i hi hn
    rw [f_X8_all_13_s, hC.2.2.1]
    by_cases e : A 0 1 ≤ i
    · obtain rfl : i = A 0 1 := by omega
      rw [if_pos (nI_le (Nat.le_refl _) (by omega))]
    · obtain ⟨k1, k2, k3⟩ := ps_rOk hok (show i < A 0 1 by omega)
      rw [if_neg (nI_ge (by omega) (by omega)), if_pos ((ps_in (by omega)).mpr (by omega)), nI_clamp (by omega), ps_fw hok hC (ps_rcOf hC (by omega)) k1 k2 k3 hw, vz_b1, nI_1]
      have q2 := ih (i + 1) (by omega) (by omega)
      rw [ps_mask] at q2
      by_cases z : ps_W A 0 (A 4 i) (A 5 i) (A 6 i) w = 1000
      · rw [decide_eq_true z, if_neg (by decide), Nat.or_zero] at q2
        rw [if_pos ((ps_n_4 (ps_W_max _ _ _ _ _ _)).mpr z)]
        exact q2
      · rw [decide_eq_false z, if_pos (by decide)] at q2
        rw [if_neg (fun y => z ((ps_n_4 (ps_W_max _ _ _ _ _ _)).mp y)), ps_shl1 _ (by omega), ps_or]
        exact q2
theorem ps_all9 {A : ps_T} {σ : vz_I} {w : Nat} (hok : ps_Ok A) (hN : ps_N A σ 0 60) (h2 : σ 108 2 = nI (A 0 1)) (hw : w < 10) : ∀ n i, i ≤ A 0 1 → A 0 1 - i < n → f_X9_all_18 n (nI w) (nI (ps_mask i (fun r => !decide (ps_W A 0 (A 4 r) (A 5 r) (A 6 r) w = 1000)))) (nI i) σ = some (nI (ps_mask (A 0 1) (fun r => !decide (ps_W A 0 (A 4 r) (A 5 r) (A 6 r) w = 1000))), σ) := by
  have o2 := hok.2.1
  intro n
  induction n with
  | zero => intro i _ h; omega
  | succ n ih =>
    intro i hi hn
    rw [f_X9_all_18_s, h2]
    by_cases e : A 0 1 ≤ i
    · obtain rfl : i = A 0 1 := by omega
      rw [if_pos (nI_le (Nat.le_refl _) (by omega))]
    · rw [if_neg (nI_ge (by omega) (by omega)), ps_wo hok hN (by omega) hw, vz_b1, nI_1]
      have q2 := ih (i + 1) (by omega) (by omega)
      rw [ps_mask] at q2
      by_cases z : ps_W A 0 (A 4 i) (A 5 i) (A 6 i) w = 1000
      · rw [decide_eq_true z, if_neg (by decide)] at q2
        rw [if_pos ((ps_never _ _ _ _ _ _).mpr z), show (0 : Int32) = nI 0 from rfl, ps_or]
        exact q2
      · rw [decide_eq_false z, if_pos (by decide)] at q2
        rw [if_neg (fun y => z ((ps_never _ _ _ _ _ _).mp y)), ps_shl1 _ (by omega), ps_or]
        exact q2
theorem sm_all : sim_all ps_R := by
  intro σ h x1
  have h' := h
  obtain ⟨⟨A, a1, a2, a3, a4, a5, a6, a7, a8⟩, -, -, -, hX⟩ := h'
  have o2 := a1.2.1
  by_cases hd : 0 ≤ x1.toInt ∧ x1.toInt ≤ (9 : Nat)
  · have hd' := hd
    obtain ⟨w, hw, rfl⟩ := ps_ofL hd
    obtain ⟨σ', s1, s2, s3⟩ := ps_learn a1 (ps_E0 a3 a4 a5 hX) (by omega) (by omega)
    rw [show nI 0 = (0 : Int32) from rfl] at s1
    have e8 := ps_all8 a1 a2 (show w < 10 by omega) vz_fu 0 (by omega) (by have : vz_fu = 1000000 := rfl; omega)
    have e9 := ps_all9 a1 s2 (by rw [s3 _ (by omega) (by omega)]; exact a5) (show w < 10 by omega) vz_fu 0 (by omega) (by have : vz_fu = 1000000 := rfl; omega)
    rw [ps_mask, show nI 0 = (0 : Int32) from rfl] at e8 e9
    refine ⟨nI (ps_mask (A 0 1) (fun r => !decide (ps_W A 0 (A 4 r) (A 5 r) (A 6 r) w = 1000))), σ, σ', ⟨?_, rfl⟩, ?_, ps_R_Q h (ps_Q_ln s3)⟩
    rotate_left
    · simp only [f_X9_all, ps_n9, if_pos hd', if_neg ps_10, s1, vz_b1]
      exact e9
    · simp only [f_X8_all, ps_n8, if_pos hd', if_neg ps_10]
      exact e8
  · refine ⟨-1, σ, σ, ⟨?_, rfl⟩, ?_, h⟩
    · simp only [f_X8_all, ps_n8, if_neg hd, if_true]
    · simp only [f_X9_all, ps_n9, if_neg hd, if_true]
theorem ps_cw8 {A : ps_T} {σ : vz_I} (hok : ps_Ok A) (hC : ps_C A σ 21) : ∀ n i, i ≤ A 0 0 → A 0 0 - i < n → f_X7_cornersOfAllWalks_4 n 21 (nI (ps_sum i (A 3))) (nI i) σ = some (nI (ps_sum (A 0 0) (A 3))) := by
  have o1 := hok.1
  intro n
  induction n with
  | zero => intro i _ h; omega
  | succ n ih =>
    intro i hi hn
    rw [f_X7_cornersOfAllWalks_4_s, hC.1]
    by_cases e : A 0 0 ≤ i
    · obtain rfl : i = A 0 0 := by omega
      rw [if_pos (nI_le (Nat.le_refl _) (by omega))]
    · rw [if_neg (nI_ge (by omega) (by omega)), if_pos ((ps_in (by omega)).mpr (by omega)), nI_clamp (by omega), (hC.2.2.2.2.2.1 i (by omega)).2.2.1, nI_1, nI_add]
      exact ih (i + 1) (by omega) (by omega)
theorem ps_stay {A : ps_T} {r : Nat} (hok : ps_Ok A) (hr : r < A 0 1) : (nI (A 6 r) - nI (A 5 r)) + (1 : Int32) = nI (A 6 r - A 5 r + 1) := by
  obtain ⟨q1, q2, q3⟩ := hok.2.2.2.2.2.2.1 r hr
  obtain ⟨d, hd⟩ : ∃ d, A 6 r = A 5 r + d := ⟨A 6 r - A 5 r, by omega⟩
  rw [hd, ← nI_add, show nI (A 5 r) + nI d - nI (A 5 r) = nI d by
    rw [Int32.add_comm, Int32.add_sub_cancel], nI_1, show A 5 r + d - A 5 r = d by omega]
theorem ps_mr8 {A : ps_T} {σ : vz_I} (hok : ps_Ok A) (hC : ps_C A σ 21) : ∀ n i, i ≤ A 0 1 → A 0 1 - i < n → f_X7_minutesOfAllReaders_4 n 21 (nI (ps_sum i (fun r => A 6 r - A 5 r + 1))) (nI i) σ = some (nI (ps_sum (A 0 1) (fun r => A 6 r - A 5 r + 1))) := by
  have o1 := hok.2.1
  intro n
  induction n with
  | zero => intro i _ h; omega
  | succ n ih =>
    intro i hi hn
    rw [f_X7_minutesOfAllReaders_4_s, hC.2.2.1]
    by_cases e : A 0 1 ≤ i
    · obtain rfl : i = A 0 1 := by omega
      rw [if_pos (nI_le (Nat.le_refl _) (by omega))]
    · obtain ⟨g1, g2, g3⟩ := hC.2.2.2.2.2.2.1 i (by omega)
      have hin : vz_in (nI i) 4 := (ps_in (by omega)).mpr (by omega)
      rw [if_neg (nI_ge (by omega) (by omega)), if_pos hin, if_pos hin, nI_clamp (by omega), g2, g3, ps_stay hok (by omega), vz_let, nI_1, nI_add]
      exact ih (i + 1) (by omega) (by omega)
def ps_cend (x1 : Int32) (s1 s2 : Int32) (σ : vz_I) : Option Int32 := f_X9_count_38 1 x1 s1 s2 (σ 108 2) σ
theorem ps_c38 {A : ps_T} {σ : vz_I} {x1 s1 : Int32} (hok : ps_Ok A) (hM : ps_M A (σ 109) 0) (h2 : σ 108 2 = nI (A 0 1)) : ∀ n i, i ≤ A 0 1 → A 0 1 - i < n → f_X9_count_38 n x1 s1 (nI (ps_sum i (fun r => A 6 r - A 5 r + 1))) (nI i) σ = ps_cend x1 s1 (nI (ps_sum (A 0 1) (fun r => A 6 r - A 5 r + 1))) σ := by
  have o1 := hok.2.1
  intro n
  induction n with
  | zero => intro i _ h; omega
  | succ n ih =>
    intro i hi hn
    by_cases e : A 0 1 ≤ i
    · obtain rfl : i = A 0 1 := by omega
      unfold ps_cend
      rw [f_X9_count_38_s, show 1 = 0 + 1 by rfl, f_X9_count_38_s, h2, if_pos (nI_le (Nat.le_refl _) (by omega)), if_pos (nI_le (Nat.le_refl _) (by omega))]
    · obtain ⟨g1, g2, g3⟩ := hM.2.2.2.2.1 i (by omega)
      rw [show 0 + 32 + i = 32 + i by omega] at g2
      rw [show 0 + 36 + i = 36 + i by omega] at g3
      rw [f_X9_count_38_s, h2, if_neg (nI_ge (by omega) (by omega)), show (36 : Int32) + nI i = nI (36 + i) from nI_add 36 i, show (32 : Int32) + nI i = nI (32 + i) from nI_add 32 i, if_pos ((ps_in (by omega)).mpr (by omega)), if_pos ((ps_in (by omega)).mpr (by omega)), nI_clamp (by omega), nI_clamp (by omega), g2, g3, ps_stay hok (by omega), vz_let, nI_1, nI_add]
      exact ih (i + 1) (by omega) (by omega)
theorem ps_c7 {A : ps_T} {σ : vz_I} {x1 : Int32} (hok : ps_Ok A) (hM : ps_M A (σ 109) 0) (h1 : σ 108 1 = nI (A 0 0)) (h2 : σ 108 2 = nI (A 0 1)) : ∀ n i, i ≤ A 0 0 → A 0 0 - i < n → f_X9_count_7 n x1 (nI (ps_sum i (A 3))) 0 (nI i) σ = ps_cend x1 (nI (ps_sum (A 0 0) (A 3))) (nI (ps_sum (A 0 1) (fun r => A 6 r - A 5 r + 1))) σ := by
  have o1 := hok.1
  have o2 := hok.2.1
  intro n
  induction n with
  | zero => intro i _ h; omega
  | succ n ih =>
    intro i hi hn
    rw [f_X9_count_7_s, h1]
    by_cases e : A 0 0 ≤ i
    · obtain rfl : i = A 0 0 := by omega
      rw [if_pos (nI_le (Nat.le_refl _) (by omega))]
      exact ps_c38 hok hM h2 vz_fu 0 (by omega) (by have : vz_fu = 1000000 := rfl; omega)
    · have g := (hM.2.2.2.1 i (by omega)).2.2.1
      rw [show 0 + 8 + i = 8 + i by omega] at g
      rw [if_neg (nI_ge (by omega) (by omega)), show (8 : Int32) + nI i = nI (8 + i) from nI_add 8 i, if_pos ((ps_in (by omega)).mpr (by omega)), nI_clamp (by omega), g, nI_1, nI_add]
      exact ih (i + 1) (by omega) (by omega)
theorem sm_count : sim_count ps_R := by
  intro σ h x1
  have h' := h
  obtain ⟨⟨A, a1, a2, a3, a4, a5, ⟨n, hn, s1, s2, s3⟩, a7, a8⟩, ⟨l, hl, t1, t2, t3⟩, hF, hS, hX⟩ := h'
  have o1 := a1.1
  have o2 := a1.2.1
  have e9 : f_X9_count x1 σ = ps_cend x1 (nI (ps_sum (A 0 0) (A 3))) (nI (ps_sum (A 0 1) (fun r => A 6 r - A 5 r + 1))) σ := ps_c7 a1 a3 a4 a5 vz_fu 0 (by omega) (by have : vz_fu = 1000000 := rfl; omega)
  have cw : f_X7_cornersOfAllWalks 21 σ = some (nI (ps_sum (A 0 0) (A 3))) := ps_cw8 a1 a2 vz_fu 0 (by omega) (by have : vz_fu = 1000000 := rfl; omega)
  have mr : f_X7_minutesOfAllReaders 21 σ = some (nI (ps_sum (A 0 1) (fun r => A 6 r - A 5 r + 1))) := ps_mr8 a1 a2 vz_fu 0 (by omega) (by have : vz_fu = 1000000 := rfl; omega)
  unfold ps_cend at e9
  rw [show 1 = 0 + 1 by rfl, f_X9_count_38_s, if_pos (by rw [a5]; exact nI_le (Nat.le_refl _) (by omega))] at e9
  by_cases e0 : x1 = 0
  · refine ⟨nI n, σ, σ, ⟨?_, rfl⟩, ⟨?_, rfl⟩, h⟩
    · simp only [f_X8_count, if_pos e0, s1]
    · rw [e9, if_pos e0, s2]
  by_cases e1 : x1 = 1
  · have i0 : vz_in (0 : Int32) 2 := by decide
    have i1 : vz_in (1 : Int32) 2 := by decide
    have hk0 : ∃ k : Int32, σ 56 (0 : Int32).toNatClampNeg = k ∧ σ 119 (0 : Int32).toNatClampNeg = k := by
      rcases a7 with ⟨q1, q2⟩ | ⟨q1, q2, _⟩
      · exact ⟨0, q1, q2⟩
      · exact ⟨1, q1, q2⟩
    have hk1 : ∃ k : Int32, σ 56 (1 : Int32).toNatClampNeg = k ∧ σ 119 (1 : Int32).toNatClampNeg = k := by
      rcases a8 with ⟨q1, q2⟩ | ⟨q1, q2, _⟩
      · exact ⟨0, q1, q2⟩
      · exact ⟨1, q1, q2⟩
    obtain ⟨k0, p1, p2⟩ := hk0
    obtain ⟨k1, p3, p4⟩ := hk1
    refine ⟨(if k0 = 0 then (0 : Int32) else 1) + (if k1 = 0 then (0 : Int32) else 1), σ, σ, ⟨?_, rfl⟩, ⟨?_, rfl⟩, h⟩
    · simp only [f_X8_count, if_neg e0, if_pos e1, if_pos i0, f_X8_count_62, if_pos i1, p1, p3]
      split <;> split <;> rfl
    · rw [e9, if_neg e0, if_pos e1, if_pos i0]
      simp only [f_X9_count_139, if_pos i1, p2, p4]
      split <;> split <;> rfl
  by_cases e2 : x1 = 2
  · refine ⟨nI l, σ, σ, ⟨?_, rfl⟩, ⟨?_, rfl⟩, h⟩
    · simp only [f_X8_count, if_neg e0, if_neg e1, if_pos e2, t1]
    · rw [e9, if_neg e0, if_neg e1, if_pos e2, t2]
  by_cases e3 : x1 = 3
  · obtain ⟨q1, ⟨c, c1, c2, c3⟩, q3⟩ := hS 0 (by omega)
    have i0 : vz_in (0 : Int32) 4 := by decide
    have z8 : ∃ k : Int32, σ (100 + 2 * (0 : Int32).toNatClampNeg) 0 = k ∧ σ 120 (0 : Int32).toNatClampNeg = k := by
      rcases q1 with ⟨u1, u2⟩ | ⟨l', _, u1, u2⟩
      · exact ⟨_, u1, u2⟩
      · exact ⟨_, u1, u2⟩
    obtain ⟨k, z1, z2⟩ := z8
    have c2' : σ (100 + 2 * (0 : Int32).toNatClampNeg) 1 = nI c := c2
    have c3' : σ 121 (0 : Int32).toNatClampNeg = nI c := c3
    refine ⟨if k = (-4 : Int32) then -4 else nI c, σ, σ, ⟨?_, rfl⟩, ⟨?_, rfl⟩, h⟩
    · simp only [f_X8_count, if_neg e0, if_neg e1, if_neg e2, if_pos e3, if_pos i0, z1, c2']
      split <;> rfl
    · rw [e9, if_neg e0, if_neg e1, if_neg e2, if_pos e3, if_pos i0, z2, if_pos i0, c3']
      split <;> rfl
  by_cases e4 : x1 = 4
  · refine ⟨nI (ps_sum (A 0 0) (A 3)), σ, σ, ⟨?_, rfl⟩, ⟨?_, rfl⟩, h⟩
    rotate_left
    · rw [e9, if_neg e0, if_neg e1, if_neg e2, if_neg e3, if_pos e4]
    · simp only [f_X8_count, if_neg e0, if_neg e1, if_neg e2, if_neg e3, if_pos e4, cw, vz_b1]
  by_cases e5 : x1 = 5
  · refine ⟨nI (ps_sum (A 0 1) (fun r => A 6 r - A 5 r + 1)), σ, σ, ⟨?_, rfl⟩, ⟨?_, rfl⟩, h⟩
    rotate_left
    · rw [e9, if_neg e0, if_neg e1, if_neg e2, if_neg e3, if_neg e4, if_pos e5]
    · simp only [f_X8_count, if_neg e0, if_neg e1, if_neg e2, if_neg e3, if_neg e4, if_pos e5, mr, vz_b1]
  · refine ⟨-1, σ, σ, ⟨?_, rfl⟩, ⟨?_, rfl⟩, h⟩
    · simp only [f_X8_count, if_neg e0, if_neg e1, if_neg e2, if_neg e3, if_neg e4, if_neg e5]
    · rw [e9, if_neg e0, if_neg e1, if_neg e2, if_neg e3, if_neg e4, if_neg e5]
