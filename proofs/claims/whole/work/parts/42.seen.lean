/-! pure: kinds, news -/
def ps_sn (A : ps_T) (σ : vz_I) (S : Nat → Nat → Nat) (n : Nat) : Prop := n ≤ 6 ∧ σ 57 0 = nI n ∧ σ 108 24 = nI n ∧ ∀ i, i < n → (S 0 i < A 0 1 ∧ S 1 i < 10 ∧ S 2 i < 60 ∧ S 3 i < 2) ∧ (σ 58 i = nI (S 0 i) ∧ σ 59 i = nI (S 1 i) ∧ σ 60 i = nI (S 2 i) ∧ σ 61 i = nI (S 3 i)) ∧ (σ 117 (4 * i) = nI (S 0 i) ∧ σ 117 (4 * i + 1) = nI (S 1 i) ∧ σ 117 (4 * i + 2) = nI (S 2 i) ∧ σ 117 (4 * i + 3) = nI (S 3 i))
theorem ps_snO {A : ps_T} {σ : vz_I} (hA : ps_Ok A) (h : ps_seen A σ) : ∃ S n, ps_sn A σ S n := by
  obtain ⟨n, h1, h2, h3, h4⟩ := h
  have o2 := hA.2.1
  refine ⟨fun a i => if a = 0 then (σ 58 i).toNatClampNeg else if a = 1 then (σ 59 i).toNatClampNeg else if a = 2 then (σ 60 i).toNatClampNeg else (σ 61 i).toNatClampNeg, n, h1, h2, h3, fun i hi => ?_⟩
  obtain ⟨r, w, t, k, q1, q2, q3, q4, p1, p2, p3, p4, p5, p6, p7, p8⟩ := h4 i hi
  show ((σ 58 i).toNatClampNeg < A 0 1 ∧ (σ 59 i).toNatClampNeg < 10 ∧ (σ 60 i).toNatClampNeg < 60 ∧ (σ 61 i).toNatClampNeg < 2) ∧ (σ 58 i = nI (σ 58 i).toNatClampNeg ∧ σ 59 i = nI (σ 59 i).toNatClampNeg ∧ σ 60 i = nI (σ 60 i).toNatClampNeg ∧ σ 61 i = nI (σ 61 i).toNatClampNeg) ∧ (σ 117 (4 * i) = nI (σ 58 i).toNatClampNeg ∧ σ 117 (4 * i + 1) = nI (σ 59 i).toNatClampNeg ∧ σ 117 (4 * i + 2) = nI (σ 60 i).toNatClampNeg ∧ σ 117 (4 * i + 3) = nI (σ 61 i).toNatClampNeg)
  rw [p1, p2, p3, p4, p5, p6, p7, p8, nI_clamp (by omega), nI_clamp (by omega), nI_clamp (by omega), nI_clamp (by omega)]
  exact ⟨⟨q1, q2, q3, q4⟩, ⟨rfl, rfl, rfl, rfl⟩, rfl, rfl, rfl, rfl⟩
theorem ps_sn_Q {A : ps_T} {σ σ' : vz_I} {S : Nat → Nat → Nat} {n : Nat} (h : ps_sn A σ S n) (q : ps_Q σ σ') : ps_sn A σ' S n := by
  obtain ⟨h1, h2, h3, h4⟩ := h
  refine ⟨h1, by rw [q.1 57 (by omega)]; exact h2, by rw [q.2.2 24 (by omega)]; exact h3, fun i hi => ?_⟩
  rw [q.1 58 (by omega), q.1 59 (by omega), q.1 60 (by omega), q.1 61 (by omega), q.1 117 (by omega)]
  exact h4 i hi
def ps_agc (B : ps_T) (S : Nat → Nat → Nat) (i : Nat) : Bool := decide (decide (ps_W B 0 (B 4 (S 0 i)) (B 5 (S 0 i)) (B 6 (S 0 i)) (S 1 i) ≤ S 2 i) = decide (S 3 i = 1))
def ps_ag (B : ps_T) (S : Nat → Nat → Nat) (n : Nat) : Bool := !ps_any n (fun i => !ps_agc B S i)
theorem ps_aw_l {A B : ps_T} {σ : vz_I} {S : Nat → Nat → Nat} {N : Nat} (hB : ps_Ok B) (b1 : B 0 1 = A 0 1) (hC : ps_C B σ 38) (hS : ps_sn A σ S N) : ∀ n i, i ≤ N → N - i < n → ps_any i (fun i => !ps_agc B S i) = false → f_X1_agreesWith_2 n 38 (nI i) σ = some (if ps_ag B S N = true then 1 else 0) := by
  obtain ⟨h1, h2, h3, h4⟩ := hS
  have o2 := hB.2.1
  intro n
  induction n with
  | zero => intro i _ h; omega
  | succ n ih =>
    intro i hi hn hF
    rw [f_X1_agreesWith_2_s, h2]
    by_cases e : N ≤ i
    · obtain rfl : i = N := by omega
      rw [if_pos (nI_le (Nat.le_refl _) (by omega))]
      unfold ps_ag
      rw [hF, Bool.not_false, if_pos rfl]
    · obtain ⟨⟨s0, s1, s2, s3⟩, ⟨p0, p1, p2, p3⟩, -⟩ := h4 i (by omega)
      have hr : S 0 i < B 0 1 := by omega
      obtain ⟨k1, k2, k3⟩ := ps_rOk hB hr
      have hin : vz_in (nI i) 6 := (ps_in (by omega)).mpr (by omega)
      have q := ps_wn (T := 38) (h := 0) (o := 15) (l := S 2 i) hB hC (ps_rcOf hC hr) k1 k2 k3 (by omega) (ps_h0 hB.1) s2 rfl
      rw [show nI 15 = (15 : Int32) from rfl] at q
      have hml := ps_mask_lt (fun w => decide (ps_W B 0 (B 4 (S 0 i)) (B 5 (S 0 i)) (B 6 (S 0 i)) w ≤ S 2 i)) 10
      rw [if_neg (nI_ge (by omega) (by omega)), if_pos hin, nI_clamp (by omega), p0, ps_rdY hB hC hr, vz_b1, vz_mo, if_pos hin, p2, q, vz_b1, if_pos hin, p1]
      have yes : ps_agc B S i = true → f_X1_agreesWith_2 n 38 (nI i + (1 : Int32)) σ = some (if ps_ag B S N = true then 1 else 0) := fun z => by
        rw [nI_1]
        exact ih (i + 1) (by omega) (by omega) (ps_any_up hF (by rw [z]; rfl))
      have no : ps_agc B S i = false → some (0 : Int32) = some (if ps_ag B S N = true then 1 else 0) := fun z => by
        unfold ps_ag
        rw [ps_anyT (show i < N by omega) (by rw [z]; rfl), Bool.not_true, if_neg (by decide)]
      by_cases z : ps_W B 0 (B 4 (S 0 i)) (B 5 (S 0 i)) (B 6 (S 0 i)) (S 1 i) ≤ S 2 i
      · rw [if_pos ((ps_bit (by omega) (by omega)).mpr (by rw [ps_mask_t]; simp [s1, z]))]
        unfold f_X1_agreesWith_66
        rw [if_pos hin, nI_clamp (by omega), p3]
        by_cases y : S 3 i = 1
        · rw [if_pos (show (1 : Int32) = nI (S 3 i) by rw [y]; rfl)]
          exact yes (by unfold ps_agc; simp [z, y])
        · rw [if_neg (show ¬ (1 : Int32) = nI (S 3 i) from fun w => y ((nI_eq (a := 1) (by omega) (by omega)).mp w).symm)]
          exact no (by unfold ps_agc; simp [z, y])
      · rw [if_neg (fun w => by
          have := (ps_bit (by omega) (by omega)).mp w
          rw [ps_mask_t] at this
          simp [s1, z] at this)]
        unfold f_X1_agreesWith_66
        rw [if_pos hin, nI_clamp (by omega), p3]
        by_cases y : S 3 i = 1
        · rw [if_neg (show ¬ (0 : Int32) = nI (S 3 i) by rw [y]; decide)]
          exact no (by unfold ps_agc; simp [z, y])
        · rw [if_pos (show (0 : Int32) = nI (S 3 i) by rw [show S 3 i = 0 by omega]; rfl)]
          exact yes (by unfold ps_agc; simp [z, y])
theorem ps_aw {A B : ps_T} {σ : vz_I} {S : Nat → Nat → Nat} {N : Nat} (hB : ps_Ok B) (b1 : B 0 1 = A 0 1) (hC : ps_C B σ 38) (hS : ps_sn A σ S N) : f_X1_agreesWith 38 σ = some (if ps_ag B S N = true then 1 else 0) := by
  have := hS.1
  exact ps_aw_l hB b1 hC hS vz_fu 0 (by omega) (by have : vz_fu = 1000000 := rfl; omega) rfl
theorem ps_as_l {A B : ps_T} {σ : vz_I} {S : Nat → Nat → Nat} {N : Nat} (hB : ps_Ok B) (b1 : B 0 1 = A 0 1) (hN : ps_N B σ 0 60) (h2 : σ 108 2 = nI (B 0 1)) (hS : ps_sn A σ S N) : ∀ n i, i ≤ N → N - i < n → f_X9_isAsSeen_9 n (if (!ps_any i (fun i => !ps_agc B S i)) = true then 1 else 0) (nI i) σ = some (if ps_ag B S N = true then 1 else 0, σ) := by
  obtain ⟨h1, _, h3, h4⟩ := hS
  have o2 := hB.2.1
  intro n
  induction n with
  | zero => intro i _ h; omega
  | succ n ih =>
    intro i hi hn
    have h01 : ∀ c : Bool, ((if c = true then (1 : Int32) else 0) = 0 ∨ (if c = true then (1 : Int32) else 0) = 1) := fun c => by cases c <;> decide
    rw [f_X9_isAsSeen_9_s, h3]
    by_cases e : N ≤ i
    · obtain rfl : i = N := by omega
      rw [if_pos (nI_le (Nat.le_refl _) (by omega)), if_pos (h01 _)]
      rfl
    · obtain ⟨⟨s0, s1, s2, s3⟩, -, ⟨p0, p1, p2, p3⟩⟩ := h4 i (by omega)
      have hr : S 0 i < B 0 1 := by omega
      have q2 := ih (i + 1) (by omega) (by omega)
      rw [ps_any] at q2
      rw [if_neg (nI_ge (by omega) (by omega)), nI_1]
      by_cases z0 : ps_any i (fun i => !ps_agc B S i) = true
      · rw [z0, Bool.true_or, Bool.not_true, if_neg (by decide)] at q2
        rw [z0, Bool.not_true, if_pos (show (if false = true then (1 : Int32) else 0) = 0 by decide)]
        exact q2
      · have z0' : ps_any i (fun i => !ps_agc B S i) = false := by simpa using z0
        rw [z0', Bool.false_or] at q2
        have hi4 : ∀ j, j < 24 → vz_in (nI j) 24 := fun j hj => (ps_in (by omega)).mpr hj
        rw [z0', Bool.not_false, if_pos rfl, if_neg ps_10, show (4 : Int32) * nI i = nI (4 * i) from pk_mul 4 i, if_pos (hi4 (4 * i) (by omega)), nI_clamp (by omega), p0, ps_isRdY hB h2 hr, if_neg ps_10, if_pos (hi4 (4 * i) (by omega)), show nI (4 * i) + (1 : Int32) = nI (4 * i + 1) from nI_add _ 1, if_pos (hi4 (4 * i + 1) (by omega)), nI_clamp (by omega), p1, ps_wo hB hN hr s1, vz_b1, show nI (4 * i) + (2 : Int32) = nI (4 * i + 2) from nI_add _ 2, if_pos (hi4 (4 * i + 2) (by omega)), nI_clamp (by omega), p2]
        have mW := ps_W_max B 0 (B 4 (S 0 i)) (B 5 (S 0 i)) (B 6 (S 0 i)) (S 1 i)
        unfold f_X9_isAsSeen_76
        rw [show (4 : Int32) * nI i = nI (4 * i) from pk_mul 4 i, show nI (4 * i) + (3 : Int32) = nI (4 * i + 3) from nI_add _ 3, nI_clamp (by omega), p3, nI_1]
        by_cases z : ps_W B 0 (B 4 (S 0 i)) (B 5 (S 0 i)) (B 6 (S 0 i)) (S 1 i) ≤ S 2 i
        · rw [if_neg (nI_nlt z (by omega)), if_pos (hi4 (4 * i + 3) (by omega))]
          by_cases y : S 3 i = 1
          · rw [show ps_agc B S i = true by unfold ps_agc; simp [z, y], Bool.not_true, Bool.not_false, if_pos rfl] at q2
            rw [if_pos (show (1 : Int32) = nI (S 3 i) by rw [y]; rfl)]
            exact q2
          · rw [show ps_agc B S i = false by unfold ps_agc; simp [z, y], Bool.not_false, Bool.not_true, if_neg (by decide)] at q2
            rw [if_neg (show ¬ (1 : Int32) = nI (S 3 i) from fun w => y ((nI_eq (a := 1) (by omega) (by omega)).mp w).symm)]
            exact q2
        · rw [if_pos (nI_lt (by omega) (by omega)), if_pos (hi4 (4 * i + 3) (by omega))]
          by_cases y : S 3 i = 1
          · rw [show ps_agc B S i = false by unfold ps_agc; simp [z, y], Bool.not_false, Bool.not_true, if_neg (by decide)] at q2
            rw [if_neg (show ¬ (0 : Int32) = nI (S 3 i) by rw [y]; decide)]
            exact q2
          · rw [show ps_agc B S i = true by unfold ps_agc; simp [z, y], Bool.not_true, Bool.not_false, if_pos rfl] at q2
            rw [if_pos (show (0 : Int32) = nI (S 3 i) by rw [show S 3 i = 0 by omega]; rfl)]
            exact q2
/-- one slot of page 244 written, then held against what was seen -/
theorem ps_trya {A B : ps_T} {σ : vz_I} {S : Nat → Nat → Nat} {N q0 : Nat} {v : Int32} (hB : ps_Ok B) (hE : ps_E A σ 0 0) (hPX : ps_PX σ (fun k => k = q0)) (hq0 : q0 < 61) (hg : ps_M B (upd (σ 109) q0 v) 0) (b0 : B 0 0 = A 0 0) (b1 : B 0 1 = A 0 1) (hS : ps_sn A σ S N) : ∃ υ, f_X9_isAsSeen (244 : Int32) (vz_up σ 109 (244 + q0) v) = some (if ps_ag B S N = true then 1 else 0, υ) ∧ ps_N B υ 0 60 ∧ ps_Q σ υ ∧ ps_PX υ (fun k => k = q0) ∧ υ 108 = σ 108 ∧ ∀ b, b ≠ 109 → b ≠ 114 → b ≠ 115 → υ b = σ b := by
  obtain ⟨υ, e1, e2, e3, e4, e5, e6⟩ := ps_try hB hE hPX hq0 hg b0 b1
  refine ⟨υ, ?_, e2, e3, e4, e5, e6⟩
  have h6 := hS.1
  unfold f_X9_isAsSeen
  rw [e1, vz_b1]
  exact ps_as_l hB b1 e2 (by rw [e5, b1]; exact hE.2.2.1) (ps_sn_Q hS e3) vz_fu 0 (by omega) (by have : vz_fu = 1000000 := rfl; omega)
def ps_kp (A : ps_T) (S : Nat → Nat → Nat) (N m : Nat) (i : Nat) : Bool := ps_ag (ps_set A (0 + 1) m i) S N
theorem ps_kds8 {A : ps_T} {S : Nat → Nat → Nat} {N m : Nat} (hok : ps_Ok A) (hm : m < A 0 0) : ∀ (n i k : Nat) (σ : vz_I), ps_C (ps_set A (0 + 1) m k) σ 38 → ps_sn A σ S N → i ≤ 4 → 4 - i < n → ∃ σ', f_X8_possibleKinds_25_2 n (38 + 5 + 2 * m) (nI (ps_mask i (ps_kp A S N m))) (nI i) σ = some (nI (ps_mask 4 (ps_kp A S N m)), σ') ∧ ∀ b, (b < 38 ∨ 54 < b) → σ' b = σ b := by
  have o1 := hok.1
  intro n
  induction n with
  | zero => intro i k σ _ _ _ h; omega
  | succ n ih =>
    intro i k σ hC hS hi hn
    rw [f_X8_possibleKinds_25_2_s]
    by_cases e : i = 4
    · subst e
      rw [if_pos (by decide)]
      exact ⟨σ, rfl, fun _ _ => rfl⟩
    · have hB : ps_Ok (ps_set A (0 + 1) m i) := ps_Ok_man hok (by omega) (by omega)
      have hC' := ps_C_man (v := i) (s := 0) (m := m) (by rw [ps_setN _ _ (by omega)]; exact hm) (by rw [ps_setN _ _ (by omega)]; exact o1) (by omega) hC
      rw [ps_set_set] at hC'
      have f8 : ∀ b, (b < 38 ∨ 54 < b) → (vz_up σ (38 + 5 + 2 * m) 0 (nI i)) b = σ b := fun b hb => vz_up_ne _ _ _ (by omega)
      have hS' : ps_sn A (vz_up σ (38 + 5 + 2 * m) 0 (nI i)) S N := ps_sn_Q hS (ps_Q_8 (fun b hb => f8 b (by omega)))
      obtain ⟨σ', e1, e2⟩ := ih (i + 1) i (vz_up σ (38 + 5 + 2 * m) 0 (nI i)) hC' hS' (by omega) (by omega)
      rw [if_neg (show ¬ (4 : Int32) ≤ nI i from nI_ge (b := 4) (by omega) (by omega)), ps_aw hB (ps_setN _ _ (by omega)) hC' hS', vz_b1, nI_1]
      rw [ps_mask] at e1
      by_cases z : ps_kp A S N m i = true
      · rw [if_pos z] at e1
        rw [if_pos (show ps_ag (ps_set A (0 + 1) m i) S N = true from z), if_neg ps_10, ps_shl1 _ (by omega), ps_or]
        exact ⟨σ', e1, fun b hb => by rw [e2 b hb, f8 b hb]⟩
      · rw [if_neg z, Nat.or_zero] at e1
        rw [if_neg (show ¬ ps_ag (ps_set A (0 + 1) m i) S N = true from z), if_pos rfl]
        exact ⟨σ', e1, fun b hb => by rw [e2 b hb, f8 b hb]⟩
/-- the class: of which kinds a man may be -/
theorem ps_pk8 {A : ps_T} {σ : vz_I} {S : Nat → Nat → Nat} {N m : Nat} (hok : ps_Ok A) (hC : ps_C A σ 21) (hm : m < A 0 0) (hS : ps_sn A σ S N) : ∃ σ', f_X8_possibleKinds (nI m) σ = some (nI (ps_mask 4 (ps_kp A S N m)), σ') ∧ ∀ b, (b < 38 ∨ 54 < b) → σ' b = σ b := by
  obtain ⟨σ3, c1, c2, c3⟩ := ps_copy (T := 38) hok hC (by omega)
  have hC0 : ps_C (ps_set A (0 + 1) m (A 1 m)) σ3 38 := by
    rw [ps_set_self]
    exact c2
  obtain ⟨σ', e1, e2⟩ := ps_kds8 hok hm vz_fu 0 (A 1 m) σ3 hC0 (ps_sn_Q hS (ps_Q_8 (fun b hb => c3 b (by omega)))) (by omega) (by have : vz_fu = 1000000 := rfl; omega)
  refine ⟨σ', ?_, fun b hb => by rw [e2 b hb, c3 b (by omega)]⟩
  unfold f_X8_possibleKinds
  rw [c1, vz_b1, ps_manY hok c2 hm, vz_b1, vz_mo]
  exact e1
theorem ps_k51 {A B : ps_T} {m c : Nat} {x2 : Int32} {k12 : Int32 → Int32 → Int32 → vz_I → Option (Int32 × vz_I)} (hok : ps_Ok A) (hB : ps_Ok B) (b1 : B 0 1 = A 0 1) (hm : m < A 0 0) (hc : c < 4) : ∀ (n r : Nat) (σ : vz_I), ps_N B σ 0 60 → σ 108 2 = nI (A 0 1) → σ 109 (4 + m) = nI (A 2 m) → r ≤ A 0 1 → A 0 1 - r < n → (∀ r', r' < r → σ 118 (4 * c + r') = nI (ps_W B 0 (B 4 r') (B 5 r') (B 6 r') (A 2 m))) → ∃ σ', f_X9_kindsOf_51 k12 n (nI m) x2 (nI c) (nI r) σ = k12 (nI m) x2 (nI (c + 1)) σ' ∧ (∀ b, b ≠ 118 → σ' b = σ b) ∧ (∀ j, j < 4 * c → σ' 118 j = σ 118 j) ∧ (∀ r', r' < A 0 1 → σ' 118 (4 * c + r') = nI (ps_W B 0 (B 4 r') (B 5 r') (B 6 r') (A 2 m))) := by
  have o1 := hok.1
  have o2 := hok.2.1
  have k2 := (hok.2.2.2.2.2.1 m hm).2.1
  intro n
  induction n with
  | zero => intro r σ _ _ _ _ h; omega
  | succ n ih =>
    intro r σ hN h2 h4 hr hn hp
    rw [f_X9_kindsOf_51_s, h2]
    by_cases e : A 0 1 ≤ r
    · obtain rfl : r = A 0 1 := by omega
      rw [if_pos (nI_le (Nat.le_refl _) (by omega)), nI_1]
      exact ⟨σ, rfl, fun _ _ => rfl, fun _ _ => rfl, hp⟩
    · rw [if_neg (nI_ge (by omega) (by omega)), show (4 : Int32) + nI m = nI (4 + m) from nI_add 4 m, if_pos ((ps_in (by omega)).mpr (by omega)), nI_clamp (by omega), h4, ps_wo hB hN (by omega) k2, vz_b1, show (4 : Int32) * nI c = nI (4 * c) from pk_mul 4 c, nI_add, if_pos ((ps_in (by omega)).mpr (by omega)), nI_clamp (by omega), nI_1]
      obtain ⟨σ', e1, e2, e3, e4⟩ := ih (r + 1) (vz_up σ 118 (4 * c + r) (nI (ps_W B 0 (B 4 r) (B 5 r) (B 6 r) (A 2 m)))) (fun r' hr' w hw => by rw [vz_up_ne _ _ _ (by omega), vz_up_ne _ _ _ (by omega)]; exact hN r' hr' w hw) (by rw [vz_up_ne _ _ _ (by omega)]; exact h2) (by rw [vz_up_ne _ _ _ (by omega)]; exact h4) (by omega) (by omega) (fun r' hr' => by
        by_cases q : r' = r
        · subst q; rw [ps_upS]
        · rw [ps_upN _ _ (by omega)]; exact hp r' (by omega))
      exact ⟨σ', e1, fun b hb => by rw [e2 b hb, vz_up_ne _ _ _ hb], fun j hj => by rw [e3 j hj, ps_upN _ _ (by omega)], e4⟩
/-- when reader r knows the man's news whole, were he of kind c -/
def ps_wb (A : ps_T) (m c r : Nat) : Nat := ps_W (ps_set A (0 + 1) m c) 0 (A 4 r) (A 5 r) (A 6 r) (A 2 m)
theorem ps_kds9 {A : ps_T} {S : Nat → Nat → Nat} {N m : Nat} (hok : ps_Ok A) (hm : m < A 0 0) : ∀ (n i : Nat) (σ : vz_I), ps_E A σ 0 0 → ps_PX σ (fun k => k = m) → ps_sn A σ S N → i ≤ 4 → 4 - i < n → (∀ c, c < i → ∀ r, r < A 0 1 → σ 118 (4 * c + r) = nI (ps_wb A m c r)) → ∃ σ', f_X9_kindsOf_12 n (nI m) (nI (ps_mask i (ps_kp A S N m))) (nI i) σ = some (nI (ps_mask 4 (ps_kp A S N m)), σ') ∧ ps_Q σ σ' ∧ ∀ c, c < 4 → ∀ r, r < A 0 1 → σ' 118 (4 * c + r) = nI (ps_wb A m c r) := by
  have o1 := hok.1
  have o2 := hok.2.1
  intro n
  induction n with
  | zero => intro i σ _ _ _ _ h; omega
  | succ n ih =>
    intro i σ hE hX hS hi hn hp
    rw [f_X9_kindsOf_12_s]
    by_cases e : i = 4
    · subst e
      rw [if_pos (by decide)]
      exact ⟨σ, rfl, ps_Q_refl σ, hp⟩
    · have hB : ps_Ok (ps_set A (0 + 1) m i) := ps_Ok_man hok (by omega) (by omega)
      have hM := ps_M_man (v := i) (s := 0) hok hm (by omega) hE.1
      rw [show 0 + 4 * 0 + m = m by omega] at hM
      obtain ⟨υ, u1, u2, u3, u4, u5, u6⟩ := ps_trya (A := A) hB hE hX (by omega) hM (ps_setN _ _ (by omega)) (ps_setN _ _ (by omega)) hS
      have j2 := (hE.1.2.2.2.1 m hm).2.1
      rw [show 0 + 4 + m = 4 + m by omega] at j2
      have key : ∀ x : Int32, nI (ps_mask i (ps_kp A S N m)) ||| x = nI (ps_mask (i + 1) (ps_kp A S N m)) → ∃ σ', f_X9_kindsOf_46 (f_X9_kindsOf_12 n) (nI m) (nI i) x (nI (ps_mask i (ps_kp A S N m))) υ = some (nI (ps_mask 4 (ps_kp A S N m)), σ') ∧ ps_Q σ σ' ∧ ∀ c, c < 4 → ∀ r, r < A 0 1 → σ' 118 (4 * c + r) = nI (ps_wb A m c r) := by
        intro x hx
        unfold f_X9_kindsOf_46
        rw [hx]
        obtain ⟨τ, t1, t2, t3, t4⟩ := ps_k51 (k12 := f_X9_kindsOf_12 n) (x2 := nI (ps_mask (i + 1) (ps_kp A S N m))) (c := i) hok hB (ps_setN _ _ (by omega)) hm (by omega) vz_fu 0 υ u2 (by rw [u5]; exact hE.2.2.1) (by rw [u3.2.1 _ (by omega)]; exact j2) (by omega) (by have : vz_fu = 1000000 := rfl; omega) (fun r' hr' => by omega)
        rw [show nI 0 = (0 : Int32) from rfl] at t1
        rw [t1]
        have qt : ps_Q υ τ := ⟨fun b hb => t2 b (by omega), fun k _ => by rw [t2 109 (by omega)], fun j _ => by rw [t2 108 (by omega)]⟩
        have hQ := ps_Q_trans u3 qt
        obtain ⟨σ', e1, e2, e3⟩ := ih (i + 1) τ (ps_E_Q hok hE hQ) (fun k hk hq => by rw [t2 109 (by omega)]; exact u4 k hk hq) (ps_sn_Q hS hQ) (by omega) (by omega) (fun c hc r hr => by
          by_cases q : c = i
          · subst q
            have := t4 r hr
            rw [ps_setN (a := 4) _ _ (by omega), ps_setN (a := 5) _ _ (by omega), ps_setN (a := 6) _ _ (by omega)] at this
            exact this
          · rw [t3 _ (by omega), u6 118 (by omega) (by omega) (by omega)]
            exact hp c (by omega) r hr)
        exact ⟨σ', e1, ps_Q_trans hQ e2, e3⟩
      rw [if_neg (show ¬ (4 : Int32) ≤ nI i from nI_ge (b := 4) (by omega) (by omega)), show (244 : Int32) + nI m = nI (244 + m) from nI_add 244 m, if_pos ((ps_in (by omega)).mpr (by omega)), nI_clamp (by omega), u1, vz_b2]
      by_cases z : ps_kp A S N m i = true
      · rw [if_pos (show ps_ag (ps_set A (0 + 1) m i) S N = true from z), if_neg ps_10]
        exact key _ (by rw [ps_shl1 _ (by omega), ps_or, ps_mask, if_pos z])
      · rw [if_neg (show ¬ ps_ag (ps_set A (0 + 1) m i) S N = true from z), if_pos rfl]
        exact key _ (by rw [show (0 : Int32) = nI 0 from rfl, ps_or, ps_mask, if_neg z])
theorem ps_kds {A : ps_T} {σ : vz_I} {S : Nat → Nat → Nat} {N m : Nat} (hok : ps_Ok A) (hE : ps_E A σ 0 0) (hm : m < A 0 0) (hS : ps_sn A σ S N) : ∃ σ', f_X9_kindsOf (nI m) σ = some (nI (ps_mask 4 (ps_kp A S N m)), σ') ∧ ps_Q σ σ' ∧ ∀ c, c < 4 → ∀ r, r < A 0 1 → σ' 118 (4 * c + r) = nI (ps_wb A m c r) := by
  obtain ⟨υ, v1, v2, v3, v4⟩ := ps_244 (σ := σ)
  obtain ⟨σ', e1, e2, e3⟩ := ps_kds9 hok hm vz_fu 0 υ (ps_E_Q hok hE v3) (v4 _) (ps_sn_Q hS v3) (by omega) (by have : vz_fu = 1000000 := rfl; omega) (fun c hc => by omega)
  refine ⟨σ', ?_, ps_Q_trans v3 e2, e3⟩
  unfold f_X9_kindsOf
  rw [v1, vz_b1]
  exact e1
theorem sm_kinds : sim_kinds ps_R := by
  intro σ h x1
  have h' := h
  obtain ⟨⟨A, a1, a2, a3, a4, a5, a6, a7, a8⟩, hP, hF, hS, hX⟩ := h'
  by_cases hc : 0 ≤ x1.toInt ∧ x1.toInt < A 0 0
  · obtain ⟨m, hm, rfl⟩ := ps_ofM hc
    obtain ⟨S, N, hs⟩ := ps_snO a1 a6
    obtain ⟨τ, t1, t2⟩ := ps_pk8 a1 a2 hm hs
    have q8 : ps_Q σ τ := ps_Q_8 (fun b hb => t2 b (by omega))
    obtain ⟨ω, w1, w2, _⟩ := ps_kds a1 (ps_E_Q a1 (ps_E0 a3 a4 a5 hX) q8) hm (ps_sn_Q hs q8)
    refine ⟨nI (ps_mask 4 (ps_kp A S N m)), τ, ω, ?_, ?_, ps_R_Q h (ps_Q_trans q8 w2)⟩
    · simp only [f_X8_kinds, ps_manY a1 a2 hm, vz_b1, vz_mo, t1, vz_b2]
    · have hmY : f_X9_isMan (nI m) τ = 1 := ps_isManY a1 (by rw [q8.2.2 1 (by omega)]; exact a4) hm
      simp only [f_X9_kinds, hmY, if_neg ps_10, w1, vz_b2]
  · refine ⟨-1, σ, σ, ?_, ?_, h⟩
    · simp only [f_X8_kinds, ps_manN a1 a2 hc, vz_b1, vz_mo]
    · simp only [f_X9_kinds, ps_isMan a1 a4, if_neg hc, if_true]
/-! news -/
def ps_np (A : ps_T) (S : Nat → Nat → Nat) (N m : Nat) (i : Nat) : Bool := ps_ag (ps_set A (1 + 1) m i) S N
theorem ps_nws8 {A : ps_T} {S : Nat → Nat → Nat} {N m : Nat} (hok : ps_Ok A) (hm : m < A 0 0) : ∀ (n i k : Nat) (σ : vz_I), ps_C (ps_set A (1 + 1) m k) σ 38 → ps_sn A σ S N → i ≤ 10 → 10 - i < n → ∃ σ', f_X8_news_31 n (38 + 5 + 2 * m) (nI (ps_mask i (ps_np A S N m))) (nI i) σ = some (nI (ps_mask 10 (ps_np A S N m)), σ') ∧ ∀ b, (b < 38 ∨ 54 < b) → σ' b = σ b := by
  have o1 := hok.1
  intro n
  induction n with
  | zero => intro i k σ _ _ _ h; omega
  | succ n ih =>
    intro i k σ hC hS hi hn
    rw [f_X8_news_31_s]
    by_cases e : i = 10
    · subst e
      rw [if_pos (by decide)]
      exact ⟨σ, rfl, fun _ _ => rfl⟩
    · have hB : ps_Ok (ps_set A (1 + 1) m i) := ps_Ok_man hok (by omega) (by omega)
      have hC' := ps_C_man (v := i) (s := 1) (m := m) (by rw [ps_setN _ _ (by omega)]; exact hm) (by rw [ps_setN _ _ (by omega)]; exact o1) (by omega) hC
      rw [ps_set_set] at hC'
      have f8 : ∀ b, (b < 38 ∨ 54 < b) → (vz_up σ (38 + 5 + 2 * m) 1 (nI i)) b = σ b := fun b hb => vz_up_ne _ _ _ (by omega)
      have hS' : ps_sn A (vz_up σ (38 + 5 + 2 * m) 1 (nI i)) S N := ps_sn_Q hS (ps_Q_8 (fun b hb => f8 b (by omega)))
      obtain ⟨σ', e1, e2⟩ := ih (i + 1) i (vz_up σ (38 + 5 + 2 * m) 1 (nI i)) hC' hS' (by omega) (by omega)
      rw [if_neg (show ¬ (10 : Int32) ≤ nI i from nI_ge (b := 10) (by omega) (by omega)), ps_aw hB (ps_setN _ _ (by omega)) hC' hS', vz_b1, nI_1]
      rw [ps_mask] at e1
      by_cases z : ps_np A S N m i = true
      · rw [if_pos z] at e1
        rw [if_pos (show ps_ag (ps_set A (1 + 1) m i) S N = true from z), if_neg ps_10, ps_shl1 _ (by omega), ps_or]
        exact ⟨σ', e1, fun b hb => by rw [e2 b hb, f8 b hb]⟩
      · rw [if_neg z, Nat.or_zero] at e1
        rw [if_neg (show ¬ ps_ag (ps_set A (1 + 1) m i) S N = true from z), if_pos rfl]
        exact ⟨σ', e1, fun b hb => by rw [e2 b hb, f8 b hb]⟩
theorem ps_nws9 {A : ps_T} {S : Nat → Nat → Nat} {N m : Nat} (hok : ps_Ok A) (hm : m < A 0 0) : ∀ (n i : Nat) (σ : vz_I), ps_E A σ 0 0 → ps_PX σ (fun k => k = 4 + m) → ps_sn A σ S N → i ≤ 10 → 10 - i < n → ∃ σ', f_X9_news_22 n (nI m) (nI (ps_mask i (ps_np A S N m))) (nI i) σ = some (nI (ps_mask 10 (ps_np A S N m)), σ') ∧ ps_Q σ σ' := by
  have o1 := hok.1
  intro n
  induction n with
  | zero => intro i σ _ _ _ _ h; omega
  | succ n ih =>
    intro i σ hE hX hS hi hn
    rw [f_X9_news_22_s]
    by_cases e : i = 10
    · subst e
      rw [if_pos (by decide)]
      exact ⟨σ, rfl, ps_Q_refl σ⟩
    · have hB : ps_Ok (ps_set A (1 + 1) m i) := ps_Ok_man hok (by omega) (by omega)
      have hM := ps_M_man (v := i) (s := 1) hok hm (by omega) hE.1
      rw [show 0 + 4 * 1 + m = 4 + m by omega] at hM
      obtain ⟨υ, u1, u2, u3, u4, u5, u6⟩ := ps_trya (A := A) hB hE hX (by omega) hM (ps_setN _ _ (by omega)) (ps_setN _ _ (by omega)) hS
      obtain ⟨σ', e1, e2⟩ := ih (i + 1) υ (ps_E_Q hok hE u3) u4 (ps_sn_Q hS u3) (by omega) (by omega)
      rw [if_neg (show ¬ (10 : Int32) ≤ nI i from nI_ge (b := 10) (by omega) (by omega)), show (248 : Int32) + nI m = nI (248 + m) from nI_add 248 m, if_pos ((ps_in (by omega)).mpr (by omega)), nI_clamp (by omega), show 248 + m = 244 + (4 + m) by omega, u1, vz_b2, nI_1]
      rw [ps_mask] at e1
      by_cases z : ps_np A S N m i = true
      · rw [if_pos z] at e1
        rw [if_pos (show ps_ag (ps_set A (1 + 1) m i) S N = true from z), if_neg ps_10, ps_shl1 _ (by omega), ps_or]
        exact ⟨σ', e1, ps_Q_trans u3 e2⟩
      · rw [if_neg z] at e1
        rw [if_neg (show ¬ ps_ag (ps_set A (1 + 1) m i) S N = true from z), if_pos rfl, show (0 : Int32) = nI 0 from rfl, ps_or]
        exact ⟨σ', e1, ps_Q_trans u3 e2⟩
theorem sm_news : sim_news ps_R := by
  intro σ h x1
  have h' := h
  obtain ⟨⟨A, a1, a2, a3, a4, a5, a6, a7, a8⟩, hP, hF, hS, hX⟩ := h'
  have o1 := a1.1
  obtain ⟨σ3, c1, c2, c3⟩ := ps_copy (T := 38) a1 a2 (by omega)
  have q3 : ps_Q σ σ3 := ps_Q_8 (fun b hb => c3 b (by omega))
  by_cases hc : 0 ≤ x1.toInt ∧ x1.toInt < A 0 0
  · obtain ⟨m, hm, rfl⟩ := ps_ofM hc
    obtain ⟨S, N, hs⟩ := ps_snO a1 a6
    have hC0 : ps_C (ps_set A (1 + 1) m (A 2 m)) σ3 38 := by
      rw [ps_set_self]
      exact c2
    obtain ⟨τ, t1, t2⟩ := ps_nws8 a1 hm vz_fu 0 _ σ3 hC0 (ps_sn_Q hs q3) (by omega) (by have : vz_fu = 1000000 := rfl; omega)
    have q8 : ps_Q σ τ := ps_Q_8 (fun b hb => by rw [t2 b (by omega), c3 b (by omega)])
    obtain ⟨υ, v1, v2, v3, v4⟩ := ps_244 (σ := τ)
    have hQ2 := ps_Q_trans q8 v3
    obtain ⟨ω, w1, w2⟩ := ps_nws9 a1 hm vz_fu 0 υ (ps_E_Q a1 (ps_E0 a3 a4 a5 hX) hQ2) (v4 _) (ps_sn_Q hs hQ2) (by omega) (by have : vz_fu = 1000000 := rfl; omega)
    refine ⟨nI (ps_mask 10 (ps_np A S N m)), τ, ω, ?_, ?_, ps_R_Q h (ps_Q_trans hQ2 w2)⟩
    · unfold f_X8_news
      rw [c1, vz_b1, ps_manY a1 c2 hm, vz_b1, vz_mo]
      exact t1
    · have hmY : f_X9_isMan (nI m) τ = 1 := ps_isManY a1 (by rw [q8.2.2 1 (by omega)]; exact a4) hm
      unfold f_X9_news
      rw [hmY, if_neg ps_10, v1, vz_b1]
      exact w1
  · refine ⟨-1, σ3, σ3, ?_, ?_, ps_R_Q h q3⟩
    · unfold f_X8_news
      rw [c1, vz_b1, ps_manN a1 c2 hc, vz_b1, vz_mo]
    · unfold f_X9_news
      rw [ps_isMan a1 (by rw [q3.2.2 1 (by omega)]; exact a4), if_neg hc, if_pos rfl]
