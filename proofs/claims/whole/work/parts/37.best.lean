/-! pure: what is tried aside; best, late, soon -/
theorem ps_set_set (A : ps_T) (i k v w : Nat) : ps_set (ps_set A i k v) i k w = ps_set A i k w := by
  funext a b
  by_cases h : a = i ∧ b = k
  · obtain ⟨rfl, rfl⟩ := h; rw [ps_setS, ps_setS]
  · rw [ps_setN _ _ h, ps_setN _ _ h, ps_setN _ _ h]
theorem ps_set_self (A : ps_T) (i k : Nat) : ps_set A i k (A i k) = A := by
  funext a b
  by_cases h : a = i ∧ b = k
  · obtain ⟨rfl, rfl⟩ := h; rw [ps_setS]
  · rw [ps_setN _ _ h]
def ps_same (A B : ps_T) : Prop := B 0 0 = A 0 0 ∧ B 7 = A 7 ∧ (∀ m, B 1 m = A 1 m ∧ B 2 m = A 2 m ∧ B 3 m = A 3 m ∧ B (10 + m) = A (10 + m))
theorem ps_P_same {A B : ps_T} (h : ps_same A B) (x c f u w b : Nat) : ps_P B x c f u w b = ps_P A x c f u w b := by
  obtain ⟨h1, h2, h3⟩ := h
  funext t
  unfold ps_P ps_rd ps_dry ps_at
  rw [h1, h2]
  congr 1
  funext m
  obtain ⟨q1, q2, q3, q4⟩ := h3 m
  rw [q1, q2, q3, q4]
theorem ps_W_same {A B : ps_T} (h : ps_same A B) (x c f u w : Nat) : ps_W B x c f u w = ps_W A x c f u w := by
  unfold ps_W ps_L
  rw [ps_P_same h, ps_P_same h]
theorem ps_K_same {A B : ps_T} (h : ps_same A B) (x c f u : Nat) : ps_K B x c f u = ps_K A x c f u := by
  unfold ps_K
  congr 1
  funext w
  rw [ps_W_same h]
theorem ps_same_rd (A : ps_T) {s r v : Nat} (hs : s < 3) : ps_same A (ps_set A (4 + s) r v) := by
  refine ⟨ps_setN _ _ (by omega), funext fun b => ps_setN _ _ (by omega), fun m => ⟨ps_setN _ _ (by omega), ps_setN _ _ (by omega), ps_setN _ _ (by omega), funext fun b => ps_setN _ _ (by omega)⟩⟩
theorem ps_E_Q {A : ps_T} {σ σ' : vz_I} (hok : ps_Ok A) (h : ps_E A σ 0 0) (q : ps_Q σ σ') : ps_E A σ' 0 0 := ⟨ps_M_fr hok h.1 (fun b _ _ => q.2.1 b (by omega)), by rw [q.2.2 1 (by omega)]; exact h.2.1, by rw [q.2.2 2 (by omega)]; exact h.2.2.1, by rw [q.2.2 18 (by omega)]; exact h.2.2.2⟩
/-- page 244 is page 0 but for slots q -/
def ps_PX (σ : vz_I) (q : Nat → Prop) : Prop := ∀ k, k < 61 → ¬ q k → σ 109 (244 + k) = σ 109 k
theorem ps_244 {σ : vz_I} : ∃ σ', f_X9_copies (0 : Int32) (244 : Int32) σ = some σ' ∧ (∀ b, b ≠ 109 → σ' b = σ b) ∧ ps_Q σ σ' ∧ ∀ q, ps_PX σ' q := by
  obtain ⟨υ, d1, d2, d3, d4⟩ := ps_copies (σ := σ) (x := 0) (y := 244) (by omega) (by omega) (by omega)
  refine ⟨υ, d1, d2, ⟨fun b hb => d2 b (by omega), fun k hk => d3 k (by omega), fun j _ => by rw [d2 108 (by omega)]⟩, fun q k hk _ => ?_⟩
  rw [d4 k hk, d3 k (by omega), Nat.zero_add]
theorem ps_244M {A B : ps_T} {σ τ : vz_I} {q : Nat → Prop} (hB : ps_Ok B) (hPX : ps_PX σ q) (g : Nat → Int32) (hg : ps_M B g 0) (hq : ∀ k, k < 61 → q k → τ 109 (244 + k) = g k) (hn : ∀ k, k < 61 → ¬ q k → τ 109 (244 + k) = σ 109 (244 + k) ∧ g k = σ 109 k) : ps_M B (τ 109) 244 := by
  refine ps_M_mv (f := g) (x := 0) hB hg (fun k hk => ?_)
  rw [Nat.zero_add]
  by_cases h : q k
  · exact hq k hk h
  · rw [(hn k hk h).1, (hn k hk h).2]
    exact hPX k hk h
/-- one slot of page 244 written, then learnt -/
theorem ps_try {A B : ps_T} {σ : vz_I} {q0 : Nat} {v : Int32} (hB : ps_Ok B) (hE : ps_E A σ 0 0) (hPX : ps_PX σ (fun k => k = q0)) (hq0 : q0 < 61) (hg : ps_M B (upd (σ 109) q0 v) 0) (b0 : B 0 0 = A 0 0) (b1 : B 0 1 = A 0 1) : ∃ υ, f_X9_learnsOn (244 : Int32) (vz_up σ 109 (244 + q0) v) = some υ ∧ ps_N B υ 0 60 ∧ ps_Q σ υ ∧ ps_PX υ (fun k => k = q0) ∧ υ 108 = σ 108 ∧ ∀ b, b ≠ 109 → b ≠ 114 → b ≠ 115 → υ b = σ b := by
  have hM : ps_M B ((vz_up σ 109 (244 + q0) v) 109) 244 := ps_244M (A := A) hB hPX (upd (σ 109) q0 v) hg (fun k _ hk => by subst hk; rw [ps_upS, ps_updS]) (fun k _ hk => ⟨ps_upN _ _ (by omega), ps_updN _ _ hk⟩)
  have e108 : (vz_up σ 109 (244 + q0) v) 108 = σ 108 := vz_up_ne _ _ _ (by omega)
  obtain ⟨υ, e1, e2, e3⟩ := ps_learn hB (show ps_E B (vz_up σ 109 (244 + q0) v) 244 0 from ⟨hM, by rw [e108, b0]; exact hE.2.1, by rw [e108, b1]; exact hE.2.2.1, by rw [e108]; exact hE.2.2.2⟩) (by omega) (by omega)
  have u109 : υ 109 = (vz_up σ 109 (244 + q0) v) 109 := e3 _ (by omega) (by omega)
  have u108 : υ 108 = σ 108 := by rw [e3 _ (by omega) (by omega), e108]
  refine ⟨υ, e1, e2, ⟨fun b hb => by rw [e3 b (by omega) (by omega), vz_up_ne _ _ _ (by omega)], fun k hk => by rw [u109, ps_upN _ _ (by omega)], fun j _ => by rw [u108]⟩, fun k hk hkq => ?_, u108, fun b q1 q2 q3 => by rw [e3 b q2 q3, vz_up_ne _ _ _ q1]⟩
  rw [u109, ps_upN _ _ (by omega), ps_upN _ _ (by omega)]
  exact hPX k hk hkq
theorem ps_tryp {A B : ps_T} {σ : vz_I} {q0 : Nat} {v : Int32} (hB : ps_Ok B) (hE : ps_E A σ 0 0) (hPX : ps_PX σ (fun k => k = q0)) (hq0 : q0 < 61) (hg : ps_M B (upd (σ 109) q0 v) 0) (b0 : B 0 0 = A 0 0) (b1 : B 0 1 = A 0 1) : ∃ υ, f_X9_pairsOn (244 : Int32) (vz_up σ 109 (244 + q0) v) = some (nI (ps_pairs B 0), υ) ∧ ps_Q σ υ ∧ ps_PX υ (fun k => k = q0) ∧ υ 108 = σ 108 := by
  have o2 := hB.2.1
  obtain ⟨υ, e1, e2, e3, e4, e5, _⟩ := ps_try hB hE hPX hq0 hg b0 b1
  refine ⟨υ, ?_, e3, e4, e5⟩
  unfold f_X9_pairsOn
  rw [e1, vz_b1]
  exact ps_po_l hB e2 (by rw [e5, b1]; exact hE.2.2.1) vz_fu 0 (by omega) (by have : vz_fu = 1000000 := rfl; omega)
/-! offers -/
def ps_fo (c w : Nat → Int32) : Nat → Int32 × Int32 → Int32 × Int32
  | 0, s => s
  | n + 1, s => if w n ≤ (ps_fo c w n s).2 then ps_fo c w n s else (c n, w n)
theorem ps_fo_y {c w : Nat → Int32} {s : Int32 × Int32} {n : Nat} {y x : Int32} (hp : (y, x) = ps_fo c w n s) (z : w n ≤ x) : (y, x) = ps_fo c w (n + 1) s := by
  show (y, x) = if w n ≤ (ps_fo c w n s).2 then ps_fo c w n s else (c n, w n)
  rw [← hp]
  exact (if_pos z).symm
theorem ps_fo_n {c w : Nat → Int32} {s : Int32 × Int32} {n : Nat} {y x : Int32} (hp : (y, x) = ps_fo c w n s) (z : ¬ w n ≤ x) : (c n, w n) = ps_fo c w (n + 1) s := by
  show (c n, w n) = if w n ≤ (ps_fo c w n s).2 then ps_fo c w n s else (c n, w n)
  rw [← hp]
  exact (if_neg z).symm
theorem ps_fo_init {c w : Nat → Int32} {s t : Int32 × Int32} (hs : ¬ w 0 ≤ s.2) (ht : ¬ w 0 ≤ t.2) : ∀ n, ps_fo c w (n + 1) s = ps_fo c w (n + 1) t := by
  intro n
  induction n with
  | zero =>
    show (if w 0 ≤ s.2 then s else (c 0, w 0)) = (if w 0 ≤ t.2 then t else (c 0, w 0))
    rw [if_neg hs, if_neg ht]
  | succ n ih => rw [ps_fo, ih, ← ps_fo]
theorem ps_fo_c {c w : Nat → Int32} {s : Int32 × Int32} (hs : ¬ w 0 ≤ s.2) : ∀ n, ∃ i, i ≤ n ∧ ps_fo c w (n + 1) s = (c i, w i) := by
  intro n
  induction n with
  | zero =>
    refine ⟨0, Nat.le_refl _, ?_⟩
    show (if w 0 ≤ s.2 then s else (c 0, w 0)) = (c 0, w 0)
    rw [if_neg hs]
  | succ n ih =>
    obtain ⟨i, h1, h2⟩ := ih
    rw [ps_fo]
    split
    · exact ⟨i, by omega, h2⟩
    · exact ⟨n + 1, Nat.le_refl _, rfl⟩
def ps_pk (σ : vz_I) (t : Int32 × Int32) : Prop := σ 64 0 = t.1 ∧ σ 64 1 = t.2
theorem ps_offer {σ : vz_I} {t : Int32 × Int32} {x y : Int32} (h : ps_pk σ t) : ps_pk (f_X2_offer x y σ) (if y ≤ t.2 then t else (x, y)) ∧ ∀ b, b ≠ 64 → (f_X2_offer x y σ) b = σ b := by
  unfold f_X2_offer
  rw [h.2]
  split
  · exact ⟨h, fun _ _ => rfl⟩
  · exact ⟨⟨by rw [ps_upN _ _ (by omega), ps_upS], ps_upS _ _ _ _⟩, fun b hb => by rw [vz_up_ne _ _ _ hb, vz_up_ne _ _ _ hb]⟩
theorem ps_restart (σ : vz_I) (x : Int32) : ps_pk (f_X2_restart x σ) (-4, x) ∧ ∀ b, b ≠ 64 → (f_X2_restart x σ) b = σ b := by
  unfold f_X2_restart
  exact ⟨⟨by rw [ps_upN _ _ (by omega), ps_upS], ps_upS _ _ _ _⟩, fun b hb => by rw [vz_up_ne _ _ _ hb, vz_up_ne _ _ _ hb]⟩
theorem ps_told {σ : vz_I} {t : Int32 × Int32} {x : Int32} (h : ps_pk σ t) (h4 : t.1 ≠ -4) : f_X2_told x σ = if x = 0 then t.1 else t.2 := by
  unfold f_X2_told
  rw [h.1, h.2, if_neg h4]
theorem ps_more {σ : vz_I} {v : Int32} : f_X9_isMore v σ = some (if v ≤ σ 108 22 then 0 else 1, vz_up σ 108 22 (if v ≤ σ 108 22 then σ 108 22 else v)) := by
  unfold f_X9_isMore f_X9_isMore_13
  by_cases h : v ≤ σ 108 22
  · rw [if_pos h, if_pos rfl, if_pos (Or.inl rfl), if_pos h, if_pos h]
  · rw [if_neg h, if_neg ps_10, if_pos (Or.inr rfl), if_neg h, if_neg h]
theorem ps_Q_22 (σ : vz_I) (x : Int32) : ps_Q σ (vz_up σ 108 22 x) := ⟨fun b hb => vz_up_ne _ _ _ (by omega), fun k _ => by rw [vz_up_ne _ _ _ (by omega)], fun j hj => ps_upN _ _ (by omega)⟩
theorem ps_PX_22 {σ : vz_I} {q : Nat → Prop} (x : Int32) (h : ps_PX σ q) : ps_PX (vz_up σ 108 22 x) q := by
  intro k hk hq
  rw [vz_up_ne _ _ _ (by omega)]
  exact h k hk hq
theorem ps_nm {x : Nat} (h : x < 2 ^ 31) : ¬ nI x ≤ (-1 : Int32) ∧ ¬ nI x ≤ (-1000 : Int32) := by
  constructor
  · intro q
    rw [Int32.le_iff_toInt_le, nI_toInt h] at q
    have : (-1 : Int32).toInt = -1 := by decide
    omega
  · intro q
    rw [Int32.le_iff_toInt_le, nI_toInt h] at q
    have : (-1000 : Int32).toInt = -1000 := by decide
    omega
/-- class cells that a search may write: trial, guest, pick, knownBy -/
theorem ps_Q_8 {σ σ' : vz_I} (h : ∀ b, b < 38 ∨ (55 ≤ b ∧ b ≤ 62) ∨ 66 ≤ b → σ' b = σ b) : ps_Q σ σ' := ⟨fun b hb => h b (by omega), fun k _ => by rw [h 109 (by omega)], fun j _ => by rw [h 108 (by omega)]⟩
def ps_bw (A : ps_T) (f u : Nat) (i : Nat) : Int32 := nI (ps_K A 0 i f u)
theorem ps_best8 {A : ps_T} {f u : Nat} {x2 : Int32} {s0 : Int32 × Int32} (hok : ps_Ok A) (hf : f < 60) (hu : u < 60) : ∀ (n i : Nat) (σ : vz_I), ps_C A σ 21 → σ 63 1 = nI f → σ 63 2 = nI u → i ≤ 8 → 8 - i < n → ps_pk σ (ps_fo nI (ps_bw A f u) i s0) → ∃ σ', f_X8_best_43 n x2 (nI i) σ = some (f_X2_told x2 σ', σ') ∧ ps_pk σ' (ps_fo nI (ps_bw A f u) 8 s0) ∧ ∀ b, b ≠ 63 → b ≠ 64 → σ' b = σ b := by
  intro n
  induction n with
  | zero => intro i σ _ _ _ _ h; omega
  | succ n ih =>
    intro i σ hC h1 h2 hi hn hp
    rw [f_X8_best_43_s]
    by_cases e : i = 8
    · subst e
      rw [if_pos (by decide)]
      exact ⟨σ, rfl, hp, fun _ _ _ => rfl⟩
    · have hC' : ps_C A (vz_up σ 63 0 (nI i)) 21 := ps_C_fr hok hC (fun b _ _ => vz_up_ne _ _ _ (by omega))
      have hr : ps_rc (vz_up σ 63 0 (nI i)) 63 i f u := ⟨ps_upS _ _ _ _, by rw [ps_upN _ _ (by omega)]; exact h1, by rw [ps_upN _ _ (by omega)]; exact h2⟩
      have q := ps_wn (T := 21) (h := 0) (o := 15) (l := 59) hok hC' hr (by omega) hf hu (by omega) (ps_h0 hok.1) (by omega) ps_span_day.symm
      rw [show nI 15 = (15 : Int32) from rfl] at q
      rw [if_neg (show ¬ (8 : Int32) ≤ nI i from nI_ge (b := 8) (by omega) (by omega)), q, vz_b1, ps_popm, nI_1]
      have hp' : ps_pk (vz_up σ 63 0 (nI i)) (ps_fo nI (ps_bw A f u) i s0) := ⟨by rw [vz_up_ne _ _ _ (by omega)]; exact hp.1, by rw [vz_up_ne _ _ _ (by omega)]; exact hp.2⟩
      obtain ⟨o1, o2⟩ := ps_offer (x := nI i) (y := nI (ps_K A 0 i f u)) hp'
      obtain ⟨σ', e1, e2, e3⟩ := ih (i + 1) (f_X2_offer (nI i) (nI (ps_K A 0 i f u)) (vz_up σ 63 0 (nI i))) (ps_C_fr hok hC' (fun b _ _ => o2 b (by omega))) (by rw [o2 63 (by omega)]; exact hr.2.1) (by rw [o2 63 (by omega)]; exact hr.2.2) (by omega) (by omega) o1
      exact ⟨σ', e1, e2, fun b q1 q2 => by rw [e3 b q1 q2, o2 b q2, vz_up_ne _ _ _ q1]⟩
theorem ps_best9 {A : ps_T} {r : Nat} {x2 : Int32} {s0 : Int32 × Int32} (hok : ps_Ok A) (hr : r < A 0 1) : ∀ (n i : Nat) (σ : vz_I) (y : Int32), ps_E A σ 0 0 → ps_PX σ (fun k => k = 28 + r) → i ≤ 8 → 8 - i < n → (y, σ 108 22) = ps_fo nI (ps_bw A (A 5 r) (A 6 r)) i s0 → ∃ σ', f_X9_best_38 n (nI r) x2 y (nI i) σ = some (if x2 = 0 then (ps_fo nI (ps_bw A (A 5 r) (A 6 r)) 8 s0).1 else (ps_fo nI (ps_bw A (A 5 r) (A 6 r)) 8 s0).2, σ') ∧ ps_Q σ σ' := by
  have o2 := hok.2.1
  intro n
  induction n with
  | zero => intro i σ y _ _ _ h; omega
  | succ n ih =>
    intro i σ y hE hX hi hn hp
    rw [f_X9_best_38_s]
    by_cases e : i = 8
    · subst e
      rw [if_pos (by decide), ← hp]
      refine ⟨σ, ?_, ps_Q_refl σ⟩
      split <;> rfl
    · have hB : ps_Ok (ps_set A (4 + 0) r i) := ps_Ok_rd hok hr (by omega) (by omega) (by omega) (by omega)
      have hM := ps_M_rd (v := i) (s := 0) hok hr (by omega) hE.1
      rw [show 0 + 28 + 4 * 0 + r = 28 + r by omega] at hM
      obtain ⟨υ, u1, u2, u3, u4, u5, u6⟩ := ps_try (A := A) hB hE hX (by omega) hM (ps_setN _ _ (by omega)) (ps_setN _ _ (by omega))
      have k9 := ps_ko (r := r) hB u2 (by rw [ps_setN _ _ (by omega)]; exact hr)
      rw [ps_K_same (ps_same_rd A (by omega)), show ps_set A (4 + 0) r i 4 r = i from ps_setS _ _ _ _, ps_setN (a := 5) _ _ (by omega), ps_setN (a := 6) _ _ (by omega)] at k9
      rw [if_neg (show ¬ (8 : Int32) ≤ nI i from nI_ge (b := 8) (by omega) (by omega)), show (272 : Int32) + nI r = nI (272 + r) from nI_add 272 r, if_pos ((ps_in (by omega)).mpr (by omega)), nI_clamp (by omega), show 272 + r = 244 + (28 + r) by omega, u1, vz_b1, k9, vz_b1, ps_more, vz_b2, u5, nI_1]
      have hQ' := fun x => ps_Q_trans u3 (ps_Q_22 υ x)
      by_cases z : nI (ps_K A 0 i (A 5 r) (A 6 r)) ≤ σ 108 22
      · rw [if_pos z, if_pos rfl, if_pos z]
        obtain ⟨σ', e1, e2⟩ := ih (i + 1) (vz_up υ 108 22 (σ 108 22)) y (ps_E_Q hok hE (hQ' _)) (ps_PX_22 _ u4) (by omega) (by omega) (by rw [ps_upS]; exact ps_fo_y hp z)
        exact ⟨σ', e1, ps_Q_trans (hQ' _) e2⟩
      · rw [if_neg z, if_neg ps_10, if_neg z]
        obtain ⟨σ', e1, e2⟩ := ih (i + 1) (vz_up υ 108 22 (nI (ps_K A 0 i (A 5 r) (A 6 r)))) (nI i) (ps_E_Q hok hE (hQ' _)) (ps_PX_22 _ u4) (by omega) (by omega) (by rw [ps_upS]; exact ps_fo_n hp z)
        exact ⟨σ', e1, ps_Q_trans (hQ' _) e2⟩
theorem sm_best : sim_best ps_R := by
  intro σ h x1 x2
  have h' := h
  obtain ⟨⟨A, a1, a2, a3, a4, a5, a6, a7, a8⟩, hP, hF, hS, hX⟩ := h'
  have o2 := a1.2.1
  by_cases hc : 0 ≤ x1.toInt ∧ x1.toInt < A 0 1
  · obtain ⟨r, hr, rfl⟩ := ps_ofM hc
    have hrY := ps_isRdY a1 a5 hr
    obtain ⟨k1, k2, k3⟩ := ps_rOk a1 hr
    obtain ⟨g1, g2, g3⟩ := ps_rcOf a2 hr
    by_cases hd : 0 ≤ x2.toInt ∧ x2.toInt ≤ (1 : Nat)
    · have hi9 : f_X9_in x2.toInt64 0 1 = 1 := ps_ilt 1 (by decide) hd
      obtain ⟨c0, c1, c2, c3⟩ := ps_rcopy (σ := σ) (a := 63) (c := 21 + 13 + r) (by omega)
      obtain ⟨p1, p2⟩ := ps_restart (f_X3_copyFrom 63 (21 + 13 + r) σ) (-1000)
      have hk := ps_K_le A 0 0 (A 5 r) (A 6 r)
      have w0a : ¬ ps_bw A (A 5 r) (A 6 r) 0 ≤ ((-4, -1000) : Int32 × Int32).2 := (ps_nm (by omega)).2
      have w0b : ¬ ps_bw A (A 5 r) (A 6 r) 0 ≤ ((0, -1) : Int32 × Int32).2 := (ps_nm (by omega)).1
      obtain ⟨τ, t1, t2, t3⟩ := ps_best8 (x2 := x2) a1 k2 k3 vz_fu 0 (f_X2_restart (-1000) (f_X3_copyFrom 63 (21 + 13 + r) σ)) (ps_C_fr a1 a2 (fun b _ _ => by rw [p2 b (by omega), c3 b (by omega)])) (by rw [p2 63 (by omega), c1]; exact g2) (by rw [p2 63 (by omega), c2]; exact g3) (by omega) (by have : vz_fu = 1000000 := rfl; omega) p1
      have q8 : ps_Q σ τ := ps_Q_8 (fun b hb => by rw [t3 b (by omega) (by omega), p2 b (by omega), c3 b (by omega)])
      obtain ⟨i, hi, hfo⟩ := ps_fo_c (c := nI) w0a 7
      have hfo9 := ps_fo_init (c := nI) w0a w0b 7
      obtain ⟨υ, v1, v2, v3, v4⟩ := ps_244 (σ := vz_up τ 108 22 (-1))
      have hQ2 : ps_Q σ υ := ps_Q_trans q8 (ps_Q_trans (ps_Q_22 τ (-1)) v3)
      obtain ⟨ω, w1, w2⟩ := ps_best9 (x2 := x2) (s0 := (0, -1)) a1 hr vz_fu 0 υ 0 (ps_E_Q a1 (ps_E0 a3 a4 a5 hX) hQ2) (v4 _) (by omega) (by have : vz_fu = 1000000 := rfl; omega) (by rw [v2 108 (by omega), ps_upS]; rfl)
      refine ⟨if x2 = 0 then (ps_fo nI (ps_bw A (A 5 r) (A 6 r)) 8 (0, -1)).1 else (ps_fo nI (ps_bw A (A 5 r) (A 6 r)) 8 (0, -1)).2, τ, ω, ?_, ?_, ps_R_Q h (ps_Q_trans hQ2 w2)⟩
      · have e8 : f_X2_told x2 τ = if x2 = 0 then (ps_fo nI (ps_bw A (A 5 r) (A 6 r)) 8 (-4, -1000)).1 else (ps_fo nI (ps_bw A (A 5 r) (A 6 r)) 8 (-4, -1000)).2 := ps_told t2 (by rw [hfo]; exact ps_n4 (by omega))
        simp only [f_X8_best, ps_rdY a1 a2 hr, vz_b1, vz_mo, ps_e8, if_pos hd, if_neg ps_10]
        rw [← hfo9, ← e8]
        exact t1
      · have hrY' : f_X9_isReader (nI r) τ = 1 := ps_isRdY a1 (by rw [q8.2.2 2 (by omega)]; exact a5) hr
        unfold f_X9_best
        rw [hrY', if_neg ps_10, hi9, if_neg ps_10, v1, vz_b1]
        exact w1
    · have hi9 : f_X9_in x2.toInt64 0 1 = 0 := ps_ilf 1 (by decide) hd
      refine ⟨-1, σ, σ, ?_, ?_, h⟩
      · simp only [f_X8_best, ps_rdY a1 a2 hr, vz_b1, vz_mo, ps_e8, if_neg hd, if_true]
      · simp only [f_X9_best, hrY, if_neg ps_10, hi9, if_true]
  · refine ⟨-1, σ, σ, ?_, ?_, h⟩
    · simp only [f_X8_best, ps_rdN a1 a2 hc, vz_b1, vz_mo]
    · simp only [f_X9_best, ps_isRd a1 a5, if_neg hc, if_true]
