/-! pure: a town copied, on both sides -/
theorem ps_rcopy {σ : vz_I} {a c : Nat} (h : a ≠ c) : (f_X3_copyFrom a c σ) a 0 = σ c 0 ∧ (f_X3_copyFrom a c σ) a 1 = σ c 1 ∧ (f_X3_copyFrom a c σ) a 2 = σ c 2 ∧ ∀ b, b ≠ a → (f_X3_copyFrom a c σ) b = σ b := by
  have h' : c ≠ a := Ne.symm h
  simp only [f_X3_copyFrom, vz_let]
  refine ⟨?_, ?_, ?_, fun b hb => ?_⟩
  · rw [ps_upN _ _ (by omega), ps_upN _ _ (by omega), ps_upS]
  · rw [ps_upN _ _ (by omega), ps_upS, vz_up_ne _ _ _ h']
  · rw [ps_upS, vz_up_ne _ _ _ h', vz_up_ne _ _ _ h']
  · rw [vz_up_ne _ _ _ hb, vz_up_ne _ _ _ hb, vz_up_ne _ _ _ hb]
theorem ps_pcopy {a c len : Nat} (hl : len ≤ 4) (h1 : a ≠ c + 1) (h2 : a ≠ c) : ∀ (n i : Nat) (σ : vz_I), σ a 2 = nI len → i ≤ len → len - i < n → ∃ σ', f_X0_copyFrom_26 n a c (nI i) σ = some σ' ∧ (∀ b, b ≠ a + 1 → σ' b = σ b) ∧ (∀ k, k < i → σ' (a + 1) k = σ (a + 1) k) ∧ (∀ k, i ≤ k → k < len → σ' (a + 1) k = σ (c + 1) k) := by
  intro n
  induction n with
  | zero => intro i σ _ _ h; omega
  | succ n ih =>
    intro i σ hs hi hn
    rw [f_X0_copyFrom_26_s, hs]
    by_cases e : len ≤ i
    · rw [if_pos (nI_le e (by omega))]
      exact ⟨σ, rfl, fun _ _ => rfl, fun _ _ => rfl, fun k q1 q2 => by omega⟩
    · rw [if_neg (nI_ge (by omega) (by omega)), if_pos ((ps_in (by omega)).mpr (by omega)), if_pos ((ps_in (by omega)).mpr (by omega)), vz_let, nI_clamp (by omega), nI_1]
      obtain ⟨σ', e1, e2, e3, e4⟩ := ih (i + 1) (vz_up σ (a + 1) i (σ (c + 1) i)) (by rw [vz_up_ne _ _ _ (by omega)]; exact hs) (by omega) (by omega)
      refine ⟨σ', e1, fun b hb => by rw [e2 b hb, vz_up_ne _ _ _ hb], fun k hk => ?_, fun k q1 q2 => ?_⟩
      · rw [e3 k (by omega), ps_upN _ _ (by omega)]
      · by_cases hk : k = i
        · subst hk
          rw [e3 k (by omega), ps_upS]
        · rw [e4 k (by omega) q2, vz_up_ne _ _ _ (by omega)]
theorem ps_mcopy {σ : vz_I} {a c len : Nat} (hl : len ≤ 4) (h1 : a ≠ c + 1) (h2 : a ≠ c) (h3 : c ≠ a + 1) (hc : σ c 2 = nI len) : ∃ σ', f_X0_copyFrom a c σ = some σ' ∧ σ' a 0 = σ c 0 ∧ σ' a 1 = σ c 1 ∧ σ' a 2 = σ c 2 ∧ (∀ k, k < len → σ' (a + 1) k = σ (c + 1) k) ∧ ∀ b, b ≠ a → b ≠ a + 1 → σ' b = σ b := by
  have h2' : c ≠ a := Ne.symm h2
  simp only [f_X0_copyFrom, vz_let]
  generalize hs : (vz_up (vz_up (vz_up σ a 0 (σ c 0)) a 1 ((vz_up σ a 0 (σ c 0)) c 1)) a 2 ((vz_up (vz_up σ a 0 (σ c 0)) a 1 ((vz_up σ a 0 (σ c 0)) c 1)) c 2)) = τ
  have t0 : τ a 0 = σ c 0 := by rw [← hs, ps_upN _ _ (by omega), ps_upN _ _ (by omega), ps_upS]
  have t1 : τ a 1 = σ c 1 := by rw [← hs, ps_upN _ _ (by omega), ps_upS, vz_up_ne _ _ _ h2']
  have t2 : τ a 2 = σ c 2 := by rw [← hs, ps_upS, vz_up_ne _ _ _ h2', vz_up_ne _ _ _ h2']
  have t3 : ∀ b, b ≠ a → τ b = σ b := fun b hb => by rw [← hs, vz_up_ne _ _ _ hb, vz_up_ne _ _ _ hb, vz_up_ne _ _ _ hb]
  obtain ⟨σ', e1, e2, e3, e4⟩ := ps_pcopy (a := a) (c := c) hl h1 h2 vz_fu 0 τ (by rw [t2]; exact hc) (by omega) (by have : vz_fu = 1000000 := rfl; omega)
  refine ⟨σ', e1, by rw [e2 a (by omega)]; exact t0, by rw [e2 a (by omega)]; exact t1, by rw [e2 a (by omega)]; exact t2, fun k hk => ?_, fun b q1 q2 => by rw [e2 b q2, t3 b q1]⟩
  rw [e4 k (by omega) hk, t3 _ (by omega)]
theorem ps_scopy {T S ns : Nat} (hn : ns ≤ 9) (hd : T + 16 < S ∨ S + 16 < T) : ∀ (n i : Nat) (σ : vz_I), σ T 1 = nI ns → i ≤ ns → ns - i < n → ∃ σ', f_X7_copyFrom_100 n T S (nI i) σ = some σ' ∧ (∀ b, b ≠ T + 3 → b ≠ T + 4 → σ' b = σ b) ∧ (∀ k, k < i → σ' (T + 3) k = σ (T + 3) k ∧ σ' (T + 4) k = σ (T + 4) k) ∧ (∀ k, i ≤ k → k < ns → σ' (T + 3) k = σ (S + 3) k ∧ σ' (T + 4) k = σ (S + 4) k) := by
  intro n
  induction n with
  | zero => intro i σ _ _ h; omega
  | succ n ih =>
    intro i σ hs hi hn
    rw [f_X7_copyFrom_100_s, hs]
    by_cases e : ns ≤ i
    · rw [if_pos (nI_le e (by omega))]
      exact ⟨σ, rfl, fun _ _ _ => rfl, fun _ _ => ⟨rfl, rfl⟩, fun k q1 q2 => by omega⟩
    · have hin : vz_in (nI i) 9 := (ps_in (by omega)).mpr (by omega)
      rw [if_neg (nI_ge (by omega) (by omega)), if_pos hin, if_pos hin, vz_let, if_pos hin, if_pos hin, vz_let, nI_clamp (by omega), nI_1]
      generalize ht : vz_up (vz_up σ (T + 3) i (σ (S + 3) i)) (T + 4) i ((vz_up σ (T + 3) i (σ (S + 3) i)) (S + 4) i) = τ
      have t1 : ∀ b, b ≠ T + 3 → b ≠ T + 4 → τ b = σ b := fun b q1 q2 => by rw [← ht, vz_up_ne _ _ _ q2, vz_up_ne _ _ _ q1]
      have t2 : ∀ k, k ≠ i → τ (T + 3) k = σ (T + 3) k ∧ τ (T + 4) k = σ (T + 4) k := fun k hk => by
        rw [← ht]
        exact ⟨by rw [vz_up_ne _ _ _ (by omega), ps_upN _ _ hk], by rw [ps_upN _ _ hk, vz_up_ne _ _ _ (by omega)]⟩
      have t3 : τ (T + 3) i = σ (S + 3) i ∧ τ (T + 4) i = σ (S + 4) i := by
        rw [← ht]
        exact ⟨by rw [vz_up_ne _ _ _ (by omega), ps_upS], by rw [ps_upS, vz_up_ne _ _ _ (by omega)]⟩
      obtain ⟨σ', e1, e2, e3, e4⟩ := ih (i + 1) τ (by rw [t1 T (by omega) (by omega)]; exact hs) (by omega) (by omega)
      refine ⟨σ', e1, fun b q1 q2 => by rw [e2 b q1 q2, t1 b q1 q2], fun k hk => ?_, fun k q1 q2 => ?_⟩
      · rw [(e3 k (by omega)).1, (e3 k (by omega)).2]
        exact t2 k (by omega)
      · by_cases hk : k = i
        · subst hk
          rw [(e3 k (by omega)).1, (e3 k (by omega)).2]
          exact t3
        · rw [(e4 k (by omega) q2).1, (e4 k (by omega) q2).2, t1 (S + 3) (by omega) (by omega), t1 (S + 4) (by omega) (by omega)]
          exact ⟨rfl, rfl⟩
theorem ps_rscopy {T S ns nr : Nat} (hn : ns ≤ 9) (hr : nr ≤ 4) (hd : T + 16 < S ∨ S + 16 < T) : ∀ (n i : Nat) (σ : vz_I), σ T 1 = nI ns → σ T 2 = nI nr → i ≤ nr → nr - i < n → ∃ σ', f_X7_copyFrom_69 n T S (nI i) σ = some σ' ∧ (∀ b, b ≠ T + 3 → b ≠ T + 4 → (b < T + 13 ∨ T + 16 < b) → σ' b = σ b) ∧ (∀ r, r < i → σ' (T + 13 + r) = σ (T + 13 + r)) ∧ (∀ r, i ≤ r → r < nr → ∀ j, j < 3 → σ' (T + 13 + r) j = σ (S + 13 + r) j) ∧ (∀ k, k < ns → σ' (T + 3) k = σ (S + 3) k ∧ σ' (T + 4) k = σ (S + 4) k) := by
  intro n
  induction n with
  | zero => intro i σ _ _ _ h; omega
  | succ n ih =>
    intro i σ hs1 hs2 hi hn'
    rw [f_X7_copyFrom_69_s, hs2]
    by_cases e : nr ≤ i
    · rw [if_pos (nI_le e (by omega))]
      obtain ⟨σ', e1, e2, e3, e4⟩ := ps_scopy hn hd vz_fu 0 σ hs1 (by omega) (by have : vz_fu = 1000000 := rfl; omega)
      exact ⟨σ', e1, fun b q1 q2 _ => e2 b q1 q2, fun r hr => e2 _ (by omega) (by omega), fun r q1 q2 => by omega, fun k hk => e4 k (by omega) hk⟩
    · have hin : vz_in (nI i) 4 := (ps_in (by omega)).mpr (by omega)
      rw [if_neg (nI_ge (by omega) (by omega)), if_pos hin, if_pos hin, nI_clamp (by omega), nI_1]
      obtain ⟨c0, c1, c2, c3⟩ := ps_rcopy (σ := σ) (a := T + 13 + i) (c := S + 13 + i) (by omega)
      obtain ⟨σ', e1, e2, e3, e4, e5⟩ := ih (i + 1) (f_X3_copyFrom (T + 13 + i) (S + 13 + i) σ) (by rw [c3 T (by omega)]; exact hs1) (by rw [c3 T (by omega)]; exact hs2) (by omega) (by omega)
      refine ⟨σ', e1, fun b q1 q2 q3 => by rw [e2 b q1 q2 q3, c3 b (by omega)], fun r hr => by rw [e3 r (by omega), c3 _ (by omega)], fun r q1 q2 j hj => ?_, fun k hk => by rw [(e5 k hk).1, (e5 k hk).2, c3 (S + 3) (by omega), c3 (S + 4) (by omega)]; exact ⟨rfl, rfl⟩⟩
      by_cases hr : r = i
      · subst hr
        rw [e3 r (by omega)]
        rcases (show j = 0 ∨ j = 1 ∨ j = 2 by omega) with rfl | rfl | rfl
        · exact c0
        · exact c1
        · exact c2
      · rw [e4 r (by omega) q2 j hj, c3 _ (by omega)]
theorem ps_mscopy {A : ps_T} {T S : Nat} (hok : ps_Ok A) (hd : T + 16 < S ∨ S + 16 < T) : ∀ (n i : Nat) (σ : vz_I), σ T 0 = nI (A 0 0) → σ T 1 = nI (A 0 2) → σ T 2 = nI (A 0 1) → (∀ m, m < A 0 0 → σ (S + 5 + 2 * m) 2 = nI (A 3 m)) → i ≤ A 0 0 → A 0 0 - i < n → ∃ σ', f_X7_copyFrom_38 n T S (nI i) σ = some σ' ∧ (∀ b, (b < T + 3 ∨ T + 16 < b) → σ' b = σ b) ∧ (∀ m, m < i → σ' (T + 5 + 2 * m) = σ (T + 5 + 2 * m) ∧ σ' (T + 5 + 2 * m + 1) = σ (T + 5 + 2 * m + 1)) ∧ (∀ m, i ≤ m → m < A 0 0 → (∀ j, j < 3 → σ' (T + 5 + 2 * m) j = σ (S + 5 + 2 * m) j) ∧ ∀ k, k < A 3 m → σ' (T + 5 + 2 * m + 1) k = σ (S + 5 + 2 * m + 1) k) ∧ (∀ r, r < A 0 1 → ∀ j, j < 3 → σ' (T + 13 + r) j = σ (S + 13 + r) j) ∧ (∀ k, k < A 0 2 → σ' (T + 3) k = σ (S + 3) k ∧ σ' (T + 4) k = σ (S + 4) k) := by
  obtain ⟨o1, o2, o3, -, -, o6, -⟩ := hok
  intro n
  induction n with
  | zero => intro i σ _ _ _ _ _ h; omega
  | succ n ih =>
    intro i σ hs0 hs1 hs2 hlen hi hn'
    rw [f_X7_copyFrom_38_s, hs0]
    by_cases e : A 0 0 ≤ i
    · rw [if_pos (nI_le e (by omega))]
      obtain ⟨σ', e1, e2, e3, e4, e5⟩ := ps_rscopy o3 o2 hd vz_fu 0 σ hs1 hs2 (by omega) (by have : vz_fu = 1000000 := rfl; omega)
      exact ⟨σ', e1, fun b hb => e2 b (by omega) (by omega) (by omega), fun m hm => ⟨e2 _ (by omega) (by omega) (by omega), e2 _ (by omega) (by omega) (by omega)⟩, fun m q1 q2 => by omega, fun r hr j hj => e4 r (by omega) hr j hj, e5⟩
    · have hin : vz_in (nI i) 4 := (ps_in (by omega)).mpr (by omega)
      rw [if_neg (nI_ge (by omega) (by omega)), if_pos hin, if_pos hin, nI_clamp (by omega), nI_1]
      obtain ⟨τ, c0, c1, c2, c3, c4, c5⟩ := ps_mcopy (σ := σ) (a := T + 5 + 2 * i) (c := S + 5 + 2 * i) (len := A 3 i) (o6 i (by omega)).2.2.2.1 (by omega) (by omega) (by omega) (hlen i (by omega))
      rw [c0, vz_b1]
      obtain ⟨σ', e1, e2, e3, e4, e5, e6⟩ := ih (i + 1) τ (by rw [c5 T (by omega) (by omega)]; exact hs0) (by rw [c5 T (by omega) (by omega)]; exact hs1) (by rw [c5 T (by omega) (by omega)]; exact hs2) (fun m hm => by rw [c5 _ (by omega) (by omega)]; exact hlen m hm) (by omega) (by omega)
      refine ⟨σ', e1, fun b hb => by rw [e2 b hb, c5 b (by omega) (by omega)], fun m hm => ?_, fun m q1 q2 => ?_, fun r hr j hj => by rw [e5 r hr j hj, c5 _ (by omega) (by omega)], fun k hk => by rw [(e6 k hk).1, (e6 k hk).2, c5 (S + 3) (by omega) (by omega), c5 (S + 4) (by omega) (by omega)]; exact ⟨rfl, rfl⟩⟩
      · rw [(e3 m (by omega)).1, (e3 m (by omega)).2, c5 _ (by omega) (by omega), c5 _ (by omega) (by omega)]
        exact ⟨rfl, rfl⟩
      · by_cases hm : m = i
        · subst hm
          rw [(e3 m (by omega)).1, (e3 m (by omega)).2]
          refine ⟨fun j hj => ?_, c4⟩
          rcases (show j = 0 ∨ j = 1 ∨ j = 2 by omega) with rfl | rfl | rfl
          · exact c1
          · exact c2
          · exact c3
        · obtain ⟨f1, f2⟩ := e4 m (by omega) q2
          exact ⟨fun j hj => by rw [f1 j hj, c5 _ (by omega) (by omega)], fun k hk => by rw [f2 k hk, c5 _ (by omega) (by omega)]⟩
/-- the class copies a town -/
theorem ps_copy {A : ps_T} {σ : vz_I} {T S : Nat} (hok : ps_Ok A) (h : ps_C A σ S) (hd : T + 16 < S ∨ S + 16 < T) : ∃ σ', f_X7_copyFrom T S σ = some σ' ∧ ps_C A σ' T ∧ ∀ b, (b < T ∨ T + 16 < b) → σ' b = σ b := by
  obtain ⟨h1, h2, h3, h4, h5, h6, h7, h8⟩ := h
  obtain ⟨o1, o2, o3, -⟩ := id hok
  simp only [f_X7_copyFrom, vz_let, f_X7_setRain]
  generalize hs : vz_up (vz_up (vz_up (vz_up (vz_up σ T 0 (σ S 0)) T 1 (vz_up σ T 0 (σ S 0) S 1)) T 2 (vz_up (vz_up σ T 0 (σ S 0)) T 1 (vz_up σ T 0 (σ S 0) S 1) S 2)) T 3 (vz_up (vz_up (vz_up σ T 0 (σ S 0)) T 1 (vz_up σ T 0 (σ S 0) S 1)) T 2 (vz_up (vz_up σ T 0 (σ S 0)) T 1 (vz_up σ T 0 (σ S 0) S 1) S 2) S 3)) T 4 (vz_up (vz_up (vz_up σ T 0 (σ S 0)) T 1 (vz_up σ T 0 (σ S 0) S 1)) T 2 (vz_up (vz_up σ T 0 (σ S 0)) T 1 (vz_up σ T 0 (σ S 0) S 1) S 2) S 4) = τ
  have t0 : τ T 0 = nI (A 0 0) := by rw [← hs]; simp (disch := omega) only [ps_upN, ps_upS, h1]
  have t1 : τ T 1 = nI (A 0 2) := by rw [← hs]; simp (disch := omega) only [ps_upN, ps_upS, vz_up_ne, h2]
  have t2 : τ T 2 = nI (A 0 1) := by rw [← hs]; simp (disch := omega) only [ps_upN, ps_upS, vz_up_ne, h3]
  have t3 : τ T 3 = nI (A 7 0) := by rw [← hs]; simp (disch := omega) only [ps_upN, ps_upS, vz_up_ne, h4]
  have t4 : τ T 4 = nI (A 7 1) := by rw [← hs]; simp (disch := omega) only [ps_upN, ps_upS, vz_up_ne, h5]
  have t5 : ∀ b, b ≠ T → τ b = σ b := fun b hb => by rw [← hs]; simp (disch := omega) only [vz_up_ne]
  obtain ⟨σ', e1, e2, e3, e4, e5, e6⟩ := ps_mscopy hok hd vz_fu 0 τ t0 t1 t2 (fun m hm => by rw [t5 _ (by omega)]; exact (h6 m hm).2.2.1) (by omega) (by have : vz_fu = 1000000 := rfl; omega)
  have eT := e2 T (by omega)
  refine ⟨σ', e1, ⟨by rw [eT]; exact t0, by rw [eT]; exact t1, by rw [eT]; exact t2, by rw [eT]; exact t3, by rw [eT]; exact t4, fun m hm => ?_, fun r hr => ?_, fun i hi => ?_⟩, fun b hb => by rw [e2 b (by omega), t5 b (by omega)]⟩
  · obtain ⟨f1, f2⟩ := e4 m (by omega) hm
    obtain ⟨g1, g2, g3, g4⟩ := h6 m hm
    refine ⟨by rw [f1 0 (by omega), t5 _ (by omega)]; exact g1, by rw [f1 1 (by omega), t5 _ (by omega)]; exact g2, by rw [f1 2 (by omega), t5 _ (by omega)]; exact g3, fun i hi => by rw [f2 i hi, t5 _ (by omega)]; exact g4 i hi⟩
  · rw [e5 r hr 0 (by omega), e5 r hr 1 (by omega), e5 r hr 2 (by omega), t5 _ (by omega)]
    exact h7 r hr
  · rw [(e6 i hi).1, (e6 i hi).2, t5 _ (by omega), t5 _ (by omega)]
    exact h8 i hi
theorem ps_copies_l {x y : Nat} (hx : x + 61 ≤ 305) (hy : y + 61 ≤ 305) (hd : x + 61 ≤ y ∨ y + 61 ≤ x) : ∀ (n i : Nat) (σ : vz_I), i ≤ 61 → 61 - i < n → ∃ σ', f_X9_copies_2 n (nI x) (nI y) (nI i) σ = some σ' ∧ (∀ b, b ≠ 109 → σ' b = σ b) ∧ (∀ k, (k < y + i ∨ y + 61 ≤ k) → σ' 109 k = σ 109 k) ∧ (∀ k, i ≤ k → k < 61 → σ' 109 (y + k) = σ 109 (x + k)) := by
  intro n
  induction n with
  | zero => intro i σ _ h; omega
  | succ n ih =>
    intro i σ hi hn
    rw [f_X9_copies_2_s]
    by_cases e : i = 61
    · subst e
      rw [if_pos (by decide)]
      exact ⟨σ, rfl, fun _ _ => rfl, fun _ _ => rfl, fun k q1 q2 => by omega⟩
    · rw [if_neg (show ¬ (61 : Int32) ≤ nI i from nI_ge (a := i) (b := 61) (by omega) (by omega)), nI_add, nI_add, if_pos ((ps_in (by omega)).mpr (by omega)), if_pos ((ps_in (by omega)).mpr (by omega)), vz_let, nI_clamp (by omega), nI_clamp (by omega), nI_1]
      obtain ⟨σ', e1, e2, e3, e4⟩ := ih (i + 1) (vz_up σ 109 (y + i) (σ 109 (x + i))) (by omega) (by omega)
      refine ⟨σ', e1, fun b hb => by rw [e2 b hb, vz_up_ne _ _ _ hb], fun k hk => by rw [e3 k (by omega), ps_upN _ _ (by omega)], fun k q1 q2 => ?_⟩
      by_cases hk : k = i
      · subst hk
        rw [e3 _ (by omega), ps_upS]
      · rw [e4 k (by omega) q2, ps_upN _ _ (by omega)]
/-- the reference copies a page -/
theorem ps_copies {σ : vz_I} {x y : Nat} (hx : x + 61 ≤ 305) (hy : y + 61 ≤ 305) (hd : x + 61 ≤ y ∨ y + 61 ≤ x) : ∃ σ', f_X9_copies (nI x) (nI y) σ = some σ' ∧ (∀ b, b ≠ 109 → σ' b = σ b) ∧ (∀ k, (k < y ∨ y + 61 ≤ k) → σ' 109 k = σ 109 k) ∧ (∀ k, k < 61 → σ' 109 (y + k) = σ 109 (x + k)) := by
  obtain ⟨σ', e1, e2, e3, e4⟩ := ps_copies_l hx hy hd vz_fu 0 σ (by omega) (by have : vz_fu = 1000000 := rfl; omega)
  exact ⟨σ', e1, e2, fun k hk => e3 k (by omega), fun k hk => e4 k (by omega) hk⟩
theorem ps_M_mv {A : ps_T} {f g : Nat → Int32} {x y : Nat} (hok : ps_Ok A) (h : ps_M A f x) (hg : ∀ k, k < 61 → g (y + k) = f (x + k)) : ps_M A g y := by
  obtain ⟨h1, h2, h3, h6, h7, h8⟩ := h
  obtain ⟨o1, o2, o3, -, -, o6, -⟩ := hok
  refine ⟨by rw [hg 40 (by omega)]; exact h1, by rw [hg 41 (by omega)]; exact h2, by rw [hg 42 (by omega)]; exact h3, fun m hm => ?_, fun r hr => ?_, fun i hi => ?_⟩
  · have ho := o6 m hm
    obtain ⟨g1, g2, g3, g4⟩ := h6 m hm
    refine ⟨by rw [hg m (by omega)]; exact g1, ?_, ?_, fun i hi => ?_⟩
    · rw [show y + 4 + m = y + (4 + m) by omega, hg _ (by omega), show x + (4 + m) = x + 4 + m by omega]; exact g2
    · rw [show y + 8 + m = y + (8 + m) by omega, hg _ (by omega), show x + (8 + m) = x + 8 + m by omega]; exact g3
    · rw [show y + 12 + 4 * m + i = y + (12 + 4 * m + i) by omega, hg _ (by omega), show x + (12 + 4 * m + i) = x + 12 + 4 * m + i by omega]; exact g4 i hi
  · rw [show y + 28 + r = y + (28 + r) by omega, hg _ (by omega), show y + 32 + r = y + (32 + r) by omega, hg _ (by omega), show y + 36 + r = y + (36 + r) by omega, hg _ (by omega), show x + (28 + r) = x + 28 + r by omega, show x + (32 + r) = x + 32 + r by omega, show x + (36 + r) = x + 36 + r by omega]; exact h7 r hr
  · rw [show y + 43 + i = y + (43 + i) by omega, hg _ (by omega), show y + 52 + i = y + (52 + i) by omega, hg _ (by omega), show x + (43 + i) = x + 43 + i by omega, show x + (52 + i) = x + 52 + i by omega]; exact h8 i hi
