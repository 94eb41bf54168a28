/-! pure: the start -/
set_option maxRecDepth 20000 in
theorem ps_R0 : ps_R vs_0 := by
  refine ⟨⟨pl_0, pl_Ok0, ⟨?_, ?_, ?_, ?_, ?_, fun m (h : m < 0) => absurd h (by omega), fun r (h : r < 0) => absurd h (by omega), fun i (h : i < 0) => absurd h (by omega)⟩, ⟨?_, ?_, ?_, fun m (h : m < 0) => absurd h (by omega), fun r (h : r < 0) => absurd h (by omega), fun i (h : i < 0) => absurd h (by omega)⟩, ?_, ?_, ⟨0, by omega, ?_, ?_, fun i hi => by omega⟩, Or.inl ⟨?_, ?_⟩, Or.inl ⟨?_, ?_⟩⟩, ⟨0, by omega, ?_, ?_, fun i hi => by omega⟩, ⟨?_, ?_⟩, fun k hk => ⟨Or.inl ⟨?_, ?_⟩, ⟨0, by omega, ?_, ?_⟩, fun i hi => ?_⟩, ?_, ?_, ?_⟩
  · show vs_0 21 0 = nI 0; decide +kernel
  · show vs_0 21 1 = nI 0; decide +kernel
  · show vs_0 21 2 = nI 0; decide +kernel
  · show vs_0 21 3 = nI 0; decide +kernel
  · show vs_0 21 4 = nI 0; decide +kernel
  · show vs_0 109 40 = nI 0; decide +kernel
  · show vs_0 109 41 = nI 0; decide +kernel
  · show vs_0 109 42 = nI 0; decide +kernel
  · show vs_0 108 1 = nI 0; decide +kernel
  · show vs_0 108 2 = nI 0; decide +kernel
  · show vs_0 57 0 = nI 0; decide +kernel
  · show vs_0 108 24 = nI 0; decide +kernel
  · show vs_0 56 0 = 0; decide +kernel
  · show vs_0 119 0 = 0; decide +kernel
  · show vs_0 56 1 = 0; decide +kernel
  · show vs_0 119 1 = 0; decide +kernel
  · show vs_0 2 0 = nI 0; decide +kernel
  · show vs_0 108 8 = nI 0; decide +kernel
  · show vs_0 1 7 = vs_0 108 9; decide +kernel
  · show vs_0 0 10 = vs_0 108 30; decide +kernel
  · have q : ∀ k, k < 4 → vs_0 (100 + 2 * k) 0 = -4 := by decide +kernel
    exact q k hk
  · have q : ∀ k, k < 4 → vs_0 120 k = -4 := by decide +kernel
    exact q k hk
  · have q : ∀ k, k < 4 → vs_0 (100 + 2 * k) 1 = nI 0 := by decide +kernel
    exact q k hk
  · have q : ∀ k, k < 4 → vs_0 121 k = nI 0 := by decide +kernel
    exact q k hk
  · have q : ∀ k, k < 4 → ∀ i, i < 40 → vs_0 (101 + 2 * k) i = vs_0 122 (40 * k + i) := by decide +kernel
    exact q k hk i hi
  · decide +kernel
  · decide +kernel
  · show vs_0 108 18 = 0; decide +kernel
theorem ps_sims : vz_sims ps_R := ⟨sm_feed, sm_end, sm_text, sm_fault, sm_rule, sm_man, sm_walk, sm_street, sm_reader, sm_alter, sm_detour, sm_shift, sm_stand, sm_rain, sm_pave, sm_at, sm_reads, sm_knows, sm_first, sm_all, sm_meet, sm_best, sm_late, sm_soon, sm_begin, sm_kind, sm_swap, sm_spoil, sm_luck, sm_mean, sm_see, sm_forget, sm_kinds, sm_news, sm_ask, sm_drift, sm_keep, sm_back, sm_sheet, sm_lay, sm_read, sm_torn, sm_count⟩
