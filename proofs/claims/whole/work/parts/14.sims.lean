def sim_feed (Rl : vz_I → Prop) : Prop := ∀ σ, Rl σ → ∀ x1 : Int32, ∃ (r : Int32) (σ1 σ2 : vz_I), f_X8_feed x1 σ = some (r, σ1) ∧ f_X9_feed x1 σ1 = some (r, σ2) ∧ Rl σ2
def sim_end (Rl : vz_I → Prop) : Prop := ∀ σ, Rl σ → ∀ x1 : Int32, ∃ (r : Int32) (σ1 σ2 : vz_I), f_X8_end x1 σ = (r, σ1) ∧ f_X9_end x1 σ1 = (r, σ2) ∧ Rl σ2
def sim_text (Rl : vz_I → Prop) : Prop := ∀ σ, Rl σ → ∃ (r : Int32) (σ1 σ2 : vz_I), f_X8_text  σ = some (r, σ1) ∧ f_X9_text  σ1 = some (r, σ2) ∧ Rl σ2
def sim_fault (Rl : vz_I → Prop) : Prop := ∀ σ, Rl σ → ∃ (r : Int32) (σ1 σ2 : vz_I), (f_X8_fault  σ = r ∧ σ = σ1) ∧ (f_X9_fault  σ1 = r ∧ σ1 = σ2) ∧ Rl σ2
def sim_rule (Rl : vz_I → Prop) : Prop := ∀ σ, Rl σ → ∀ x1 : Int32, ∃ (r : Int32) (σ1 σ2 : vz_I), (f_X8_rule x1 σ = some r ∧ σ = σ1) ∧ f_X9_rule x1 σ1 = some (r, σ2) ∧ Rl σ2
def sim_man (Rl : vz_I → Prop) : Prop := ∀ σ, Rl σ → ∀ x1 x2 : Int32, ∃ (r : Int32) (σ1 σ2 : vz_I), (f_X8_man x1 x2 σ = some r ∧ σ = σ1) ∧ (f_X9_man x1 x2 σ1 = some r ∧ σ1 = σ2) ∧ Rl σ2
def sim_walk (Rl : vz_I → Prop) : Prop := ∀ σ, Rl σ → ∀ x1 x2 : Int32, ∃ (r : Int32) (σ1 σ2 : vz_I), (f_X8_walk x1 x2 σ = some r ∧ σ = σ1) ∧ (f_X9_walk x1 x2 σ1 = some r ∧ σ1 = σ2) ∧ Rl σ2
def sim_street (Rl : vz_I → Prop) : Prop := ∀ σ, Rl σ → ∀ x1 x2 : Int32, ∃ (r : Int32) (σ1 σ2 : vz_I), (f_X8_street x1 x2 σ = some r ∧ σ = σ1) ∧ (f_X9_street x1 x2 σ1 = some r ∧ σ1 = σ2) ∧ Rl σ2
def sim_reader (Rl : vz_I → Prop) : Prop := ∀ σ, Rl σ → ∀ x1 x2 : Int32, ∃ (r : Int32) (σ1 σ2 : vz_I), (f_X8_reader x1 x2 σ = some r ∧ σ = σ1) ∧ (f_X9_reader x1 x2 σ1 = some r ∧ σ1 = σ2) ∧ Rl σ2
def sim_alter (Rl : vz_I → Prop) : Prop := ∀ σ, Rl σ → ∀ x1 x2 x3 : Int32, ∃ (r : Int32) (σ1 σ2 : vz_I), f_X8_alter x1 x2 x3 σ = some (r, σ1) ∧ f_X9_alter x1 x2 x3 σ1 = some (r, σ2) ∧ Rl σ2
def sim_detour (Rl : vz_I → Prop) : Prop := ∀ σ, Rl σ → ∀ x1 x2 x3 : Int32, ∃ (r : Int32) (σ1 σ2 : vz_I), f_X8_detour x1 x2 x3 σ = some (r, σ1) ∧ f_X9_detour x1 x2 x3 σ1 = some (r, σ2) ∧ Rl σ2
def sim_shift (Rl : vz_I → Prop) : Prop := ∀ σ, Rl σ → ∀ x1 x2 : Int32, ∃ (r : Int32) (σ1 σ2 : vz_I), f_X8_shift x1 x2 σ = some (r, σ1) ∧ f_X9_shift x1 x2 σ1 = some (r, σ2) ∧ Rl σ2
def sim_stand (Rl : vz_I → Prop) : Prop := ∀ σ, Rl σ → ∀ x1 x2 x3 : Int32, ∃ (r : Int32) (σ1 σ2 : vz_I), f_X8_stand x1 x2 x3 σ = some (r, σ1) ∧ f_X9_stand x1 x2 x3 σ1 = some (r, σ2) ∧ Rl σ2
def sim_rain (Rl : vz_I → Prop) : Prop := ∀ σ, Rl σ → ∀ x1 x2 : Int32, ∃ (r : Int32) (σ1 σ2 : vz_I), f_X8_rain x1 x2 σ = (r, σ1) ∧ f_X9_rain x1 x2 σ1 = some (r, σ2) ∧ Rl σ2
def sim_pave (Rl : vz_I → Prop) : Prop := ∀ σ, Rl σ → ∀ x1 x2 : Int32, ∃ (r : Int32) (σ1 σ2 : vz_I), f_X8_pave x1 x2 σ = some (r, σ1) ∧ f_X9_pave x1 x2 σ1 = some (r, σ2) ∧ Rl σ2
def sim_at (Rl : vz_I → Prop) : Prop := ∀ σ, Rl σ → ∀ x1 x2 : Int32, ∃ (r : Int32) (σ1 σ2 : vz_I), (f_X8_at x1 x2 σ = some r ∧ σ = σ1) ∧ (f_X9_at x1 x2 σ1 = some r ∧ σ1 = σ2) ∧ Rl σ2
def sim_reads (Rl : vz_I → Prop) : Prop := ∀ σ, Rl σ → ∀ x1 x2 x3 : Int32, ∃ (r : Int32) (σ1 σ2 : vz_I), (f_X8_reads x1 x2 x3 σ = some r ∧ σ = σ1) ∧ (f_X9_reads x1 x2 x3 σ1 = some r ∧ σ1 = σ2) ∧ Rl σ2
def sim_knows (Rl : vz_I → Prop) : Prop := ∀ σ, Rl σ → ∀ x1 x2 x3 : Int32, ∃ (r : Int32) (σ1 σ2 : vz_I), (f_X8_knows x1 x2 x3 σ = some r ∧ σ = σ1) ∧ f_X9_knows x1 x2 x3 σ1 = some (r, σ2) ∧ Rl σ2
def sim_first (Rl : vz_I → Prop) : Prop := ∀ σ, Rl σ → ∀ x1 x2 : Int32, ∃ (r : Int32) (σ1 σ2 : vz_I), (f_X8_first x1 x2 σ = some r ∧ σ = σ1) ∧ f_X9_first x1 x2 σ1 = some (r, σ2) ∧ Rl σ2
def sim_all (Rl : vz_I → Prop) : Prop := ∀ σ, Rl σ → ∀ x1 : Int32, ∃ (r : Int32) (σ1 σ2 : vz_I), (f_X8_all x1 σ = some r ∧ σ = σ1) ∧ f_X9_all x1 σ1 = some (r, σ2) ∧ Rl σ2
def sim_meet (Rl : vz_I → Prop) : Prop := ∀ σ, Rl σ → ∀ x1 x2 : Int32, ∃ (r : Int32) (σ1 σ2 : vz_I), (f_X8_meet x1 x2 σ = some r ∧ σ = σ1) ∧ (f_X9_meet x1 x2 σ1 = some r ∧ σ1 = σ2) ∧ Rl σ2
def sim_best (Rl : vz_I → Prop) : Prop := ∀ σ, Rl σ → ∀ x1 x2 : Int32, ∃ (r : Int32) (σ1 σ2 : vz_I), f_X8_best x1 x2 σ = some (r, σ1) ∧ f_X9_best x1 x2 σ1 = some (r, σ2) ∧ Rl σ2
def sim_late (Rl : vz_I → Prop) : Prop := ∀ σ, Rl σ → ∀ x1 x2 : Int32, ∃ (r : Int32) (σ1 σ2 : vz_I), f_X8_late x1 x2 σ = some (r, σ1) ∧ f_X9_late x1 x2 σ1 = some (r, σ2) ∧ Rl σ2
def sim_soon (Rl : vz_I → Prop) : Prop := ∀ σ, Rl σ → ∀ x1 x2 : Int32, ∃ (r : Int32) (σ1 σ2 : vz_I), f_X8_soon x1 x2 σ = some (r, σ1) ∧ f_X9_soon x1 x2 σ1 = some (r, σ2) ∧ Rl σ2
def sim_begin (Rl : vz_I → Prop) : Prop := ∀ σ, Rl σ → ∀ x1 x2 : Int32, ∃ (r : Int32) (σ1 σ2 : vz_I), f_X8_begin x1 x2 σ = some (r, σ1) ∧ f_X9_begin x1 x2 σ1 = some (r, σ2) ∧ Rl σ2
def sim_kind (Rl : vz_I → Prop) : Prop := ∀ σ, Rl σ → ∀ x1 x2 : Int32, ∃ (r : Int32) (σ1 σ2 : vz_I), f_X8_kind x1 x2 σ = some (r, σ1) ∧ f_X9_kind x1 x2 σ1 = some (r, σ2) ∧ Rl σ2
def sim_swap (Rl : vz_I → Prop) : Prop := ∀ σ, Rl σ → ∀ x1 : Int32, ∃ (r : Int32) (σ1 σ2 : vz_I), f_X8_swap x1 σ = some (r, σ1) ∧ f_X9_swap x1 σ1 = some (r, σ2) ∧ Rl σ2
def sim_spoil (Rl : vz_I → Prop) : Prop := ∀ σ, Rl σ → ∀ x1 x2 : Int32, ∃ (r : Int32) (σ1 σ2 : vz_I), f_X8_spoil x1 x2 σ = some (r, σ1) ∧ f_X9_spoil x1 x2 σ1 = some (r, σ2) ∧ Rl σ2
def sim_luck (Rl : vz_I → Prop) : Prop := ∀ σ, Rl σ → ∀ x1 x2 x3 x4 : Int32, ∃ (r : Int64) (σ1 σ2 : vz_I), (f_X8_luck x1 x2 x3 x4 σ = some r ∧ σ = σ1) ∧ f_X9_luck x1 x2 x3 x4 σ1 = some (r, σ2) ∧ Rl σ2
def sim_mean (Rl : vz_I → Prop) : Prop := ∀ σ, Rl σ → ∀ x1 x2 : Int32, ∃ (r : Int64) (σ1 σ2 : vz_I), (f_X8_mean x1 x2 σ = some r ∧ σ = σ1) ∧ f_X9_mean x1 x2 σ1 = some (r, σ2) ∧ Rl σ2
def sim_see (Rl : vz_I → Prop) : Prop := ∀ σ, Rl σ → ∀ x1 x2 x3 x4 : Int32, (x4 = 0 ∨ x4 = 1) → ∃ (r : Int32) (σ1 σ2 : vz_I), f_X8_see x1 x2 x3 x4 σ = some (r, σ1) ∧ f_X9_see x1 x2 x3 x4 σ1 = some (r, σ2) ∧ Rl σ2
def sim_forget (Rl : vz_I → Prop) : Prop := ∀ σ, Rl σ → ∀ x1 : Int32, ∃ (r : Int32) (σ1 σ2 : vz_I), f_X8_forget x1 σ = (r, σ1) ∧ f_X9_forget x1 σ1 = (r, σ2) ∧ Rl σ2
def sim_kinds (Rl : vz_I → Prop) : Prop := ∀ σ, Rl σ → ∀ x1 : Int32, ∃ (r : Int32) (σ1 σ2 : vz_I), f_X8_kinds x1 σ = some (r, σ1) ∧ f_X9_kinds x1 σ1 = some (r, σ2) ∧ Rl σ2
def sim_news (Rl : vz_I → Prop) : Prop := ∀ σ, Rl σ → ∀ x1 : Int32, ∃ (r : Int32) (σ1 σ2 : vz_I), f_X8_news x1 σ = some (r, σ1) ∧ f_X9_news x1 σ1 = some (r, σ2) ∧ Rl σ2
def sim_ask (Rl : vz_I → Prop) : Prop := ∀ σ, Rl σ → ∀ x1 x2 : Int32, ∃ (r : Int32) (σ1 σ2 : vz_I), f_X8_ask x1 x2 σ = some (r, σ1) ∧ f_X9_ask x1 x2 σ1 = some (r, σ2) ∧ Rl σ2
def sim_drift (Rl : vz_I → Prop) : Prop := ∀ σ, Rl σ → ∀ x1 x2 x3 : Int32, ∃ (r : Int32) (σ1 σ2 : vz_I), f_X8_drift x1 x2 x3 σ = some (r, σ1) ∧ f_X9_drift x1 x2 x3 σ1 = some (r, σ2) ∧ Rl σ2
def sim_keep (Rl : vz_I → Prop) : Prop := ∀ σ, Rl σ → ∀ x1 : Int32, ∃ (r : Int32) (σ1 σ2 : vz_I), f_X8_keep x1 σ = some (r, σ1) ∧ f_X9_keep x1 σ1 = some (r, σ2) ∧ Rl σ2
def sim_back (Rl : vz_I → Prop) : Prop := ∀ σ, Rl σ → ∀ x1 : Int32, ∃ (r : Int32) (σ1 σ2 : vz_I), f_X8_back x1 σ = some (r, σ1) ∧ f_X9_back x1 σ1 = some (r, σ2) ∧ Rl σ2
def sim_sheet (Rl : vz_I → Prop) : Prop := ∀ σ, Rl σ → ∀ x1 x2 x3 : Int32, ∃ (r : Int32) (σ1 σ2 : vz_I), f_X8_sheet x1 x2 x3 σ = some (r, σ1) ∧ f_X9_sheet x1 x2 x3 σ1 = some (r, σ2) ∧ Rl σ2
def sim_lay (Rl : vz_I → Prop) : Prop := ∀ σ, Rl σ → ∀ x1 x2 x3 : Int32, ∃ (r : Int32) (σ1 σ2 : vz_I), f_X8_lay x1 x2 x3 σ = some (r, σ1) ∧ f_X9_lay x1 x2 x3 σ1 = some (r, σ2) ∧ Rl σ2
def sim_read (Rl : vz_I → Prop) : Prop := ∀ σ, Rl σ → ∀ x1 x2 x3 x4 : Int32, ∃ (r : Int32) (σ1 σ2 : vz_I), f_X8_read x1 x2 x3 x4 σ = some (r, σ1) ∧ f_X9_read x1 x2 x3 x4 σ1 = some (r, σ2) ∧ Rl σ2
def sim_torn (Rl : vz_I → Prop) : Prop := ∀ σ, Rl σ → ∃ (r : Int32) (σ1 σ2 : vz_I), (f_X8_torn  σ = r ∧ σ = σ1) ∧ (f_X9_torn  σ1 = r ∧ σ1 = σ2) ∧ Rl σ2
def sim_count (Rl : vz_I → Prop) : Prop := ∀ σ, Rl σ → ∀ x1 : Int32, ∃ (r : Int32) (σ1 σ2 : vz_I), (f_X8_count x1 σ = some r ∧ σ = σ1) ∧ (f_X9_count x1 σ1 = some r ∧ σ1 = σ2) ∧ Rl σ2
def vz_sims (Rl : vz_I → Prop) : Prop := sim_feed Rl ∧ sim_end Rl ∧ sim_text Rl ∧ sim_fault Rl ∧ sim_rule Rl ∧ sim_man Rl ∧ sim_walk Rl ∧ sim_street Rl ∧ sim_reader Rl ∧ sim_alter Rl ∧ sim_detour Rl ∧ sim_shift Rl ∧ sim_stand Rl ∧ sim_rain Rl ∧ sim_pave Rl ∧ sim_at Rl ∧ sim_reads Rl ∧ sim_knows Rl ∧ sim_first Rl ∧ sim_all Rl ∧ sim_meet Rl ∧ sim_best Rl ∧ sim_late Rl ∧ sim_soon Rl ∧ sim_begin Rl ∧ sim_kind Rl ∧ sim_swap Rl ∧ sim_spoil Rl ∧ sim_luck Rl ∧ sim_mean Rl ∧ sim_see Rl ∧ sim_forget Rl ∧ sim_kinds Rl ∧ sim_news Rl ∧ sim_ask Rl ∧ sim_drift Rl ∧ sim_keep Rl ∧ sim_back Rl ∧ sim_sheet Rl ∧ sim_lay Rl ∧ sim_read Rl ∧ sim_torn Rl ∧ sim_count Rl
