/-! words that the functions are made of -/
def vz_fu : Nat := 1000000
def vz_let {α β : Type} (x : α) (f : α → β) : β := f x
def vz_b1 {α β : Type} (x : Option α) (f : α → Option β) : Option β := match x with
  | none => none
  | some a => f a
def vz_b2 {α β : Type} (x : Option (α × vz_I)) (f : α → vz_I → Option β) : Option β := match x with
  | none => none
  | some (a, s) => f a s
def vz_c2 {α β : Type} (x : α × vz_I) (f : α → vz_I → β) : β := f x.1 x.2
def vz_mo {β : Type} (x : Option Nat) (n : β) (f : Nat → β) : β := match x with
  | none => n
  | some a => f a
def vz_ov : Option Nat → Value
  | none => .null
  | some a => .ref a
theorem vz_let_e {α β : Type} (x : α) (f : α → β) : vz_let x f = f x := rfl
theorem vz_c2_e {α β : Type} (a : α) (s : vz_I) (f : α → vz_I → β) : vz_c2 (a, s) f = f a s := rfl
theorem vz_mo_n {β : Type} (n : β) (f : Nat → β) : vz_mo none n f = n := rfl
theorem vz_mo_s {β : Type} (a : Nat) (n : β) (f : Nat → β) : vz_mo (some a) n f = f a := rfl
theorem vz_in2 {α β : Type} {a b : α} {s t : β} (h : some (a, s) = some (b, t)) : a = b ∧ s = t := Prod.mk.inj (Option.some.inj h)
theorem vz_in3 {α β : Type} {a b : α} {s t : β} (h : (a, s) = (b, t)) : a = b ∧ s = t := Prod.mk.inj h
abbrev vz_in (i : Int32) (n : Nat) : Prop := 0 ≤ i.toInt ∧ i.toInt < (n : Int)
theorem vz_b1e {α β : Type} {x : Option α} {f : α → Option β} {r : β} (h : vz_b1 x f = some r) : ∃ a, x = some a ∧ f a = some r := by
  cases x with
  | none => cases h
  | some a => exact ⟨a, rfl, h⟩
theorem vz_b2e {α β : Type} {x : Option (α × vz_I)} {f : α → vz_I → Option β} {r : β} (h : vz_b2 x f = some r) : ∃ a s, x = some (a, s) ∧ f a s = some r := by
  cases x with
  | none => cases h
  | some a => exact ⟨a.1, a.2, rfl, h⟩
theorem vz_ifp {α : Type} {c : Prop} [Decidable c] {x : Option α} {r : α} (h : (if c then x else none) = some r) : c := by
  by_cases hc : c
  · exact hc
  · rw [if_neg hc] at h
    cases h
theorem vz_if0 {α : Type} {c : Prop} [Decidable c] {x : Option α} {r : α} (h : (if c then none else x) = some r) : ¬ c := by
  by_cases hc : c
  · rw [if_pos hc] at h
    cases h
  · exact hc
theorem vz_bn {x : Int32} (h : x = 0 ∨ x = 1) : narrow .boolean (.int x) = .int x := by
  rcases h with rfl | rfl <;> rfl
theorem vz_bf {x : Int32} (h : x = 0 ∨ x = 1) : fits .boolean (.int x) = true := by
  rcases h with rfl | rfl <;> rfl
theorem vz_in_vp {i : Int32} {n : Nat} (h : vz_in i n) : vp_in i n := vp_in_iff.mpr h
theorem vz_in_lt {i : Int32} {n : Nat} (h : vz_in i n) : i.toNatClampNeg < n := by
  have h1 := vz_in_vp h
  exact Nat.not_le.mp fun q => h1 (Or.inr q)
def vz_sb : vz_L → vz_L → Prop
  | [], _ => True
  | q :: L', L => vz_lk L q.1 = q.2 ∧ vz_sb L' L
theorem vz_sb0 {L : vz_L} : vz_sb [] L := trivial
theorem vz_sb1 {L' L : vz_L} {i : Nat} {v : Option Value} (h : vz_lk L i = v) (hs : vz_sb L' L) : vz_sb ((i, v) :: L') L := ⟨h, hs⟩
theorem vz_sb_lk {L' L : vz_L} (hs : vz_sb L' L) {i : Nat} {v : Value} (h : vz_lk L' i = some v) : vz_lk L i = some v := by
  induction L' with
  | nil => cases h
  | cons q L' ih =>
    obtain ⟨j, w⟩ := q
    by_cases hij : j = i
    · subst hij
      have e : vz_lk ((j, w) :: L') j = w := by simp [vz_lk]
      rw [e] at h
      rw [hs.1, ← h]
    · simp only [vz_lk, vz_beq_ne hij, cond_false] at h
      exact ih hs.2 h
theorem vz_sub {z : vz_Z} {μ : vz_M} {kc ks pc N : Nat} {L L' : vz_L} {st : List Value} {G : vz_G} {σ : vz_I} (h : vz_V z μ kc ks pc L' st G σ N) (hs : vz_sb L' L) : vz_V z μ kc ks pc L st G σ N :=
  fun H locs ls hP hS hL => h H locs ls hP hS ⟨hL.1, fun i v hv => hL.2 i v (vz_sb_lk hs hv)⟩
theorem vr_cVi {z : vz_Z} {μ : vz_M} {cc : ByteArray} {own : String} {dp nL pc N : Nat} {L : vz_L} {st : List Value} {G : vz_G} {σ : vz_I} (hc : vz_C z μ cc own dp nL) {idx ci dq maxL b n : Nat} {y : MethodName} {bytes : ByteArray} {ret : Option FieldType} {As rest : List Value} {x : Int32} {σ' : vz_I} (hd : decode cc pc = .ok (.invokevirtual idx, 3)) (hm : vz_MV ci y bytes maxL ret n) (hl : Cond.methodLink own idx y ∈ vz_tbl) (hG : (G b).1 = ci) (hM : vz_Con z μ.2.1 dq y bytes maxL ret (.ref b :: As) G σ N (some (.int x)) G σ' N 0 0) (hn : As.length = n) (hq : dq < dp) (hst : st = As.reverse ++ .ref b :: rest) (hr : (rest.map fun v => v.category).sum ≤ 8) (h : vz_V z μ 0 0 (pc + 3) L (.int x :: rest) G σ' N) : vz_V z μ 0 0 pc L st G σ N :=
  vr_callV hc hd hm hl hG hM hn hq hst hr ⟨Nat.zero_le _, Nat.zero_le _⟩ h
theorem vr_cSi {z : vz_Z} {μ : vz_M} {cc : ByteArray} {own : String} {dp nL pc N : Nat} {L : vz_L} {st : List Value} {G : vz_G} {σ : vz_I} (hc : vz_C z μ cc own dp nL) {idx dq maxL n : Nat} {y : MethodName} {bytes : ByteArray} {ret : Option FieldType} {As rest : List Value} {x : Int32} {σ' : vz_I} (hd : decode cc pc = .ok (.invokestatic idx, 3)) (hm : vz_MS y bytes maxL ret n) (hs : Cond.static y ∈ vz_tbl) (hl : Cond.methodLink own idx y ∈ vz_tbl) (hM : vz_Con z μ.2.1 dq y bytes maxL ret As G σ N (some (.int x)) G σ' N 0 0) (hn : As.length = n) (hq : dq < dp) (hst : st = As.reverse ++ rest) (hr : (rest.map fun v => v.category).sum ≤ 8) (h : vz_V z μ 0 0 (pc + 3) L (.int x :: rest) G σ' N) : vz_V z μ 0 0 pc L st G σ N :=
  vr_callS hc hd hm hs hl hM hn hq hst hr ⟨Nat.zero_le _, Nat.zero_le _⟩ h
theorem vr_cNi {z : vz_Z} {μ : vz_M} {cc : ByteArray} {own : String} {dp nL pc N : Nat} {L : vz_L} {st : List Value} {G : vz_G} {σ : vz_I} (hc : vz_C z μ cc own dp nL) {idx dq maxL n : Nat} {y : MethodName} {bytes : ByteArray} {ret : Option FieldType} {As rest : List Value} {x : Int32} {σ' : vz_I} (hd : decode cc pc = .ok (.invokestatic idx, 3)) (hm : vz_MS y bytes maxL ret n) (hs : Cond.static y ∈ vz_tbl) (hl : (own, idx, y) ∈ vz_nl) (hM : vz_Con z μ.2.1 dq y bytes maxL ret As G σ N (some (.int x)) G σ' N 0 0) (hn : As.length = n) (hq : dq < dp) (hst : st = As.reverse ++ rest) (hr : (rest.map fun v => v.category).sum ≤ 8) (h : vz_V z μ 0 0 (pc + 3) L (.int x :: rest) G σ' N) : vz_V z μ 0 0 pc L st G σ N :=
  vr_callN hc hd hm hs hl hM hn hq hst hr ⟨Nat.zero_le _, Nat.zero_le _⟩ h
theorem vr_cVj {z : vz_Z} {μ : vz_M} {cc : ByteArray} {own : String} {dp nL pc N : Nat} {L : vz_L} {st : List Value} {G : vz_G} {σ : vz_I} (hc : vz_C z μ cc own dp nL) {idx ci dq maxL b n : Nat} {y : MethodName} {bytes : ByteArray} {ret : Option FieldType} {As rest : List Value} {x : Int64} {σ' : vz_I} (hd : decode cc pc = .ok (.invokevirtual idx, 3)) (hm : vz_MV ci y bytes maxL ret n) (hl : Cond.methodLink own idx y ∈ vz_tbl) (hG : (G b).1 = ci) (hM : vz_Con z μ.2.1 dq y bytes maxL ret (.ref b :: As) G σ N (some (.long x)) G σ' N 0 0) (hn : As.length = n) (hq : dq < dp) (hst : st = As.reverse ++ .ref b :: rest) (hr : (rest.map fun v => v.category).sum ≤ 8) (h : vz_V z μ 0 0 (pc + 3) L (.long x :: rest) G σ' N) : vz_V z μ 0 0 pc L st G σ N :=
  vr_callV hc hd hm hl hG hM hn hq hst hr ⟨Nat.zero_le _, Nat.zero_le _⟩ h
theorem vr_cSj {z : vz_Z} {μ : vz_M} {cc : ByteArray} {own : String} {dp nL pc N : Nat} {L : vz_L} {st : List Value} {G : vz_G} {σ : vz_I} (hc : vz_C z μ cc own dp nL) {idx dq maxL n : Nat} {y : MethodName} {bytes : ByteArray} {ret : Option FieldType} {As rest : List Value} {x : Int64} {σ' : vz_I} (hd : decode cc pc = .ok (.invokestatic idx, 3)) (hm : vz_MS y bytes maxL ret n) (hs : Cond.static y ∈ vz_tbl) (hl : Cond.methodLink own idx y ∈ vz_tbl) (hM : vz_Con z μ.2.1 dq y bytes maxL ret As G σ N (some (.long x)) G σ' N 0 0) (hn : As.length = n) (hq : dq < dp) (hst : st = As.reverse ++ rest) (hr : (rest.map fun v => v.category).sum ≤ 8) (h : vz_V z μ 0 0 (pc + 3) L (.long x :: rest) G σ' N) : vz_V z μ 0 0 pc L st G σ N :=
  vr_callS hc hd hm hs hl hM hn hq hst hr ⟨Nat.zero_le _, Nat.zero_le _⟩ h
theorem vr_cNj {z : vz_Z} {μ : vz_M} {cc : ByteArray} {own : String} {dp nL pc N : Nat} {L : vz_L} {st : List Value} {G : vz_G} {σ : vz_I} (hc : vz_C z μ cc own dp nL) {idx dq maxL n : Nat} {y : MethodName} {bytes : ByteArray} {ret : Option FieldType} {As rest : List Value} {x : Int64} {σ' : vz_I} (hd : decode cc pc = .ok (.invokestatic idx, 3)) (hm : vz_MS y bytes maxL ret n) (hs : Cond.static y ∈ vz_tbl) (hl : (own, idx, y) ∈ vz_nl) (hM : vz_Con z μ.2.1 dq y bytes maxL ret As G σ N (some (.long x)) G σ' N 0 0) (hn : As.length = n) (hq : dq < dp) (hst : st = As.reverse ++ rest) (hr : (rest.map fun v => v.category).sum ≤ 8) (h : vz_V z μ 0 0 (pc + 3) L (.long x :: rest) G σ' N) : vz_V z μ 0 0 pc L st G σ N :=
  vr_callN hc hd hm hs hl hM hn hq hst hr ⟨Nat.zero_le _, Nat.zero_le _⟩ h
theorem vr_cVn {z : vz_Z} {μ : vz_M} {cc : ByteArray} {own : String} {dp nL pc N : Nat} {L : vz_L} {st : List Value} {G : vz_G} {σ : vz_I} (hc : vz_C z μ cc own dp nL) {idx ci dq maxL b n : Nat} {y : MethodName} {bytes : ByteArray} {ret : Option FieldType} {As rest : List Value} {σ' : vz_I} (hd : decode cc pc = .ok (.invokevirtual idx, 3)) (hm : vz_MV ci y bytes maxL ret n) (hl : Cond.methodLink own idx y ∈ vz_tbl) (hG : (G b).1 = ci) (hM : vz_Con z μ.2.1 dq y bytes maxL ret (.ref b :: As) G σ N (some .null) G σ' N 0 0) (hn : As.length = n) (hq : dq < dp) (hst : st = As.reverse ++ .ref b :: rest) (hr : (rest.map fun v => v.category).sum ≤ 8) (h : vz_V z μ 0 0 (pc + 3) L (.null :: rest) G σ' N) : vz_V z μ 0 0 pc L st G σ N :=
  vr_callV hc hd hm hl hG hM hn hq hst hr ⟨Nat.zero_le _, Nat.zero_le _⟩ h
theorem vr_cSn {z : vz_Z} {μ : vz_M} {cc : ByteArray} {own : String} {dp nL pc N : Nat} {L : vz_L} {st : List Value} {G : vz_G} {σ : vz_I} (hc : vz_C z μ cc own dp nL) {idx dq maxL n : Nat} {y : MethodName} {bytes : ByteArray} {ret : Option FieldType} {As rest : List Value} {σ' : vz_I} (hd : decode cc pc = .ok (.invokestatic idx, 3)) (hm : vz_MS y bytes maxL ret n) (hs : Cond.static y ∈ vz_tbl) (hl : Cond.methodLink own idx y ∈ vz_tbl) (hM : vz_Con z μ.2.1 dq y bytes maxL ret As G σ N (some .null) G σ' N 0 0) (hn : As.length = n) (hq : dq < dp) (hst : st = As.reverse ++ rest) (hr : (rest.map fun v => v.category).sum ≤ 8) (h : vz_V z μ 0 0 (pc + 3) L (.null :: rest) G σ' N) : vz_V z μ 0 0 pc L st G σ N :=
  vr_callS hc hd hm hs hl hM hn hq hst hr ⟨Nat.zero_le _, Nat.zero_le _⟩ h
theorem vr_cNn {z : vz_Z} {μ : vz_M} {cc : ByteArray} {own : String} {dp nL pc N : Nat} {L : vz_L} {st : List Value} {G : vz_G} {σ : vz_I} (hc : vz_C z μ cc own dp nL) {idx dq maxL n : Nat} {y : MethodName} {bytes : ByteArray} {ret : Option FieldType} {As rest : List Value} {σ' : vz_I} (hd : decode cc pc = .ok (.invokestatic idx, 3)) (hm : vz_MS y bytes maxL ret n) (hs : Cond.static y ∈ vz_tbl) (hl : (own, idx, y) ∈ vz_nl) (hM : vz_Con z μ.2.1 dq y bytes maxL ret As G σ N (some .null) G σ' N 0 0) (hn : As.length = n) (hq : dq < dp) (hst : st = As.reverse ++ rest) (hr : (rest.map fun v => v.category).sum ≤ 8) (h : vz_V z μ 0 0 (pc + 3) L (.null :: rest) G σ' N) : vz_V z μ 0 0 pc L st G σ N :=
  vr_callN hc hd hm hs hl hM hn hq hst hr ⟨Nat.zero_le _, Nat.zero_le _⟩ h
theorem vr_cVa {z : vz_Z} {μ : vz_M} {cc : ByteArray} {own : String} {dp nL pc N : Nat} {L : vz_L} {st : List Value} {G : vz_G} {σ : vz_I} (hc : vz_C z μ cc own dp nL) {idx ci dq maxL b n : Nat} {y : MethodName} {bytes : ByteArray} {ret : Option FieldType} {As rest : List Value} {x : Nat} {σ' : vz_I} (hd : decode cc pc = .ok (.invokevirtual idx, 3)) (hm : vz_MV ci y bytes maxL ret n) (hl : Cond.methodLink own idx y ∈ vz_tbl) (hG : (G b).1 = ci) (hM : vz_Con z μ.2.1 dq y bytes maxL ret (.ref b :: As) G σ N (some (.ref x)) G σ' N 0 0) (hn : As.length = n) (hq : dq < dp) (hst : st = As.reverse ++ .ref b :: rest) (hr : (rest.map fun v => v.category).sum ≤ 8) (h : vz_V z μ 0 0 (pc + 3) L (.ref x :: rest) G σ' N) : vz_V z μ 0 0 pc L st G σ N :=
  vr_callV hc hd hm hl hG hM hn hq hst hr ⟨Nat.zero_le _, Nat.zero_le _⟩ h
theorem vr_cSa {z : vz_Z} {μ : vz_M} {cc : ByteArray} {own : String} {dp nL pc N : Nat} {L : vz_L} {st : List Value} {G : vz_G} {σ : vz_I} (hc : vz_C z μ cc own dp nL) {idx dq maxL n : Nat} {y : MethodName} {bytes : ByteArray} {ret : Option FieldType} {As rest : List Value} {x : Nat} {σ' : vz_I} (hd : decode cc pc = .ok (.invokestatic idx, 3)) (hm : vz_MS y bytes maxL ret n) (hs : Cond.static y ∈ vz_tbl) (hl : Cond.methodLink own idx y ∈ vz_tbl) (hM : vz_Con z μ.2.1 dq y bytes maxL ret As G σ N (some (.ref x)) G σ' N 0 0) (hn : As.length = n) (hq : dq < dp) (hst : st = As.reverse ++ rest) (hr : (rest.map fun v => v.category).sum ≤ 8) (h : vz_V z μ 0 0 (pc + 3) L (.ref x :: rest) G σ' N) : vz_V z μ 0 0 pc L st G σ N :=
  vr_callS hc hd hm hs hl hM hn hq hst hr ⟨Nat.zero_le _, Nat.zero_le _⟩ h
theorem vr_cNa {z : vz_Z} {μ : vz_M} {cc : ByteArray} {own : String} {dp nL pc N : Nat} {L : vz_L} {st : List Value} {G : vz_G} {σ : vz_I} (hc : vz_C z μ cc own dp nL) {idx dq maxL n : Nat} {y : MethodName} {bytes : ByteArray} {ret : Option FieldType} {As rest : List Value} {x : Nat} {σ' : vz_I} (hd : decode cc pc = .ok (.invokestatic idx, 3)) (hm : vz_MS y bytes maxL ret n) (hs : Cond.static y ∈ vz_tbl) (hl : (own, idx, y) ∈ vz_nl) (hM : vz_Con z μ.2.1 dq y bytes maxL ret As G σ N (some (.ref x)) G σ' N 0 0) (hn : As.length = n) (hq : dq < dp) (hst : st = As.reverse ++ rest) (hr : (rest.map fun v => v.category).sum ≤ 8) (h : vz_V z μ 0 0 (pc + 3) L (.ref x :: rest) G σ' N) : vz_V z μ 0 0 pc L st G σ N :=
  vr_callN hc hd hm hs hl hM hn hq hst hr ⟨Nat.zero_le _, Nat.zero_le _⟩ h
theorem vr_cVv {z : vz_Z} {μ : vz_M} {cc : ByteArray} {own : String} {dp nL pc N : Nat} {L : vz_L} {st : List Value} {G : vz_G} {σ : vz_I} (hc : vz_C z μ cc own dp nL) {idx ci dq maxL b n : Nat} {y : MethodName} {bytes : ByteArray} {ret : Option FieldType} {As rest : List Value} {σ' : vz_I} (hd : decode cc pc = .ok (.invokevirtual idx, 3)) (hm : vz_MV ci y bytes maxL ret n) (hl : Cond.methodLink own idx y ∈ vz_tbl) (hG : (G b).1 = ci) (hM : vz_Con z μ.2.1 dq y bytes maxL ret (.ref b :: As) G σ N none G σ' N 0 0) (hn : As.length = n) (hq : dq < dp) (hst : st = As.reverse ++ .ref b :: rest) (hr : (rest.map fun v => v.category).sum ≤ 8) (h : vz_V z μ 0 0 (pc + 3) L rest G σ' N) : vz_V z μ 0 0 pc L st G σ N :=
  vr_callV hc hd hm hl hG hM hn hq hst hr ⟨Nat.zero_le _, Nat.zero_le _⟩ h
theorem vr_cSv {z : vz_Z} {μ : vz_M} {cc : ByteArray} {own : String} {dp nL pc N : Nat} {L : vz_L} {st : List Value} {G : vz_G} {σ : vz_I} (hc : vz_C z μ cc own dp nL) {idx dq maxL n : Nat} {y : MethodName} {bytes : ByteArray} {ret : Option FieldType} {As rest : List Value} {σ' : vz_I} (hd : decode cc pc = .ok (.invokestatic idx, 3)) (hm : vz_MS y bytes maxL ret n) (hs : Cond.static y ∈ vz_tbl) (hl : Cond.methodLink own idx y ∈ vz_tbl) (hM : vz_Con z μ.2.1 dq y bytes maxL ret As G σ N none G σ' N 0 0) (hn : As.length = n) (hq : dq < dp) (hst : st = As.reverse ++ rest) (hr : (rest.map fun v => v.category).sum ≤ 8) (h : vz_V z μ 0 0 (pc + 3) L rest G σ' N) : vz_V z μ 0 0 pc L st G σ N :=
  vr_callS hc hd hm hs hl hM hn hq hst hr ⟨Nat.zero_le _, Nat.zero_le _⟩ h
theorem vr_cNv {z : vz_Z} {μ : vz_M} {cc : ByteArray} {own : String} {dp nL pc N : Nat} {L : vz_L} {st : List Value} {G : vz_G} {σ : vz_I} (hc : vz_C z μ cc own dp nL) {idx dq maxL n : Nat} {y : MethodName} {bytes : ByteArray} {ret : Option FieldType} {As rest : List Value} {σ' : vz_I} (hd : decode cc pc = .ok (.invokestatic idx, 3)) (hm : vz_MS y bytes maxL ret n) (hs : Cond.static y ∈ vz_tbl) (hl : (own, idx, y) ∈ vz_nl) (hM : vz_Con z μ.2.1 dq y bytes maxL ret As G σ N none G σ' N 0 0) (hn : As.length = n) (hq : dq < dp) (hst : st = As.reverse ++ rest) (hr : (rest.map fun v => v.category).sum ≤ 8) (h : vz_V z μ 0 0 (pc + 3) L rest G σ' N) : vz_V z μ 0 0 pc L st G σ N :=
  vr_callN hc hd hm hs hl hM hn hq hst hr ⟨Nat.zero_le _, Nat.zero_le _⟩ h
def vz_max (x y : Int32) : Int32 := if x < y then y else x
def vz_min (x y : Int32) : Int32 := if y < x then y else x
theorem vr_mmax {z : vz_Z} {μ : vz_M} {cc : ByteArray} {own : String} {dp nL pc N : Nat} {L : vz_L} {G : vz_G} {σ : vz_I} (hc : vz_C z μ cc own dp nL) {idx : Nat} {x y : Int32} {rest : List Value} (hd : decode cc pc = .ok (.invokestatic idx, 3)) (hl : Cond.methodLink own idx Lib.Math.max.name ∈ vz_tbl) (hw : Cond.static Lib.Math.max.name ∈ vz_tbl ∧ Cond.initialized "java/lang/Math" ∈ vz_tbl ∧ Cond.code Lib.Math.max.name Lib.Math.max.code 2 (some .int) ∈ vz_tbl) (hq : 0 < dp) (hr : (rest.map fun v => v.category).sum ≤ 8) (h : vz_V z μ 0 0 (pc + 3) L (.int (vz_max x y) :: rest) G σ N) : vz_V z μ 0 0 pc L (.int y :: .int x :: rest) G σ N := by
  intro H locs ls hP hS hL
  have h1 := hc.2.2.2.2.2.2.2.1
  have h2 := hc.2.2.2.2.2.2.2.2.1
  exact va_mmax hc.1 hc.2.1 (hc.2.2.1.trans hL.1.1.symm) hc.2.2.2.1 (hc.2.2.2.2.1 _ hl) (hc.2.2.2.2.1 _ hw.1) (hc.2.2.2.2.1 _ hw.2.1) (hc.2.2.2.2.1 _ hw.2.2) (by omega) (by rw [vz_cat]; omega) (Nat.zero_le _) (Nat.zero_le _) hd (h H locs ls hP hS hL)
theorem vr_mmin {z : vz_Z} {μ : vz_M} {cc : ByteArray} {own : String} {dp nL pc N : Nat} {L : vz_L} {G : vz_G} {σ : vz_I} (hc : vz_C z μ cc own dp nL) {idx : Nat} {x y : Int32} {rest : List Value} (hd : decode cc pc = .ok (.invokestatic idx, 3)) (hl : Cond.methodLink own idx Lib.Math.min.name ∈ vz_tbl) (hw : Cond.static Lib.Math.min.name ∈ vz_tbl ∧ Cond.initialized "java/lang/Math" ∈ vz_tbl ∧ Cond.code Lib.Math.min.name Lib.Math.min.code 2 (some .int) ∈ vz_tbl) (hq : 0 < dp) (hr : (rest.map fun v => v.category).sum ≤ 8) (h : vz_V z μ 0 0 (pc + 3) L (.int (vz_min x y) :: rest) G σ N) : vz_V z μ 0 0 pc L (.int y :: .int x :: rest) G σ N := by
  intro H locs ls hP hS hL
  have h1 := hc.2.2.2.2.2.2.2.1
  have h2 := hc.2.2.2.2.2.2.2.2.1
  exact va_mmin hc.1 hc.2.1 (hc.2.2.1.trans hL.1.1.symm) hc.2.2.2.1 (hc.2.2.2.2.1 _ hl) (hc.2.2.2.2.1 _ hw.1) (hc.2.2.2.2.1 _ hw.2.1) (hc.2.2.2.2.1 _ hw.2.2) (by omega) (by rw [vz_cat]; omega) (Nat.zero_le _) (Nat.zero_le _) hd (h H locs ls hP hS hL)
