section VZR
variable {z : vz_Z} {μ : vz_M} {cc : ByteArray} {own : String} {dp nL kc ks pc N : Nat} {L : vz_L} {st : List Value} {G : vz_G} {σ : vz_I}
theorem vr_iconst (hc : vz_C z μ cc own dp nL) {n : Int} (hd : decode cc pc = .ok (.iconst n, 1)) (v : Int32) (hv : Int32.ofInt n = v) (h : vz_V z μ kc ks (pc + 1) L (.int v :: st) G σ N) : vz_V z μ kc ks pc L st G σ N :=
  fun H locs ls hP hS hL => lv_iconst hc.1 hc.2.1 hd hv (h H locs ls hP hS hL)
theorem vr_bipush (hc : vz_C z μ cc own dp nL) {n : Int} (hd : decode cc pc = .ok (.bipush n, 2)) (v : Int32) (hv : (Int8.ofInt n).toInt32 = v) (h : vz_V z μ kc ks (pc + 2) L (.int v :: st) G σ N) : vz_V z μ kc ks pc L st G σ N :=
  fun H locs ls hP hS hL => lv_bipush hc.1 hc.2.1 hd hv (h H locs ls hP hS hL)
theorem vr_sipush (hc : vz_C z μ cc own dp nL) {n : Int} (hd : decode cc pc = .ok (.sipush n, 3)) (v : Int32) (hv : (Int16.ofInt n).toInt32 = v) (h : vz_V z μ kc ks (pc + 3) L (.int v :: st) G σ N) : vz_V z μ kc ks pc L st G σ N :=
  fun H locs ls hP hS hL => lv_sipush hc.1 hc.2.1 hd hv (h H locs ls hP hS hL)
theorem vr_lconst (hc : vz_C z μ cc own dp nL) {n : Fin 2} (hd : decode cc pc = .ok (.lconst n, 1)) (v : Int64) (hv : Int64.ofNat (n : Nat) = v) (h : vz_V z μ kc ks (pc + 1) L (.long v :: st) G σ N) : vz_V z μ kc ks pc L st G σ N :=
  fun H locs ls hP hS hL => lv_lconst hc.1 hc.2.1 hd hv (h H locs ls hP hS hL)
theorem vr_null (hc : vz_C z μ cc own dp nL) (hd : decode cc pc = .ok (.aconst_null, 1)) (h : vz_V z μ kc ks (pc + 1) L (.null :: st) G σ N) : vz_V z μ kc ks pc L st G σ N :=
  fun H locs ls hP hS hL => lv_null hc.1 hc.2.1 hd (h H locs ls hP hS hL)
theorem vr_ldc (hc : vz_C z μ cc own dp nL) {idx : Nat} (hd : decode cc pc = .ok (.ldc idx, 2)) (v : Int32) (hm : Cond.constant own idx v ∈ vz_tbl) (h : vz_V z μ kc ks (pc + 2) L (.int v :: st) G σ N) : vz_V z μ kc ks pc L st G σ N :=
  fun H locs ls hP hS hL => lv_ldc hc.1 hc.2.1 hc.2.2.2.1 (hc.2.2.2.2.1 _ hm) hd (h H locs ls hP hS hL)
theorem vr_ldcw (hc : vz_C z μ cc own dp nL) {idx : Nat} (hd : decode cc pc = .ok (.ldc_w idx, 3)) (v : Int32) (hm : Cond.constant own idx v ∈ vz_tbl) (h : vz_V z μ kc ks (pc + 3) L (.int v :: st) G σ N) : vz_V z μ kc ks pc L st G σ N :=
  fun H locs ls hP hS hL => lv_ldcw hc.1 hc.2.1 hc.2.2.2.1 (hc.2.2.2.2.1 _ hm) hd (h H locs ls hP hS hL)
theorem vr_ldc2 (hc : vz_C z μ cc own dp nL) {idx : Nat} (hd : decode cc pc = .ok (.ldc2_w idx, 3)) (v : Int64) (hm : Cond.constantLong own idx v ∈ vz_tbl) (h : vz_V z μ kc ks (pc + 3) L (.long v :: st) G σ N) : vz_V z μ kc ks pc L st G σ N :=
  fun H locs ls hP hS hL => lv_ldc2 hc.1 hc.2.1 hc.2.2.2.1 (hc.2.2.2.2.1 _ hm) hd (h H locs ls hP hS hL)
theorem vr_iload_n (hc : vz_C z μ cc own dp nL) {k : Fin 4} (hd : decode cc pc = .ok (.iload_n k, 1)) {x : Int32} (hl : vz_lk L (k : Nat) = some (.int x)) (h : vz_V z μ kc ks (pc + 1) L (.int x :: st) G σ N) : vz_V z μ kc ks pc L st G σ N :=
  fun H locs ls hP hS hL => lv_iload_n hc.1 hc.2.1 hd rfl (hL.2 _ _ hl) (h H locs ls hP hS hL)
theorem vr_iload (hc : vz_C z μ cc own dp nL) {i : Nat} (hd : decode cc pc = .ok (.iload i, 2)) {x : Int32} (hl : vz_lk L i = some (.int x)) (h : vz_V z μ kc ks (pc + 2) L (.int x :: st) G σ N) : vz_V z μ kc ks pc L st G σ N :=
  fun H locs ls hP hS hL => lv_iload hc.1 hc.2.1 hd (hL.2 _ _ hl) (h H locs ls hP hS hL)
theorem vr_lload_n (hc : vz_C z μ cc own dp nL) {k : Fin 4} (hd : decode cc pc = .ok (.lload_n k, 1)) {x : Int64} (hl : vz_lk L (k : Nat) = some (.long x)) (h : vz_V z μ kc ks (pc + 1) L (.long x :: st) G σ N) : vz_V z μ kc ks pc L st G σ N :=
  fun H locs ls hP hS hL => lv_lload_n hc.1 hc.2.1 hd rfl (hL.2 _ _ hl) (h H locs ls hP hS hL)
theorem vr_lload (hc : vz_C z μ cc own dp nL) {i : Nat} (hd : decode cc pc = .ok (.lload i, 2)) {x : Int64} (hl : vz_lk L i = some (.long x)) (h : vz_V z μ kc ks (pc + 2) L (.long x :: st) G σ N) : vz_V z μ kc ks pc L st G σ N :=
  fun H locs ls hP hS hL => lv_lload hc.1 hc.2.1 hd (hL.2 _ _ hl) (h H locs ls hP hS hL)
theorem vr_aload_n (hc : vz_C z μ cc own dp nL) {k : Fin 4} (hd : decode cc pc = .ok (.aload_n k, 1)) {a : Nat} (hl : vz_lk L (k : Nat) = some (.ref a)) (h : vz_V z μ kc ks (pc + 1) L (.ref a :: st) G σ N) : vz_V z μ kc ks pc L st G σ N :=
  fun H locs ls hP hS hL => lv_aload_n hc.1 hc.2.1 hd rfl (hL.2 _ _ hl) (h H locs ls hP hS hL)
theorem vr_aload (hc : vz_C z μ cc own dp nL) {i : Nat} (hd : decode cc pc = .ok (.aload i, 2)) {a : Nat} (hl : vz_lk L i = some (.ref a)) (h : vz_V z μ kc ks (pc + 2) L (.ref a :: st) G σ N) : vz_V z μ kc ks pc L st G σ N :=
  fun H locs ls hP hS hL => lv_aload hc.1 hc.2.1 hd (hL.2 _ _ hl) (h H locs ls hP hS hL)
theorem vr_aloadN_n (hc : vz_C z μ cc own dp nL) {k : Fin 4} (hd : decode cc pc = .ok (.aload_n k, 1))  (hl : vz_lk L (k : Nat) = some (.null)) (h : vz_V z μ kc ks (pc + 1) L (.null :: st) G σ N) : vz_V z μ kc ks pc L st G σ N :=
  fun H locs ls hP hS hL => lv_aload_nN hc.1 hc.2.1 hd rfl (hL.2 _ _ hl) (h H locs ls hP hS hL)
theorem vr_aloadN (hc : vz_C z μ cc own dp nL) {i : Nat} (hd : decode cc pc = .ok (.aload i, 2))  (hl : vz_lk L i = some (.null)) (h : vz_V z μ kc ks (pc + 2) L (.null :: st) G σ N) : vz_V z μ kc ks pc L st G σ N :=
  fun H locs ls hP hS hL => lv_aloadN hc.1 hc.2.1 hd (hL.2 _ _ hl) (h H locs ls hP hS hL)
theorem vr_istore_n (hc : vz_C z μ cc own dp nL) {k : Fin 4} (hd : decode cc pc = .ok (.istore_n k, 1)) {x : Int32} (hb : (k : Nat) < nL) (hn : vz_nc L (k : Nat) = true) (h : vz_V z μ kc ks (pc + 1) (((k : Nat), some (.int x)) :: L) st G σ N) : vz_V z μ kc ks pc L (.int x :: st) G σ N :=
  fun H locs ls hP hS hL => lv_istore_n hc.1 hc.2.1 hd rfl (vz_vis_has hL) (hc.2.2.2.2.2.2.2.2.2.symm ▸ hb) rfl (fun ls' hl => h H locs ls' hP hS (vz_st1 rfl hn hl))
theorem vr_istore (hc : vz_C z μ cc own dp nL) {i : Nat} (hd : decode cc pc = .ok (.istore i, 2)) {x : Int32} (hb : i < nL) (hn : vz_nc L i = true) (h : vz_V z μ kc ks (pc + 2) ((i, some (.int x)) :: L) st G σ N) : vz_V z μ kc ks pc L (.int x :: st) G σ N :=
  fun H locs ls hP hS hL => lv_istore hc.1 hc.2.1 hd (vz_vis_has hL) (hc.2.2.2.2.2.2.2.2.2.symm ▸ hb) rfl (fun ls' hl => h H locs ls' hP hS (vz_st1 rfl hn hl))
theorem vr_astore_n (hc : vz_C z μ cc own dp nL) {k : Fin 4} (hd : decode cc pc = .ok (.astore_n k, 1)) {a : Nat} (hb : (k : Nat) < nL) (hn : vz_nc L (k : Nat) = true) (h : vz_V z μ kc ks (pc + 1) (((k : Nat), some (.ref a)) :: L) st G σ N) : vz_V z μ kc ks pc L (.ref a :: st) G σ N :=
  fun H locs ls hP hS hL => lv_astore_n hc.1 hc.2.1 hd rfl (vz_vis_has hL) (hc.2.2.2.2.2.2.2.2.2.symm ▸ hb) rfl (fun ls' hl => h H locs ls' hP hS (vz_st1 rfl hn hl))
theorem vr_astore (hc : vz_C z μ cc own dp nL) {i : Nat} (hd : decode cc pc = .ok (.astore i, 2)) {a : Nat} (hb : i < nL) (hn : vz_nc L i = true) (h : vz_V z μ kc ks (pc + 2) ((i, some (.ref a)) :: L) st G σ N) : vz_V z μ kc ks pc L (.ref a :: st) G σ N :=
  fun H locs ls hP hS hL => lv_astore hc.1 hc.2.1 hd (vz_vis_has hL) (hc.2.2.2.2.2.2.2.2.2.symm ▸ hb) rfl (fun ls' hl => h H locs ls' hP hS (vz_st1 rfl hn hl))
theorem vr_astoreN_n (hc : vz_C z μ cc own dp nL) {k : Fin 4} (hd : decode cc pc = .ok (.astore_n k, 1))  (hb : (k : Nat) < nL) (hn : vz_nc L (k : Nat) = true) (h : vz_V z μ kc ks (pc + 1) (((k : Nat), some (.null)) :: L) st G σ N) : vz_V z μ kc ks pc L (.null :: st) G σ N :=
  fun H locs ls hP hS hL => lv_astore_nN hc.1 hc.2.1 hd rfl (vz_vis_has hL) (hc.2.2.2.2.2.2.2.2.2.symm ▸ hb) rfl (fun ls' hl => h H locs ls' hP hS (vz_st1 rfl hn hl))
theorem vr_astoreN (hc : vz_C z μ cc own dp nL) {i : Nat} (hd : decode cc pc = .ok (.astore i, 2))  (hb : i < nL) (hn : vz_nc L i = true) (h : vz_V z μ kc ks (pc + 2) ((i, some (.null)) :: L) st G σ N) : vz_V z μ kc ks pc L (.null :: st) G σ N :=
  fun H locs ls hP hS hL => lv_astoreN hc.1 hc.2.1 hd (vz_vis_has hL) (hc.2.2.2.2.2.2.2.2.2.symm ▸ hb) rfl (fun ls' hl => h H locs ls' hP hS (vz_st1 rfl hn hl))
theorem vr_lstore_n (hc : vz_C z μ cc own dp nL) {k : Fin 4} (hd : decode cc pc = .ok (.lstore_n k, 1)) {x : Int64} (hb : (k : Nat) + 1 < nL) (hn : vz_nc L (k : Nat) = true) (h : vz_V z μ kc ks (pc + 1) (((k : Nat), some (.long x)) :: ((k : Nat) + 1, none) :: L) st G σ N) : vz_V z μ kc ks pc L (.long x :: st) G σ N :=
  fun H locs ls hP hS hL => lv_lstore_n hc.1 hc.2.1 hd rfl (vz_vis_has hL) (hc.2.2.2.2.2.2.2.2.2.symm ▸ hb) rfl (fun ls' hl => h H locs ls' hP hS (vz_st2 hn hl))
theorem vr_lstore (hc : vz_C z μ cc own dp nL) {i : Nat} (hd : decode cc pc = .ok (.lstore i, 2)) {x : Int64} (hb : i + 1 < nL) (hn : vz_nc L i = true) (h : vz_V z μ kc ks (pc + 2) ((i, some (.long x)) :: (i + 1, none) :: L) st G σ N) : vz_V z μ kc ks pc L (.long x :: st) G σ N :=
  fun H locs ls hP hS hL => lv_lstore hc.1 hc.2.1 hd (vz_vis_has hL) (hc.2.2.2.2.2.2.2.2.2.symm ▸ hb) rfl (fun ls' hl => h H locs ls' hP hS (vz_st2 hn hl))
theorem vr_iinc (hc : vz_C z μ cc own dp nL) {i : Nat} {n : Int} (hd : decode cc pc = .ok (.iinc i n, 3)) {x : Int32} (v : Int32) (hv : Int32.ofInt n = v) (hl : vz_lk L i = some (.int x)) (hb : i < nL) (hn : vz_nc L i = true) (h : vz_V z μ kc ks (pc + 3) ((i, some (.int (x + v))) :: L) st G σ N) : vz_V z μ kc ks pc L st G σ N := by
  intro H locs ls hP hS hL
  obtain ⟨k, hk⟩ := List.getElem?_of_mem (vz_vis_mem (z := z) hl)
  subst hv
  exact lv_iinc hc.1 hc.2.1 hd (vz_vis_has hL) hk rfl (hc.2.2.2.2.2.2.2.2.2.symm ▸ hb) rfl (fun ls' hl => h H locs ls' hP hS (vz_st1 rfl hn hl))
theorem vr_iadd (hc : vz_C z μ cc own dp nL) {x y : Int32} (hd : decode cc pc = .ok (.iadd, 1))  (h : vz_V z μ kc ks (pc + 1) L (.int (x + y) :: st) G σ N) : vz_V z μ kc ks pc L (.int y :: .int x :: st) G σ N :=
  fun H locs ls hP hS hL => lv_iadd hc.1 hc.2.1 hd (h H locs ls hP hS hL)
theorem vr_isub (hc : vz_C z μ cc own dp nL) {x y : Int32} (hd : decode cc pc = .ok (.isub, 1))  (h : vz_V z μ kc ks (pc + 1) L (.int (x - y) :: st) G σ N) : vz_V z μ kc ks pc L (.int y :: .int x :: st) G σ N :=
  fun H locs ls hP hS hL => lv_isub hc.1 hc.2.1 hd (h H locs ls hP hS hL)
theorem vr_imul (hc : vz_C z μ cc own dp nL) {x y : Int32} (hd : decode cc pc = .ok (.imul, 1))  (h : vz_V z μ kc ks (pc + 1) L (.int (x * y) :: st) G σ N) : vz_V z μ kc ks pc L (.int y :: .int x :: st) G σ N :=
  fun H locs ls hP hS hL => lv_imul hc.1 hc.2.1 hd (h H locs ls hP hS hL)
theorem vr_iand (hc : vz_C z μ cc own dp nL) {x y : Int32} (hd : decode cc pc = .ok (.iand, 1))  (h : vz_V z μ kc ks (pc + 1) L (.int (x &&& y) :: st) G σ N) : vz_V z μ kc ks pc L (.int y :: .int x :: st) G σ N :=
  fun H locs ls hP hS hL => lv_iand hc.1 hc.2.1 hd (h H locs ls hP hS hL)
theorem vr_ior (hc : vz_C z μ cc own dp nL) {x y : Int32} (hd : decode cc pc = .ok (.ior, 1))  (h : vz_V z μ kc ks (pc + 1) L (.int (x ||| y) :: st) G σ N) : vz_V z μ kc ks pc L (.int y :: .int x :: st) G σ N :=
  fun H locs ls hP hS hL => lv_ior hc.1 hc.2.1 hd (h H locs ls hP hS hL)
theorem vr_ixor (hc : vz_C z μ cc own dp nL) {x y : Int32} (hd : decode cc pc = .ok (.ixor, 1))  (h : vz_V z μ kc ks (pc + 1) L (.int (x ^^^ y) :: st) G σ N) : vz_V z μ kc ks pc L (.int y :: .int x :: st) G σ N :=
  fun H locs ls hP hS hL => lv_ixor hc.1 hc.2.1 hd (h H locs ls hP hS hL)
theorem vr_ishl (hc : vz_C z μ cc own dp nL) {x y : Int32} (hd : decode cc pc = .ok (.ishl, 1))  (h : vz_V z μ kc ks (pc + 1) L (.int (x <<< (y &&& 31)) :: st) G σ N) : vz_V z μ kc ks pc L (.int y :: .int x :: st) G σ N :=
  fun H locs ls hP hS hL => lv_ishl hc.1 hc.2.1 hd (h H locs ls hP hS hL)
theorem vr_ishr (hc : vz_C z μ cc own dp nL) {x y : Int32} (hd : decode cc pc = .ok (.ishr, 1))  (h : vz_V z μ kc ks (pc + 1) L (.int (x >>> (y &&& 31)) :: st) G σ N) : vz_V z μ kc ks pc L (.int y :: .int x :: st) G σ N :=
  fun H locs ls hP hS hL => lv_ishr hc.1 hc.2.1 hd (h H locs ls hP hS hL)
theorem vr_ladd (hc : vz_C z μ cc own dp nL) {x y : Int64} (hd : decode cc pc = .ok (.ladd, 1))  (h : vz_V z μ kc ks (pc + 1) L (.long (x + y) :: st) G σ N) : vz_V z μ kc ks pc L (.long y :: .long x :: st) G σ N :=
  fun H locs ls hP hS hL => lv_ladd hc.1 hc.2.1 hd (h H locs ls hP hS hL)
theorem vr_lsub (hc : vz_C z μ cc own dp nL) {x y : Int64} (hd : decode cc pc = .ok (.lsub, 1))  (h : vz_V z μ kc ks (pc + 1) L (.long (x - y) :: st) G σ N) : vz_V z μ kc ks pc L (.long y :: .long x :: st) G σ N :=
  fun H locs ls hP hS hL => lv_lsub hc.1 hc.2.1 hd (h H locs ls hP hS hL)
theorem vr_lmul (hc : vz_C z μ cc own dp nL) {x y : Int64} (hd : decode cc pc = .ok (.lmul, 1))  (h : vz_V z μ kc ks (pc + 1) L (.long (x * y) :: st) G σ N) : vz_V z μ kc ks pc L (.long y :: .long x :: st) G σ N :=
  fun H locs ls hP hS hL => lv_lmul hc.1 hc.2.1 hd (h H locs ls hP hS hL)
theorem vr_land (hc : vz_C z μ cc own dp nL) {x y : Int64} (hd : decode cc pc = .ok (.land, 1))  (h : vz_V z μ kc ks (pc + 1) L (.long (x &&& y) :: st) G σ N) : vz_V z μ kc ks pc L (.long y :: .long x :: st) G σ N :=
  fun H locs ls hP hS hL => lv_land hc.1 hc.2.1 hd (h H locs ls hP hS hL)
theorem vr_lor (hc : vz_C z μ cc own dp nL) {x y : Int64} (hd : decode cc pc = .ok (.lor, 1))  (h : vz_V z μ kc ks (pc + 1) L (.long (x ||| y) :: st) G σ N) : vz_V z μ kc ks pc L (.long y :: .long x :: st) G σ N :=
  fun H locs ls hP hS hL => lv_lor hc.1 hc.2.1 hd (h H locs ls hP hS hL)
theorem vr_lxor (hc : vz_C z μ cc own dp nL) {x y : Int64} (hd : decode cc pc = .ok (.lxor, 1))  (h : vz_V z μ kc ks (pc + 1) L (.long (x ^^^ y) :: st) G σ N) : vz_V z μ kc ks pc L (.long y :: .long x :: st) G σ N :=
  fun H locs ls hP hS hL => lv_lxor hc.1 hc.2.1 hd (h H locs ls hP hS hL)
theorem vr_idiv (hc : vz_C z μ cc own dp nL) {x y : Int32} (hd : decode cc pc = .ok (.idiv, 1)) (hne : ¬ y = 0) (h : vz_V z μ kc ks (pc + 1) L (.int (x / y) :: st) G σ N) : vz_V z μ kc ks pc L (.int y :: .int x :: st) G σ N :=
  fun H locs ls hP hS hL => lv_idiv hc.1 hc.2.1 hd hne (h H locs ls hP hS hL)
theorem vr_irem (hc : vz_C z μ cc own dp nL) {x y : Int32} (hd : decode cc pc = .ok (.irem, 1)) (hne : ¬ y = 0) (h : vz_V z μ kc ks (pc + 1) L (.int (x - x / y * y) :: st) G σ N) : vz_V z μ kc ks pc L (.int y :: .int x :: st) G σ N :=
  fun H locs ls hP hS hL => lv_irem hc.1 hc.2.1 hd hne (h H locs ls hP hS hL)
theorem vr_ldiv (hc : vz_C z μ cc own dp nL) {x y : Int64} (hd : decode cc pc = .ok (.ldiv, 1)) (hne : ¬ y = 0) (h : vz_V z μ kc ks (pc + 1) L (.long (x / y) :: st) G σ N) : vz_V z μ kc ks pc L (.long y :: .long x :: st) G σ N :=
  fun H locs ls hP hS hL => lv_ldiv hc.1 hc.2.1 hd hne (h H locs ls hP hS hL)
theorem vr_lrem (hc : vz_C z μ cc own dp nL) {x y : Int64} (hd : decode cc pc = .ok (.lrem, 1)) (hne : ¬ y = 0) (h : vz_V z μ kc ks (pc + 1) L (.long (x - x / y * y) :: st) G σ N) : vz_V z μ kc ks pc L (.long y :: .long x :: st) G σ N :=
  fun H locs ls hP hS hL => lv_lrem hc.1 hc.2.1 hd hne (h H locs ls hP hS hL)
theorem vr_ineg (hc : vz_C z μ cc own dp nL) {x : Int32} (hd : decode cc pc = .ok (.ineg, 1))  (h : vz_V z μ kc ks (pc + 1) L (.int (-x) :: st) G σ N) : vz_V z μ kc ks pc L (.int x :: st) G σ N :=
  fun H locs ls hP hS hL => lv_ineg hc.1 hc.2.1 hd (h H locs ls hP hS hL)
theorem vr_i2l (hc : vz_C z μ cc own dp nL) {x : Int32} (hd : decode cc pc = .ok (.i2l, 1))  (h : vz_V z μ kc ks (pc + 1) L (.long x.toInt64 :: st) G σ N) : vz_V z μ kc ks pc L (.int x :: st) G σ N :=
  fun H locs ls hP hS hL => lv_i2l hc.1 hc.2.1 hd rfl (h H locs ls hP hS hL)
theorem vr_l2i (hc : vz_C z μ cc own dp nL) {x : Int64} (hd : decode cc pc = .ok (.l2i, 1))  (h : vz_V z μ kc ks (pc + 1) L (.int x.toInt32 :: st) G σ N) : vz_V z μ kc ks pc L (.long x :: st) G σ N :=
  fun H locs ls hP hS hL => lv_l2i hc.1 hc.2.1 hd rfl (h H locs ls hP hS hL)
theorem vr_i2b (hc : vz_C z μ cc own dp nL) {x : Int32} (hd : decode cc pc = .ok (.i2b, 1))  (h : vz_V z μ kc ks (pc + 1) L (.int x.toInt8.toInt32 :: st) G σ N) : vz_V z μ kc ks pc L (.int x :: st) G σ N :=
  fun H locs ls hP hS hL => lv_i2b hc.1 hc.2.1 hd rfl (h H locs ls hP hS hL)
theorem vr_i2s (hc : vz_C z μ cc own dp nL) {x : Int32} (hd : decode cc pc = .ok (.i2s, 1))  (h : vz_V z μ kc ks (pc + 1) L (.int x.toInt16.toInt32 :: st) G σ N) : vz_V z μ kc ks pc L (.int x :: st) G σ N :=
  fun H locs ls hP hS hL => lv_i2s hc.1 hc.2.1 hd rfl (h H locs ls hP hS hL)
theorem vr_iushr (hc : vz_C z μ cc own dp nL) {x y : Int32} (hd : decode cc pc = .ok (.iushr, 1))  (h : vz_V z μ kc ks (pc + 1) L (.int (x.toUInt32 >>> (y.toUInt32 &&& Int32.toUInt32 31)).toInt32 :: st) G σ N) : vz_V z μ kc ks pc L (.int y :: .int x :: st) G σ N :=
  fun H locs ls hP hS hL => lv_iushr hc.1 hc.2.1 hd rfl (h H locs ls hP hS hL)
theorem vr_lushr (hc : vz_C z μ cc own dp nL) {x : Int64} {y : Int32} (hd : decode cc pc = .ok (.lushr, 1))  (h : vz_V z μ kc ks (pc + 1) L (.long (x.toUInt64 >>> (y.toInt64.toUInt64 &&& Int64.toUInt64 63)).toInt64 :: st) G σ N) : vz_V z μ kc ks pc L (.int y :: .long x :: st) G σ N :=
  fun H locs ls hP hS hL => lv_lushr hc.1 hc.2.1 hd rfl (h H locs ls hP hS hL)
theorem vr_lshl (hc : vz_C z μ cc own dp nL) {x : Int64} {y : Int32} (hd : decode cc pc = .ok (.lshl, 1))  (h : vz_V z μ kc ks (pc + 1) L (.long (x <<< (y.toInt64 &&& 63)) :: st) G σ N) : vz_V z μ kc ks pc L (.int y :: .long x :: st) G σ N :=
  fun H locs ls hP hS hL => lv_lshl hc.1 hc.2.1 hd rfl (h H locs ls hP hS hL)
theorem vr_lshr (hc : vz_C z μ cc own dp nL) {x : Int64} {y : Int32} (hd : decode cc pc = .ok (.lshr, 1))  (h : vz_V z μ kc ks (pc + 1) L (.long (x >>> (y.toInt64 &&& 63)) :: st) G σ N) : vz_V z μ kc ks pc L (.int y :: .long x :: st) G σ N :=
  fun H locs ls hP hS hL => lv_lshr hc.1 hc.2.1 hd rfl (h H locs ls hP hS hL)
theorem vr_lcmp (hc : vz_C z μ cc own dp nL) {x y : Int64} (hd : decode cc pc = .ok (.lcmp, 1))  (h : vz_V z μ kc ks (pc + 1) L (.int (lg_cmp x y) :: st) G σ N) : vz_V z μ kc ks pc L (.long y :: .long x :: st) G σ N :=
  fun H locs ls hP hS hL => W.lcmp hc.1 hc.2.1 hd (h H locs ls hP hS hL)
theorem vr_dup (hc : vz_C z μ cc own dp nL) {v : Value} (hd : decode cc pc = .ok (.dup, 1)) (hv : v.category = 1) (h : vz_V z μ kc ks (pc + 1) L (v :: v :: st) G σ N) : vz_V z μ kc ks pc L (v :: st) G σ N :=
  fun H locs ls hP hS hL => lv_dup hc.1 hc.2.1 hd ((vz_cv_cat z v).trans hv) (h H locs ls hP hS hL)
theorem vr_dup2 (hc : vz_C z μ cc own dp nL) {v u : Value} (hd : decode cc pc = .ok (.dup2, 1)) (hv : v.category = 1) (hu : u.category = 1) (h : vz_V z μ kc ks (pc + 1) L (v :: u :: v :: u :: st) G σ N) : vz_V z μ kc ks pc L (v :: u :: st) G σ N :=
  fun H locs ls hP hS hL => lv_dup2_11 hc.1 hc.2.1 hd ((vz_cv_cat z v).trans hv) ((vz_cv_cat z u).trans hu) (h H locs ls hP hS hL)
theorem vr_pop (hc : vz_C z μ cc own dp nL) {v : Value} (hd : decode cc pc = .ok (.pop, 1)) (hv : v.category = 1) (h : vz_V z μ kc ks (pc + 1) L st G σ N) : vz_V z μ kc ks pc L (v :: st) G σ N :=
  fun H locs ls hP hS hL => lv_pop hc.1 hc.2.1 hd ((vz_cv_cat z v).trans hv) (h H locs ls hP hS hL)
theorem vr_if_eq (hc : vz_C z μ cc own dp nL) {x : Int32} {off : Int} (tgt : Nat) (hd : decode cc pc = .ok (.ifCond .eq off, 3)) (ht : (pc : Int) + off = (tgt : Int)) (kt : x = 0 → vz_V z μ kc ks tgt L st G σ N) (kf : ¬ x = 0 → vz_V z μ kc ks (pc + 3) L st G σ N) : vz_V z μ kc ks pc L (.int x :: st) G σ N :=
  fun H locs ls hP hS hL => lv_if_eq hc.1 hc.2.1 hd ht (fun q => kt q H locs ls hP hS hL) (fun q => kf q H locs ls hP hS hL)
theorem vr_icmp_eq (hc : vz_C z μ cc own dp nL) {x y : Int32} {off : Int} (tgt : Nat) (hd : decode cc pc = .ok (.if_icmp .eq off, 3)) (ht : (pc : Int) + off = (tgt : Int)) (kt : x = y → vz_V z μ kc ks tgt L st G σ N) (kf : ¬ x = y → vz_V z μ kc ks (pc + 3) L st G σ N) : vz_V z μ kc ks pc L (.int y :: .int x :: st) G σ N :=
  fun H locs ls hP hS hL => lv_icmp_eq hc.1 hc.2.1 hd ht (fun q => kt q H locs ls hP hS hL) (fun q => kf q H locs ls hP hS hL)
theorem vr_if_ne (hc : vz_C z μ cc own dp nL) {x : Int32} {off : Int} (tgt : Nat) (hd : decode cc pc = .ok (.ifCond .ne off, 3)) (ht : (pc : Int) + off = (tgt : Int)) (kt : ¬ x = 0 → vz_V z μ kc ks tgt L st G σ N) (kf : x = 0 → vz_V z μ kc ks (pc + 3) L st G σ N) : vz_V z μ kc ks pc L (.int x :: st) G σ N :=
  fun H locs ls hP hS hL => lv_if_ne hc.1 hc.2.1 hd ht (fun q => kt q H locs ls hP hS hL) (fun q => kf q H locs ls hP hS hL)
theorem vr_icmp_ne (hc : vz_C z μ cc own dp nL) {x y : Int32} {off : Int} (tgt : Nat) (hd : decode cc pc = .ok (.if_icmp .ne off, 3)) (ht : (pc : Int) + off = (tgt : Int)) (kt : ¬ x = y → vz_V z μ kc ks tgt L st G σ N) (kf : x = y → vz_V z μ kc ks (pc + 3) L st G σ N) : vz_V z μ kc ks pc L (.int y :: .int x :: st) G σ N :=
  fun H locs ls hP hS hL => lv_icmp_ne hc.1 hc.2.1 hd ht (fun q => kt q H locs ls hP hS hL) (fun q => kf q H locs ls hP hS hL)
theorem vr_if_lt (hc : vz_C z μ cc own dp nL) {x : Int32} {off : Int} (tgt : Nat) (hd : decode cc pc = .ok (.ifCond .lt off, 3)) (ht : (pc : Int) + off = (tgt : Int)) (kt : x < 0 → vz_V z μ kc ks tgt L st G σ N) (kf : ¬ x < 0 → vz_V z μ kc ks (pc + 3) L st G σ N) : vz_V z μ kc ks pc L (.int x :: st) G σ N :=
  fun H locs ls hP hS hL => lv_if_lt hc.1 hc.2.1 hd ht (fun q => kt q H locs ls hP hS hL) (fun q => kf q H locs ls hP hS hL)
theorem vr_icmp_lt (hc : vz_C z μ cc own dp nL) {x y : Int32} {off : Int} (tgt : Nat) (hd : decode cc pc = .ok (.if_icmp .lt off, 3)) (ht : (pc : Int) + off = (tgt : Int)) (kt : x < y → vz_V z μ kc ks tgt L st G σ N) (kf : ¬ x < y → vz_V z μ kc ks (pc + 3) L st G σ N) : vz_V z μ kc ks pc L (.int y :: .int x :: st) G σ N :=
  fun H locs ls hP hS hL => lv_icmp_lt hc.1 hc.2.1 hd ht (fun q => kt q H locs ls hP hS hL) (fun q => kf q H locs ls hP hS hL)
theorem vr_if_ge (hc : vz_C z μ cc own dp nL) {x : Int32} {off : Int} (tgt : Nat) (hd : decode cc pc = .ok (.ifCond .ge off, 3)) (ht : (pc : Int) + off = (tgt : Int)) (kt : 0 ≤ x → vz_V z μ kc ks tgt L st G σ N) (kf : ¬ 0 ≤ x → vz_V z μ kc ks (pc + 3) L st G σ N) : vz_V z μ kc ks pc L (.int x :: st) G σ N :=
  fun H locs ls hP hS hL => lv_if_ge hc.1 hc.2.1 hd ht (fun q => kt q H locs ls hP hS hL) (fun q => kf q H locs ls hP hS hL)
theorem vr_icmp_ge (hc : vz_C z μ cc own dp nL) {x y : Int32} {off : Int} (tgt : Nat) (hd : decode cc pc = .ok (.if_icmp .ge off, 3)) (ht : (pc : Int) + off = (tgt : Int)) (kt : y ≤ x → vz_V z μ kc ks tgt L st G σ N) (kf : ¬ y ≤ x → vz_V z μ kc ks (pc + 3) L st G σ N) : vz_V z μ kc ks pc L (.int y :: .int x :: st) G σ N :=
  fun H locs ls hP hS hL => lv_icmp_ge hc.1 hc.2.1 hd ht (fun q => kt q H locs ls hP hS hL) (fun q => kf q H locs ls hP hS hL)
theorem vr_if_gt (hc : vz_C z μ cc own dp nL) {x : Int32} {off : Int} (tgt : Nat) (hd : decode cc pc = .ok (.ifCond .gt off, 3)) (ht : (pc : Int) + off = (tgt : Int)) (kt : 0 < x → vz_V z μ kc ks tgt L st G σ N) (kf : ¬ 0 < x → vz_V z μ kc ks (pc + 3) L st G σ N) : vz_V z μ kc ks pc L (.int x :: st) G σ N :=
  fun H locs ls hP hS hL => lv_if_gt hc.1 hc.2.1 hd ht (fun q => kt q H locs ls hP hS hL) (fun q => kf q H locs ls hP hS hL)
theorem vr_icmp_gt (hc : vz_C z μ cc own dp nL) {x y : Int32} {off : Int} (tgt : Nat) (hd : decode cc pc = .ok (.if_icmp .gt off, 3)) (ht : (pc : Int) + off = (tgt : Int)) (kt : y < x → vz_V z μ kc ks tgt L st G σ N) (kf : ¬ y < x → vz_V z μ kc ks (pc + 3) L st G σ N) : vz_V z μ kc ks pc L (.int y :: .int x :: st) G σ N :=
  fun H locs ls hP hS hL => lv_icmp_gt hc.1 hc.2.1 hd ht (fun q => kt q H locs ls hP hS hL) (fun q => kf q H locs ls hP hS hL)
theorem vr_if_le (hc : vz_C z μ cc own dp nL) {x : Int32} {off : Int} (tgt : Nat) (hd : decode cc pc = .ok (.ifCond .le off, 3)) (ht : (pc : Int) + off = (tgt : Int)) (kt : x ≤ 0 → vz_V z μ kc ks tgt L st G σ N) (kf : ¬ x ≤ 0 → vz_V z μ kc ks (pc + 3) L st G σ N) : vz_V z μ kc ks pc L (.int x :: st) G σ N :=
  fun H locs ls hP hS hL => lv_if_le hc.1 hc.2.1 hd ht (fun q => kt q H locs ls hP hS hL) (fun q => kf q H locs ls hP hS hL)
theorem vr_icmp_le (hc : vz_C z μ cc own dp nL) {x y : Int32} {off : Int} (tgt : Nat) (hd : decode cc pc = .ok (.if_icmp .le off, 3)) (ht : (pc : Int) + off = (tgt : Int)) (kt : x ≤ y → vz_V z μ kc ks tgt L st G σ N) (kf : ¬ x ≤ y → vz_V z μ kc ks (pc + 3) L st G σ N) : vz_V z μ kc ks pc L (.int y :: .int x :: st) G σ N :=
  fun H locs ls hP hS hL => lv_icmp_le hc.1 hc.2.1 hd ht (fun q => kt q H locs ls hP hS hL) (fun q => kf q H locs ls hP hS hL)
theorem vr_goto (hc : vz_C z μ cc own dp nL) {off : Int} (tgt : Nat) (hd : decode cc pc = .ok (.goto off, 3)) (ht : (pc : Int) + off = (tgt : Int)) (h : vz_V z μ kc ks tgt L st G σ N) : vz_V z μ kc ks pc L st G σ N :=
  fun H locs ls hP hS hL => lv_goto hc.1 hc.2.1 hd ht (h H locs ls hP hS hL)
theorem vr_ifnull (hc : vz_C z μ cc own dp nL) {a : Nat} {off : Int} (hd : decode cc pc = .ok (.ifnull off, 3)) (h : vz_V z μ kc ks (pc + 3) L st G σ N) : vz_V z μ kc ks pc L (.ref a :: st) G σ N :=
  fun H locs ls hP hS hL => lv_ifnull hc.1 hc.2.1 hd (h H locs ls hP hS hL)
theorem vr_ifnullN (hc : vz_C z μ cc own dp nL) {off : Int} (tgt : Nat) (hd : decode cc pc = .ok (.ifnull off, 3)) (ht : (pc : Int) + off = (tgt : Int)) (h : vz_V z μ kc ks tgt L st G σ N) : vz_V z μ kc ks pc L (.null :: st) G σ N :=
  fun H locs ls hP hS hL => lv_ifnullN hc.1 hc.2.1 hd ht (h H locs ls hP hS hL)
theorem vr_ifnonnull (hc : vz_C z μ cc own dp nL) {a : Nat} {off : Int} (tgt : Nat) (hd : decode cc pc = .ok (.ifnonnull off, 3)) (ht : (pc : Int) + off = (tgt : Int)) (h : vz_V z μ kc ks tgt L st G σ N) : vz_V z μ kc ks pc L (.ref a :: st) G σ N :=
  fun H locs ls hP hS hL => lv_ifnonnull hc.1 hc.2.1 hd ht (h H locs ls hP hS hL)
theorem vr_ifnonnullN (hc : vz_C z μ cc own dp nL) {off : Int} (hd : decode cc pc = .ok (.ifnonnull off, 3)) (h : vz_V z μ kc ks (pc + 3) L st G σ N) : vz_V z μ kc ks pc L (.null :: st) G σ N :=
  fun H locs ls hP hS hL => lv_ifnonnullN hc.1 hc.2.1 hd (h H locs ls hP hS hL)
theorem vr_tableOut (hc : vz_C z μ cc own dp nL) {x : Int32} {dflt lo hi : Int} {offs : Array Int} {len : Nat} (tgt : Nat) (hd : decode cc pc = .ok (.tableswitch dflt lo hi offs, len)) (hx : x.toInt < lo ∨ hi < x.toInt) (ht : (pc : Int) + dflt = (tgt : Int)) (h : vz_V z μ kc ks tgt L st G σ N) : vz_V z μ kc ks pc L (.int x :: st) G σ N :=
  fun H locs ls hP hS hL => lv_tableOut hc.1 hc.2.1 hd hx ht (h H locs ls hP hS hL)
theorem vr_tableIn (hc : vz_C z μ cc own dp nL) (x : Int32) {dflt lo hi off : Int} {offs : Array Int} {len : Nat} (tgt : Nat) (hd : decode cc pc = .ok (.tableswitch dflt lo hi offs, len)) (h1 : ¬ x.toInt < lo) (h2 : ¬ hi < x.toInt) (ho : offs[(x.toInt - lo).toNat]? = some off) (ht : (pc : Int) + off = (tgt : Int)) (h : vz_V z μ kc ks tgt L st G σ N) : vz_V z μ kc ks pc L (.int x :: st) G σ N :=
  fun H locs ls hP hS hL => lv_tableIn hc.1 hc.2.1 hd h1 h2 ho ht (h H locs ls hP hS hL)
end VZR
