theorem kc_X3_init (m : Mem) (c0 : Nat) : ∀ v mE, F_X3_init m c0 = some (v, mE) → Con false kX3_init 1 [.ref c0] m (eV v) mE := by
  refine Con.of (ini := true) (ls0 := [.ref c0]) (ri := .return_) (by decide) (by intro _; rfl) rfl (Nat.le_of_ble_eq_true rfl) (fun v mE _ => RetTy.v) ?_
  show Cv false (cX3_init, 1, RX3, 1, ((true, none) : IK)) .return_ eV (F_X3_init m c0) m 0 [.ref c0] []
  unfold F_X3_init
  refine Cv.go (pc' := 1) (go_aload_n (i := 0) (x := c0) dX3_init_0 rfl rfl) ?_
  refine Cv.go (pc' := 4) (go_oinit lm_X3_3 li_oinit lo_oinit (by decide) (Nat.le_of_ble_eq_true rfl) dX3_init_1) ?_
  refine Cv.go (pc' := 5) (go_aload_n (i := 0) (x := c0) dX3_init_4 rfl rfl) ?_
  refine Cv.go (pc' := 8) (go_sipush dX3_init_5 is_160) ?_
  refine Cv.go (pc' := 10) (go_newI (N' := 160) lx_int (by decide) (by decide) (by decide) dX3_init_8) ?_
  refine Cv.namM fun m1 em1 => ?_
  refine Cv.namR fun q2 eq2 => ?_
  refine Cv.gif fun g3 => ?_
  refine Cv.go (pc' := 13) (go_putF (i := 0) cls3 g3 (by decide) rfl rfl lf_X3_9 (Or.inr ⟨_, rfl⟩) rfl dX3_init_10) ?_
  refine Cv.namM fun m4 em4 => ?_
  refine Cv.go (pc' := 14) (go_aload_n (i := 0) (x := c0) dX3_init_13 rfl rfl) ?_
  refine Cv.go (pc' := 17) (go_sipush dX3_init_14 is_160) ?_
  refine Cv.go (pc' := 19) (go_newI (N' := 160) lx_int (by decide) (by decide) (by decide) dX3_init_17) ?_
  refine Cv.namM fun m5 em5 => ?_
  refine Cv.namR fun q6 eq6 => ?_
  refine Cv.gif fun g7 => ?_
  refine Cv.go (pc' := 22) (go_putF (i := 5) cls3 g7 (by decide) rfl rfl lf_X3_15 (Or.inr ⟨_, rfl⟩) rfl dX3_init_19) ?_
  refine Cv.namM fun m8 em8 => ?_
  refine Cv.go (pc' := 23) (go_aload_n (i := 0) (x := c0) dX3_init_22 rfl rfl) ?_
  refine Cv.go (pc' := 24) (go_iconst dX3_init_23 ic_3) ?_
  refine Cv.go (pc' := 26) (go_newI (N' := 3) lx_int (by decide) (by decide) (by decide) dX3_init_24) ?_
  refine Cv.namM fun m9 em9 => ?_
  refine Cv.namR fun q10 eq10 => ?_
  refine Cv.gif fun g11 => ?_
  refine Cv.go (pc' := 29) (go_putF (i := 7) cls3 g11 (by decide) rfl rfl lf_X3_18 (Or.inr ⟨_, rfl⟩) rfl dX3_init_26) ?_
  refine Cv.namM fun m12 em12 => ?_
  exact Cv.ret dX3_init_29 rfl
theorem kc_X3_add (m : Mem) (a1 : Int32) (hS : ShX m) : ∀ v mE, F_X3_add m a1 = some (v, mE) → Con true kX3_add 0 [.ref 2, .int a1] m (eV v) mE := by
  refine Con.of (ini := false) (ls0 := [.ref 2, .int a1]) (ri := .return_) (by decide) (by intro z; cases z) rfl (Nat.le_of_ble_eq_true rfl) (fun v mE _ => RetTy.v) ?_
  show Cv true (cX3_add, 2, RX3, 0, ((false, none) : IK)) .return_ eV (F_X3_add m a1) m 0 [.ref 2, .int a1] []
  unfold F_X3_add
  refine Cv.go (pc' := 1) (go_aload_n (i := 0) (x := 2) dX3_add_0 rfl rfl) ?_
  refine Cv.go (pc' := 4) (go_getI (i := 1) cls3 (sx_k2 hS) (by decide) rfl lf_X3_21 (by decide) dX3_add_1) ?_
  refine Cv.go (pc' := 5) (go_aload_n (i := 0) (x := 2) dX3_add_4 rfl rfl) ?_
  refine Cv.go (pc' := 8) (go_getR (i := 0) cls3 (sx_k2 hS) (by decide) rfl lf_X3_9 (Or.inr ⟨_, rfl⟩) (sx_r2_0 hS) dX3_add_5) ?_
  refine Cv.go (pc' := 9) (go_alen (t := 7) (t0 := 0) (sx_k3 hS) (by decide) (fun _ => rfl) dX3_add_8) ?_
  refine Cv.ite (fun h1 => ?_) (fun h1 => ?_)
  · refine Cv.go (pc' := 32) (go_icmp_ge_t (tgt := 32) dX3_add_9 rfl h1) ?_
    exact Cv.ret dX3_add_32 rfl
  · refine Cv.go (pc' := 12) (go_icmp_ge_f 32 dX3_add_9 rfl h1) ?_
    refine Cv.go (pc' := 13) (go_aload_n (i := 0) (x := 2) dX3_add_12 rfl rfl) ?_
    refine Cv.go (pc' := 16) (go_getR (i := 0) cls3 (sx_k2 hS) (by decide) rfl lf_X3_9 (Or.inr ⟨_, rfl⟩) (sx_r2_0 hS) dX3_add_13) ?_
    refine Cv.go (pc' := 17) (go_aload_n (i := 0) (x := 2) dX3_add_16 rfl rfl) ?_
    refine Cv.go (pc' := 20) (go_getI (i := 1) cls3 (sx_k2 hS) (by decide) rfl lf_X3_21 (by decide) dX3_add_17) ?_
    refine Cv.go (pc' := 21) (go_iload_n (i := 1) (x := a1) dX3_add_20 rfl rfl) ?_
    refine Cv.gif fun g2 => ?_
    refine Cv.go (pc' := 22) (go_iastore (sx_k3 hS) g2 dX3_add_21) ?_
    refine Cv.namM fun m3 em3 => ?_
    have zm3 : SameSh m m3 := em3 ▸ SameSh.d
    have hS := hS.sh zm3
    refine Cv.go (pc' := 23) (go_aload_n (i := 0) (x := 2) dX3_add_22 rfl rfl) ?_
    refine Cv.go (pc' := 24) (go_dup_a dX3_add_23) ?_
    refine Cv.go (pc' := 27) (go_getI (i := 1) cls3 (sx_k2 hS) (by decide) rfl lf_X3_21 (by decide) dX3_add_24) ?_
    refine Cv.go (pc' := 28) (go_iconst dX3_add_27 ic_1) ?_
    refine Cv.go (pc' := 29) (go_iadd dX3_add_28) ?_
    refine Cv.go (pc' := 32) (go_putI (i := 1) cls3 (sx_k2 hS) (by decide) rfl lf_X3_21 (by decide) rfl rfl rfl dX3_add_29) ?_
    refine Cv.namM fun m4 em4 => ?_
    have zm4 : SameSh m3 m4 := em4 ▸ SameSh.d
    have hS := hS.sh zm4
    exact Cv.ret dX3_add_32 rfl
theorem kc_J7_copyOf_59c91 (m : Mem) (c0 : Nat) (a1 : Int32) : ∀ v mE, F_J7_copyOf_59c91 m c0 a1 = some (v, mE) → Con false kJ7_copyOf_59c91 1 [.ref c0, .int a1] m (eR v) mE := by
  refine Con.of (ini := false) (ls0 := [.ref c0, .int a1, .null]) (ri := .areturn) (by decide) (by intro z; cases z) rfl (Nat.le_of_ble_eq_true rfl) (fun v mE _ => RetTy.a) ?_
  show Cv false (cJ7_copyOf_59c91, 3, RJ7, 1, ((false, none) : IK)) .areturn eR (F_J7_copyOf_59c91 m c0 a1) m 0 [.ref c0, .int a1, .null] []
  unfold F_J7_copyOf_59c91
  refine Cv.go (pc' := 1) (go_iload_n (i := 1) (x := a1) dJ7_copyOf_59c91_0 rfl rfl) ?_
  refine Cv.go (pc' := 2) (go_aload_n (i := 0) (x := c0) dJ7_copyOf_59c91_1 rfl rfl) ?_
  refine Cv.gif fun g1 => ?_
  refine Cv.go (pc' := 3) (go_alen (t := 7) (t0 := 0) (kA g1) (by decide) (fun _ => rfl) dJ7_copyOf_59c91_2) ?_
  refine Cv.ite (fun h2 => ?_) (fun h2 => ?_)
  · refine Cv.go (pc' := 6) (go_icmp_ne_f 14 dJ7_copyOf_59c91_3 rfl h2) ?_
    refine Cv.go (pc' := 7) (go_aload_n (i := 0) (x := c0) dJ7_copyOf_59c91_6 rfl rfl) ?_
    refine Cv.gif fun g9 => ?_
    refine Cv.go (pc' := 10) (go_clone lm_J7_316 lq_clone lv_clone li_clone ls_clone (kA g9) (by decide) (Nat.le_of_ble_eq_true rfl) dJ7_copyOf_59c91_7) ?_
    refine Cv.namM fun m10 em10 => ?_
    refine Cv.namR fun q11 eq11 => ?_
    refine Cv.gif fun g12 => ?_
    refine Cv.go (pc' := 13) (go_castA lk_J7_317 (kA g12) dJ7_copyOf_59c91_10) ?_
    exact Cv.ret dJ7_copyOf_59c91_13 rfl
  · refine Cv.go (pc' := 14) (go_icmp_ne_t (tgt := 14) dJ7_copyOf_59c91_3 rfl h2) ?_
    refine Cv.go (pc' := 15) (go_iload_n (i := 1) (x := a1) dJ7_copyOf_59c91_14 rfl rfl) ?_
    refine Cv.gif fun g5 => ?_
    refine Cv.go (pc' := 17) (go_newI (N' := a1.toNatClampNeg) lx_int g5.1 rfl g5.2 dJ7_copyOf_59c91_15) ?_
    refine Cv.namM fun m3 em3 => ?_
    refine Cv.namR fun q4 eq4 => ?_
    refine Cv.go (pc' := 18) (ls' := [.ref c0, .int a1, .ref q4]) (go_astore_n dJ7_copyOf_59c91_17 rfl (by decide) rfl) ?_
    refine Cv.go (pc' := 19) (go_aload_n (i := 0) (x := c0) dJ7_copyOf_59c91_18 rfl rfl) ?_
    refine Cv.go (pc' := 20) (go_iconst dJ7_copyOf_59c91_19 ic_0) ?_
    refine Cv.go (pc' := 21) (go_aload_n (i := 2) (x := q4) dJ7_copyOf_59c91_20 rfl rfl) ?_
    refine Cv.go (pc' := 22) (go_iconst dJ7_copyOf_59c91_21 ic_0) ?_
    refine Cv.go (pc' := 23) (go_aload_n (i := 0) (x := c0) dJ7_copyOf_59c91_22 rfl rfl) ?_
    refine Cv.gif fun g6 => ?_
    refine Cv.go (pc' := 24) (go_alen (t := 7) (t0 := 0) (kA g6) (by decide) (fun _ => rfl) dJ7_copyOf_59c91_23) ?_
    refine Cv.go (pc' := 25) (go_iload_n (i := 1) (x := a1) dJ7_copyOf_59c91_24 rfl rfl) ?_
    refine Cv.go (pc' := 28) (go_min lm_J7_304 lt_min ln_Math lo_min (by decide) (Nat.le_of_ble_eq_true rfl) dJ7_copyOf_59c91_25) ?_
    refine Cv.gif fun g7 => ?_
    refine Cv.go (pc' := 31) (go_copy lm_J7_150 lv_copyN lt_copyN ln_System (kA g7.2.2.2.2.2.1) (kA g7.2.2.2.2.2.2) g7.1 g7.2.1 g7.2.2.1 g7.2.2.2.1 g7.2.2.2.2.1 (by decide) (Nat.le_of_ble_eq_true rfl) dJ7_copyOf_59c91_28) ?_
    refine Cv.namM fun m8 em8 => ?_
    refine Cv.go (pc' := 32) (go_aload_n (i := 2) (x := q4) dJ7_copyOf_59c91_31 rfl rfl) ?_
    exact Cv.ret dJ7_copyOf_59c91_32 rfl
theorem kc_X4_init (m : Mem) (c0 : Nat) (c1 : Nat) (c2 : Nat) : ∀ v mE, F_X4_init m c0 c1 c2 = some (v, mE) → Con false kX4_init 1 [.ref c0, .ref c1, .ref c2] m (eV v) mE := by
  refine Con.of (ini := true) (ls0 := [.ref c0, .ref c1, .ref c2]) (ri := .return_) (by decide) (by intro _; rfl) rfl (Nat.le_of_ble_eq_true rfl) (fun v mE _ => RetTy.v) ?_
  show Cv false (cX4_init, 3, RX4, 1, ((true, none) : IK)) .return_ eV (F_X4_init m c0 c1 c2) m 0 [.ref c0, .ref c1, .ref c2] []
  unfold F_X4_init
  refine Cv.go (pc' := 1) (go_aload_n (i := 0) (x := c0) dX4_init_0 rfl rfl) ?_
  refine Cv.go (pc' := 4) (go_oinit lm_X4_3 li_oinit lo_oinit (by decide) (Nat.le_of_ble_eq_true rfl) dX4_init_1) ?_
  refine Cv.go (pc' := 5) (go_aload_n (i := 0) (x := c0) dX4_init_4 rfl rfl) ?_
  refine Cv.go (pc' := 6) (go_aload_n (i := 1) (x := c1) dX4_init_5 rfl rfl) ?_
  refine Cv.gif fun g1 => ?_
  refine Cv.go (pc' := 9) (go_putF (i := 0) cls4 g1 (by decide) rfl rfl lf_X4_9 (Or.inr ⟨_, rfl⟩) rfl dX4_init_6) ?_
  refine Cv.namM fun m2 em2 => ?_
  refine Cv.go (pc' := 10) (go_aload_n (i := 0) (x := c0) dX4_init_9 rfl rfl) ?_
  refine Cv.go (pc' := 11) (go_aload_n (i := 2) (x := c2) dX4_init_10 rfl rfl) ?_
  refine Cv.gif fun g3 => ?_
  refine Cv.go (pc' := 14) (go_putF (i := 1) cls4 g3 (by decide) rfl rfl lf_X4_15 (Or.inr ⟨_, rfl⟩) rfl dX4_init_11) ?_
  refine Cv.namM fun m4 em4 => ?_
  refine Cv.go (pc' := 15) (go_aload_n (i := 0) (x := c0) dX4_init_14 rfl rfl) ?_
  refine Cv.go (pc' := 16) (go_aload_n (i := 1) (x := c1) dX4_init_15 rfl rfl) ?_
  refine Cv.gif fun g5 => ?_
  refine Cv.go (pc' := 17) (go_alen (t := 7) (t0 := 0) (kA g5) (by decide) (fun _ => rfl) dX4_init_16) ?_
  refine Cv.gif fun g8 => ?_
  refine Cv.go (pc' := 19) (go_newI (N' := (Int32.ofNat ((mK m4 c1).2)).toNatClampNeg) lx_int g8.1 rfl g8.2 dX4_init_17) ?_
  refine Cv.namM fun m6 em6 => ?_
  refine Cv.namR fun q7 eq7 => ?_
  refine Cv.gif fun g9 => ?_
  refine Cv.go (pc' := 22) (go_putF (i := 2) cls4 g9 (by decide) rfl rfl lf_X4_18 (Or.inr ⟨_, rfl⟩) rfl dX4_init_19) ?_
  refine Cv.namM fun m10 em10 => ?_
  exact Cv.ret dX4_init_22 rfl
theorem kc_X3_newText (m : Mem) (c0 : Nat) : ∀ v mE, F_X3_newText m c0 = some (v, mE) → Con false kX3_newText 2 [.ref c0] m (eR v) mE := by
  refine Con.of (ini := false) (ls0 := [.ref c0]) (ri := .areturn) (by decide) (by intro z; cases z) rfl (Nat.le_of_ble_eq_true rfl) (fun v mE _ => RetTy.o) ?_
  show Cv false (cX3_newText, 1, RX3, 2, ((false, none) : IK)) .areturn eR (F_X3_newText m c0) m 0 [.ref c0] []
  unfold F_X3_newText
  refine Cv.go (pc' := 3) (go_new cls4 lk_X3_25 la_X4 ln_X4 nf4 dX3_newText_0) ?_
  refine Cv.namM fun m1 em1 => ?_
  refine Cv.namR fun q2 eq2 => ?_
  refine Cv.go (pc' := 4) (go_dup_a dX3_newText_3) ?_
  refine Cv.go (pc' := 5) (go_aload_n (i := 0) (x := c0) dX3_newText_4 rfl rfl) ?_
  refine Cv.gif fun g3 => ?_
  refine Cv.gref fun r4 e5 => ?_
  refine Cv.go (pc' := 8) (go_getR (i := 5) cls3 g3 (by decide) rfl lf_X3_15 (Or.inr ⟨_, rfl⟩) e5 dX3_newText_5) ?_
  refine Cv.go (pc' := 9) (go_aload_n (i := 0) (x := c0) dX3_newText_8 rfl rfl) ?_
  refine Cv.gif fun g6 => ?_
  refine Cv.go (pc' := 12) (go_getI (i := 6) cls3 g6 (by decide) rfl lf_X3_27 (by decide) dX3_newText_9) ?_
  refine Cv.bnd fun v7 m8 e9 => ?_
  have C10 := kc_J7_copyOf_59c91 m1 r4 (mD m1 c0 6) v7 m8 e9
  refine Cv.go (pc' := 15) (st' := [.ref v7, .ref q2, .ref q2]) (go_callS (As := [.ref r4, .int (mD m1 c0 6)]) (st := [.ref q2, .ref q2]) C10 (by decide) ok_J7_copyOf_59c91 lt_J7_copyOf_59c91 lm_X3_30 rfl rfl (Nat.le_of_ble_eq_true rfl) dX3_newText_12) ?_
  refine Cv.go (pc' := 16) (go_aload_n (i := 0) (x := c0) dX3_newText_15 rfl rfl) ?_
  refine Cv.gif fun g11 => ?_
  refine Cv.gref fun r12 e13 => ?_
  refine Cv.go (pc' := 19) (go_getR (i := 7) cls3 g11 (by decide) rfl lf_X3_18 (Or.inr ⟨_, rfl⟩) e13 dX3_newText_16) ?_
  refine Cv.go (pc' := 20) (go_aload_n (i := 0) (x := c0) dX3_newText_19 rfl rfl) ?_
  refine Cv.gif fun g14 => ?_
  refine Cv.gref fun r15 e16 => ?_
  refine Cv.go (pc' := 23) (go_getR (i := 7) cls3 g14 (by decide) rfl lf_X3_18 (Or.inr ⟨_, rfl⟩) e16 dX3_newText_20) ?_
  refine Cv.gif fun g17 => ?_
  refine Cv.go (pc' := 24) (go_alen (t := 7) (t0 := 0) (kA g17) (by decide) (fun _ => rfl) dX3_newText_23) ?_
  refine Cv.bnd fun v18 m19 e20 => ?_
  have C21 := kc_J7_copyOf_59c91 m8 r12 (Int32.ofNat ((mK m8 r15).2)) v18 m19 e20
  refine Cv.go (pc' := 27) (st' := [.ref v18, .ref v7, .ref q2, .ref q2]) (go_callS (As := [.ref r12, .int (Int32.ofNat ((mK m8 r15).2))]) (st := [.ref v7, .ref q2, .ref q2]) C21 (by decide) ok_J7_copyOf_59c91 lt_J7_copyOf_59c91 lm_X3_30 rfl rfl (Nat.le_of_ble_eq_true rfl) dX3_newText_24) ?_
  refine Cv.bnd fun v22 m23 e24 => ?_
  have C25 := kc_X4_init m19 q2 v7 v18 v22 m23 e24
  refine Cv.go (pc' := 30) (st' := [.ref q2]) (go_callI (As := [.ref v7, .ref v18]) (st := [.ref q2]) C25 rfl rfl (by decide) ok_X4_init li_X4_init lm_X3_36 rfl rfl (Nat.le_of_ble_eq_true rfl) dX3_newText_27) ?_
  exact Cv.ret dX3_newText_30 rfl
theorem c_X3_readLevel_92 (RL : Mem → Int32 → Int32 → Option (Bool × Mem)) (RO : Mem → Int32 → Option (Bool × Mem)) (dr : Nat) (hdr : 20 ≤ dr) (hRL : ∀ (m : Mem) (a1 a2 : Int32), ShX m → ∀ v mE, RL m a1 a2 = some (v, mE) → Con true kX3_readLevel dr [.ref 2, .int a1, .int a2] m (eZ v) mE) (hRO : ∀ (m : Mem) (a1 : Int32), ShX m → ∀ v mE, RO m a1 = some (v, mE) → Con true kX3_readOne dr [.ref 2, .int a1] m (eZ v) mE) : ∀ n, ∀ (m : Mem) (a1 : Int32) (a2 : Int32) (a3 : Int32) (a4 : Int32) (hS : ShX m), Cv true (cX3_readLevel, 6, RX3, (dr + 1), ((false, none) : IK)) .ireturn eZ (F_X3_readLevel_92 RL RO n m a1 a2 a3 a4) m 92 [.ref 2, .int a1, .int a2, .int a3, .int a4, .null] [] := by
  intro n
  induction n with
  | zero => intro m a1 a2 a3 a4 hS; exact Cv.no
  | succ n ih =>
    intro m a1 a2 a3 a4 hS
    unfold F_X3_readLevel_92
    refine Cv.go (pc' := 94) (go_iload (i := 4) (x := a4) dX3_readLevel_92 rfl) ?_
    refine Cv.go (pc' := 95) (go_iload_n (i := 3) (x := a3) dX3_readLevel_94 rfl rfl) ?_
    refine Cv.ite (fun h30 => ?_) (fun h30 => ?_)
    · refine Cv.go (pc' := 146) (go_icmp_ge_t (tgt := 146) dX3_readLevel_95 rfl h30) ?_
      refine Cv.go (pc' := 147) (go_iconst dX3_readLevel_146 ic_1) ?_
      exact Cv.ret dX3_readLevel_147 rfl
    · refine Cv.go (pc' := 98) (go_icmp_ge_f 146 dX3_readLevel_95 rfl h30) ?_
      refine Cv.go (pc' := 99) (go_aload_n (i := 0) (x := 2) dX3_readLevel_98 rfl rfl) ?_
      refine Cv.go (pc' := 102) (go_getI (i := 2) cls3 (sx_k2 hS) (by decide) rfl lf_X3_50 (by decide) dX3_readLevel_99) ?_
      refine Cv.bnd fun v31 m32 e33 => ?_
      have C34 := kc_X3_levelOf m (mD m 2 2) v31 m32 e33
      refine Cv.go (pc' := 105) (st' := [.int v31]) (go_callS (As := [.int (mD m 2 2)]) (st := []) C34 (by omega) ok_X3_levelOf lt_X3_levelOf lm_X3_66 rfl rfl (Nat.le_of_ble_eq_true rfl) dX3_readLevel_102) ?_
      have zm32 := C34.1.2.2 rfl
      have hS := hS.sh zm32
      refine Cv.go (pc' := 106) (go_iload_n (i := 1) (x := a1) dX3_readLevel_105 rfl rfl) ?_
      refine Cv.ite (fun h35 => ?_) (fun h35 => ?_)
      · refine Cv.go (pc' := 109) (go_icmp_ne_f 146 dX3_readLevel_106 rfl h35) ?_
        refine Cv.go (pc' := 110) (go_aload_n (i := 0) (x := 2) dX3_readLevel_109 rfl rfl) ?_
        refine Cv.go (pc' := 113) (go_getI (i := 2) cls3 (sx_k2 hS) (by decide) rfl lf_X3_50 (by decide) dX3_readLevel_110) ?_
        refine Cv.namI fun x36 ex36 => ?_
        refine Cv.go (pc' := 115) (ls' := [.ref 2, .int a1, .int a2, .int a3, .int a4, .int x36]) (go_istore dX3_readLevel_113 (by decide) rfl) ?_
        refine Cv.go (pc' := 116) (go_aload_n (i := 0) (x := 2) dX3_readLevel_115 rfl rfl) ?_
        refine Cv.bnd fun v37 m38 e39 => ?_
        have C40 := kc_X3_advance m32 hS v37 m38 e39
        refine Cv.go (pc' := 119) (st' := [.int (bz v37)]) (go_callV (As := []) (st := []) C40 (by omega) ok_X3_advance li_X3_advance ls_X3_advance lm_X3_42 cls3 (sx_k2 hS) rfl rfl (Nat.le_of_ble_eq_true rfl) dX3_readLevel_116) ?_
        have zm38 := C40.1.2.2 rfl
        have hS := hS.sh zm38
        refine Cv.go (pc' := 120) (go_pop_i dX3_readLevel_119) ?_
        refine Cv.go (pc' := 121) (go_aload_n (i := 0) (x := 2) dX3_readLevel_120 rfl rfl) ?_
        refine Cv.go (pc' := 122) (go_iload_n (i := 1) (x := a1) dX3_readLevel_121 rfl rfl) ?_
        refine Cv.go (pc' := 123) (go_iconst dX3_readLevel_122 ic_1) ?_
        refine Cv.go (pc' := 124) (go_iadd dX3_readLevel_123) ?_
        refine Cv.go (pc' := 125) (go_iload_n (i := 2) (x := a2) dX3_readLevel_124 rfl rfl) ?_
        refine Cv.bnd fun v41 m42 e43 => ?_
        have C44 := hRL m38 (a1 + (1 : Int32)) a2 hS v41 m42 e43
        refine Cv.go (pc' := 128) (st' := [.int (bz v41)]) (go_callV (As := [.int (a1 + (1 : Int32)), .int a2]) (st := []) C44 (by omega) ok_X3_readLevel li_X3_readLevel ls_X3_readLevel lm_X3_56 cls3 (sx_k2 hS) rfl rfl (Nat.le_of_ble_eq_true rfl) dX3_readLevel_125) ?_
        have zm42 := C44.1.2.2 rfl
        have hS := hS.sh zm42
        refine Cv.ite (fun h45 => ?_) (fun h45 => ?_)
        · refine Cv.go (pc' := 131) (go_if_ne_f 133 dX3_readLevel_128 rfl h45) ?_
          refine Cv.go (pc' := 132) (go_iconst dX3_readLevel_131 ic_0) ?_
          exact Cv.ret dX3_readLevel_132 rfl
        · refine Cv.go (pc' := 133) (go_if_ne_t (tgt := 133) dX3_readLevel_128 rfl h45) ?_
          refine Cv.go (pc' := 134) (go_aload_n (i := 0) (x := 2) dX3_readLevel_133 rfl rfl) ?_
          refine Cv.go (pc' := 136) (go_iload (i := 5) (x := x36) dX3_readLevel_134 rfl) ?_
          refine Cv.bnd fun v46 m47 e48 => ?_
          have C49 := kc_X3_put m42 x36 hS v46 m47 e48
          refine Cv.go (pc' := 139) (st' := [.int (bz v46)]) (go_callV (As := [.int x36]) (st := []) C49 (by omega) ok_X3_put li_X3_put ls_X3_put lm_X3_63 cls3 (sx_k2 hS) rfl rfl (Nat.le_of_ble_eq_true rfl) dX3_readLevel_136) ?_
          have zm47 := C49.1.2.2 rfl
          have hS := hS.sh zm47
          refine Cv.go (pc' := 140) (go_pop_i dX3_readLevel_139) ?_
          refine Cv.go (pc' := 143) (ls' := [.ref 2, .int a1, .int a2, .int a3, .int (a4 + (1 : Int32)), .int x36]) (go_iinc (x := a4) (v := a4 + (1 : Int32)) dX3_readLevel_140 rfl rfl (by decide) rfl) ?_
          refine Cv.go (pc' := 92) (go_goto (tgt := 92) dX3_readLevel_143 rfl) ?_
          refine Cv.weak (ls' := [.ref 2, .int a1, .int a2, .int a3, .int (a4 + (1 : Int32)), .null]) (⟨Or.inr rfl, ⟨Or.inr rfl, ⟨Or.inr rfl, ⟨Or.inr rfl, ⟨Or.inr rfl, ⟨Or.inl rfl, True.intro⟩⟩⟩⟩⟩⟩) ?_
          exact ih m47 a1 a2 a3 (a4 + (1 : Int32)) hS
      · refine Cv.go (pc' := 146) (go_icmp_ne_t (tgt := 146) dX3_readLevel_106 rfl h35) ?_
        refine Cv.go (pc' := 147) (go_iconst dX3_readLevel_146 ic_1) ?_
        exact Cv.ret dX3_readLevel_147 rfl
theorem c_X3_readLevel_88 (RL : Mem → Int32 → Int32 → Option (Bool × Mem)) (RO : Mem → Int32 → Option (Bool × Mem)) (dr : Nat) (hdr : 20 ≤ dr) (hRL : ∀ (m : Mem) (a1 a2 : Int32), ShX m → ∀ v mE, RL m a1 a2 = some (v, mE) → Con true kX3_readLevel dr [.ref 2, .int a1, .int a2] m (eZ v) mE) (hRO : ∀ (m : Mem) (a1 : Int32), ShX m → ∀ v mE, RO m a1 = some (v, mE) → Con true kX3_readOne dr [.ref 2, .int a1] m (eZ v) mE) : ∀ (m : Mem) (a1 : Int32) (a2 : Int32) (s0 : Int32) (hS : ShX m), Cv true (cX3_readLevel, 6, RX3, (dr + 1), ((false, none) : IK)) .ireturn eZ (F_X3_readLevel_88 RL RO m a1 a2 s0) m 88 [.ref 2, .int a1, .int a2, .null, .null, .null] [.int s0] := by
  intro m a1 a2 s0 hS
  unfold F_X3_readLevel_88
  refine Cv.go (pc' := 89) (ls' := [.ref 2, .int a1, .int a2, .int s0, .null, .null]) (go_istore_n dX3_readLevel_88 rfl (by decide) rfl) ?_
  refine Cv.go (pc' := 90) (go_iconst dX3_readLevel_89 ic_0) ?_
  refine Cv.go (pc' := 92) (ls' := [.ref 2, .int a1, .int a2, .int s0, .int (0 : Int32), .null]) (go_istore dX3_readLevel_90 (by decide) rfl) ?_
  exact c_X3_readLevel_92 RL RO dr hdr hRL hRO FU m a1 a2 s0 (0 : Int32) hS
theorem c_X3_readLevel_63 (RL : Mem → Int32 → Int32 → Option (Bool × Mem)) (RO : Mem → Int32 → Option (Bool × Mem)) (dr : Nat) (hdr : 20 ≤ dr) (hRL : ∀ (m : Mem) (a1 a2 : Int32), ShX m → ∀ v mE, RL m a1 a2 = some (v, mE) → Con true kX3_readLevel dr [.ref 2, .int a1, .int a2] m (eZ v) mE) (hRO : ∀ (m : Mem) (a1 : Int32), ShX m → ∀ v mE, RO m a1 = some (v, mE) → Con true kX3_readOne dr [.ref 2, .int a1] m (eZ v) mE) : ∀ (m : Mem) (a1 : Int32) (a2 : Int32) (hS : ShX m), Cv true (cX3_readLevel, 6, RX3, (dr + 1), ((false, none) : IK)) .ireturn eZ (F_X3_readLevel_63 RL RO m a1 a2) m 63 [.ref 2, .int a1, .int a2, .null, .null, .null] [] := by
  intro m a1 a2 hS
  unfold F_X3_readLevel_63
  refine Cv.go (pc' := 64) (go_aload_n (i := 0) (x := 2) dX3_readLevel_63 rfl rfl) ?_
  refine Cv.go (pc' := 65) (go_iload_n (i := 1) (x := a1) dX3_readLevel_64 rfl rfl) ?_
  refine Cv.go (pc' := 66) (go_iconst dX3_readLevel_65 ic_1) ?_
  refine Cv.go (pc' := 67) (go_iadd dX3_readLevel_66) ?_
  refine Cv.go (pc' := 68) (go_iload_n (i := 2) (x := a2) dX3_readLevel_67 rfl rfl) ?_
  refine Cv.bnd fun v24 m25 e26 => ?_
  have C27 := hRL m (a1 + (1 : Int32)) a2 hS v24 m25 e26
  refine Cv.go (pc' := 71) (st' := [.int (bz v24)]) (go_callV (As := [.int (a1 + (1 : Int32)), .int a2]) (st := []) C27 (by omega) ok_X3_readLevel li_X3_readLevel ls_X3_readLevel lm_X3_56 cls3 (sx_k2 hS) rfl rfl (Nat.le_of_ble_eq_true rfl) dX3_readLevel_68) ?_
  have zm25 := C27.1.2.2 rfl
  have hS := hS.sh zm25
  refine Cv.ite (fun h28 => ?_) (fun h28 => ?_)
  · refine Cv.go (pc' := 74) (go_if_ne_f 76 dX3_readLevel_71 rfl h28) ?_
    refine Cv.go (pc' := 75) (go_iconst dX3_readLevel_74 ic_0) ?_
    exact Cv.ret dX3_readLevel_75 rfl
  · refine Cv.go (pc' := 76) (go_if_ne_t (tgt := 76) dX3_readLevel_71 rfl h28) ?_
    refine Cv.go (pc' := 77) (go_iload_n (i := 1) (x := a1) dX3_readLevel_76 rfl rfl) ?_
    refine Cv.go (pc' := 78) (go_iconst dX3_readLevel_77 ic_2) ?_
    refine Cv.ite (fun h29 => ?_) (fun h29 => ?_)
    · refine Cv.go (pc' := 81) (go_icmp_ne_f 85 dX3_readLevel_78 rfl h29) ?_
      refine Cv.go (pc' := 82) (go_iconst dX3_readLevel_81 ic_1) ?_
      refine Cv.go (pc' := 88) (go_goto (tgt := 88) dX3_readLevel_82 rfl) ?_
      exact c_X3_readLevel_88 RL RO dr hdr hRL hRO m25 a1 a2 (1 : Int32) hS
    · refine Cv.go (pc' := 85) (go_icmp_ne_t (tgt := 85) dX3_readLevel_78 rfl h29) ?_
      refine Cv.go (pc' := 88) (go_sipush dX3_readLevel_85 is_160) ?_
      exact c_X3_readLevel_88 RL RO dr hdr hRL hRO m25 a1 a2 (160 : Int32) hS
theorem kc_X3_readLevel (RL : Mem → Int32 → Int32 → Option (Bool × Mem)) (RO : Mem → Int32 → Option (Bool × Mem)) (dr : Nat) (hdr : 20 ≤ dr) (hRL : ∀ (m : Mem) (a1 a2 : Int32), ShX m → ∀ v mE, RL m a1 a2 = some (v, mE) → Con true kX3_readLevel dr [.ref 2, .int a1, .int a2] m (eZ v) mE) (hRO : ∀ (m : Mem) (a1 : Int32), ShX m → ∀ v mE, RO m a1 = some (v, mE) → Con true kX3_readOne dr [.ref 2, .int a1] m (eZ v) mE) (m : Mem) (a1 : Int32) (a2 : Int32) (hS : ShX m) : ∀ v mE, F_X3_readLevel RL RO m a1 a2 = some (v, mE) → Con true kX3_readLevel (dr + 1) [.ref 2, .int a1, .int a2] m (eZ v) mE := by
  refine Con.of (ini := false) (ls0 := [.ref 2, .int a1, .int a2, .null, .null, .null]) (ri := .ireturn) (by decide) (by intro z; cases z) rfl (Nat.le_of_ble_eq_true rfl) (fun v mE _ => RetTy.z) ?_
  show Cv true (cX3_readLevel, 6, RX3, (dr + 1), ((false, none) : IK)) .ireturn eZ (F_X3_readLevel RL RO m a1 a2) m 0 [.ref 2, .int a1, .int a2, .null, .null, .null] []
  unfold F_X3_readLevel
  refine Cv.go (pc' := 1) (go_iload_n (i := 1) (x := a1) dX3_readLevel_0 rfl rfl) ?_
  refine Cv.go (pc' := 2) (go_iconst dX3_readLevel_1 ic_4) ?_
  refine Cv.ite (fun h1 => ?_) (fun h1 => ?_)
  · refine Cv.go (pc' := 11) (go_icmp_le_t (tgt := 11) dX3_readLevel_2 rfl h1) ?_
    refine Cv.go (pc' := 12) (go_iload_n (i := 1) (x := a1) dX3_readLevel_11 rfl rfl) ?_
    refine Cv.go (pc' := 13) (go_iconst dX3_readLevel_12 ic_2) ?_
    refine Cv.ite (fun h2 => ?_) (fun h2 => ?_)
    · refine Cv.go (pc' := 16) (go_icmp_ne_f 63 dX3_readLevel_13 rfl h2) ?_
      refine Cv.go (pc' := 17) (go_aload_n (i := 0) (x := 2) dX3_readLevel_16 rfl rfl) ?_
      refine Cv.go (pc' := 20) (go_getI (i := 2) cls3 (sx_k2 hS) (by decide) rfl lf_X3_50 (by decide) dX3_readLevel_17) ?_
      refine Cv.go (pc' := 22) (go_bipush dX3_readLevel_20 ib_n12) ?_
      refine Cv.ite (fun h3 => ?_) (fun h3 => ?_)
      · refine Cv.go (pc' := 25) (go_icmp_ne_f 63 dX3_readLevel_22 rfl h3) ?_
        refine Cv.go (pc' := 26) (go_iload_n (i := 2) (x := a2) dX3_readLevel_25 rfl rfl) ?_
        refine Cv.go (pc' := 27) (go_iconst dX3_readLevel_26 ic_5) ?_
        refine Cv.ite (fun h4 => ?_) (fun h4 => ?_)
        · refine Cv.go (pc' := 61) (go_icmp_ge_t (tgt := 61) dX3_readLevel_27 rfl h4) ?_
          refine Cv.go (pc' := 62) (go_iconst dX3_readLevel_61 ic_0) ?_
          exact Cv.ret dX3_readLevel_62 rfl
        · refine Cv.go (pc' := 30) (go_icmp_ge_f 61 dX3_readLevel_27 rfl h4) ?_
          refine Cv.go (pc' := 31) (go_aload_n (i := 0) (x := 2) dX3_readLevel_30 rfl rfl) ?_
          refine Cv.bnd fun v5 m6 e7 => ?_
          have C8 := kc_X3_advance m hS v5 m6 e7
          refine Cv.go (pc' := 34) (st' := [.int (bz v5)]) (go_callV (As := []) (st := []) C8 (by omega) ok_X3_advance li_X3_advance ls_X3_advance lm_X3_42 cls3 (sx_k2 hS) rfl rfl (Nat.le_of_ble_eq_true rfl) dX3_readLevel_31) ?_
          have zm6 := C8.1.2.2 rfl
          have hS := hS.sh zm6
          refine Cv.ite (fun h9 => ?_) (fun h9 => ?_)
          · refine Cv.go (pc' := 61) (go_if_eq_t (tgt := 61) dX3_readLevel_34 rfl h9) ?_
            refine Cv.go (pc' := 62) (go_iconst dX3_readLevel_61 ic_0) ?_
            exact Cv.ret dX3_readLevel_62 rfl
          · refine Cv.go (pc' := 37) (go_if_eq_f 61 dX3_readLevel_34 rfl h9) ?_
            refine Cv.go (pc' := 38) (go_aload_n (i := 0) (x := 2) dX3_readLevel_37 rfl rfl) ?_
            refine Cv.go (pc' := 39) (go_iconst dX3_readLevel_38 ic_2) ?_
            refine Cv.go (pc' := 40) (go_iload_n (i := 2) (x := a2) dX3_readLevel_39 rfl rfl) ?_
            refine Cv.go (pc' := 41) (go_iconst dX3_readLevel_40 ic_1) ?_
            refine Cv.go (pc' := 42) (go_iadd dX3_readLevel_41) ?_
            refine Cv.bnd fun v10 m11 e12 => ?_
            have C13 := hRL m6 (2 : Int32) (a2 + (1 : Int32)) hS v10 m11 e12
            refine Cv.go (pc' := 45) (st' := [.int (bz v10)]) (go_callV (As := [.int (2 : Int32), .int (a2 + (1 : Int32))]) (st := []) C13 (by omega) ok_X3_readLevel li_X3_readLevel ls_X3_readLevel lm_X3_56 cls3 (sx_k2 hS) rfl rfl (Nat.le_of_ble_eq_true rfl) dX3_readLevel_42) ?_
            have zm11 := C13.1.2.2 rfl
            have hS := hS.sh zm11
            refine Cv.ite (fun h14 => ?_) (fun h14 => ?_)
            · refine Cv.go (pc' := 61) (go_if_eq_t (tgt := 61) dX3_readLevel_45 rfl h14) ?_
              refine Cv.go (pc' := 62) (go_iconst dX3_readLevel_61 ic_0) ?_
              exact Cv.ret dX3_readLevel_62 rfl
            · refine Cv.go (pc' := 48) (go_if_eq_f 61 dX3_readLevel_45 rfl h14) ?_
              refine Cv.go (pc' := 49) (go_aload_n (i := 0) (x := 2) dX3_readLevel_48 rfl rfl) ?_
              refine Cv.go (pc' := 51) (go_bipush dX3_readLevel_49 ib_n12) ?_
              refine Cv.bnd fun v15 m16 e17 => ?_
              have C18 := kc_X3_put m11 (-12 : Int32) hS v15 m16 e17
              refine Cv.go (pc' := 54) (st' := [.int (bz v15)]) (go_callV (As := [.int (-12 : Int32)]) (st := []) C18 (by omega) ok_X3_put li_X3_put ls_X3_put lm_X3_63 cls3 (sx_k2 hS) rfl rfl (Nat.le_of_ble_eq_true rfl) dX3_readLevel_51) ?_
              have zm16 := C18.1.2.2 rfl
              have hS := hS.sh zm16
              refine Cv.ite (fun h19 => ?_) (fun h19 => ?_)
              · refine Cv.go (pc' := 61) (go_if_eq_t (tgt := 61) dX3_readLevel_54 rfl h19) ?_
                refine Cv.go (pc' := 62) (go_iconst dX3_readLevel_61 ic_0) ?_
                exact Cv.ret dX3_readLevel_62 rfl
              · refine Cv.go (pc' := 57) (go_if_eq_f 61 dX3_readLevel_54 rfl h19) ?_
                refine Cv.go (pc' := 58) (go_iconst dX3_readLevel_57 ic_1) ?_
                refine Cv.go (pc' := 62) (go_goto (tgt := 62) dX3_readLevel_58 rfl) ?_
                exact Cv.ret dX3_readLevel_62 rfl
      · refine Cv.go (pc' := 63) (go_icmp_ne_t (tgt := 63) dX3_readLevel_22 rfl h3) ?_
        exact c_X3_readLevel_63 RL RO dr hdr hRL hRO m a1 a2 hS
    · refine Cv.go (pc' := 63) (go_icmp_ne_t (tgt := 63) dX3_readLevel_13 rfl h2) ?_
      exact c_X3_readLevel_63 RL RO dr hdr hRL hRO m a1 a2 hS
  · refine Cv.go (pc' := 5) (go_icmp_le_f 11 dX3_readLevel_2 rfl h1) ?_
    refine Cv.go (pc' := 6) (go_aload_n (i := 0) (x := 2) dX3_readLevel_5 rfl rfl) ?_
    refine Cv.go (pc' := 7) (go_iload_n (i := 2) (x := a2) dX3_readLevel_6 rfl rfl) ?_
    refine Cv.bnd fun v20 m21 e22 => ?_
    have C23 := hRO m a2 hS v20 m21 e22
    refine Cv.go (pc' := 10) (st' := [.int (bz v20)]) (go_callV (As := [.int a2]) (st := []) C23 (by omega) ok_X3_readOne li_X3_readOne ls_X3_readOne lm_X3_59 cls3 (sx_k2 hS) rfl rfl (Nat.le_of_ble_eq_true rfl) dX3_readLevel_7) ?_
    have zm21 := C23.1.2.2 rfl
    have hS := hS.sh zm21
    exact Cv.ret dX3_readLevel_10 rfl
theorem kc_X3_readOne (RL : Mem → Int32 → Int32 → Option (Bool × Mem)) (RO : Mem → Int32 → Option (Bool × Mem)) (dr : Nat) (hdr : 20 ≤ dr) (hRL : ∀ (m : Mem) (a1 a2 : Int32), ShX m → ∀ v mE, RL m a1 a2 = some (v, mE) → Con true kX3_readLevel dr [.ref 2, .int a1, .int a2] m (eZ v) mE) (hRO : ∀ (m : Mem) (a1 : Int32), ShX m → ∀ v mE, RO m a1 = some (v, mE) → Con true kX3_readOne dr [.ref 2, .int a1] m (eZ v) mE) (m : Mem) (a1 : Int32) (hS : ShX m) : ∀ v mE, F_X3_readOne RL RO m a1 = some (v, mE) → Con true kX3_readOne (dr + 1) [.ref 2, .int a1] m (eZ v) mE := by
  refine Con.of (ini := false) (ls0 := [.ref 2, .int a1]) (ri := .ireturn) (by decide) (by intro z; cases z) rfl (Nat.le_of_ble_eq_true rfl) (fun v mE _ => RetTy.z) ?_
  show Cv true (cX3_readOne, 2, RX3, (dr + 1), ((false, none) : IK)) .ireturn eZ (F_X3_readOne RL RO m a1) m 0 [.ref 2, .int a1] []
  unfold F_X3_readOne
  refine Cv.go (pc' := 1) (go_aload_n (i := 0) (x := 2) dX3_readOne_0 rfl rfl) ?_
  refine Cv.go (pc' := 4) (go_getI (i := 2) cls3 (sx_k2 hS) (by decide) rfl lf_X3_50 (by decide) dX3_readOne_1) ?_
  refine Cv.go (pc' := 6) (go_bipush dX3_readOne_4 ib_n6) ?_
  refine Cv.ite (fun h1 => ?_) (fun h1 => ?_)
  · refine Cv.go (pc' := 33) (go_icmp_lt_t (tgt := 33) dX3_readOne_6 rfl h1) ?_
    refine Cv.go (pc' := 34) (go_aload_n (i := 0) (x := 2) dX3_readOne_33 rfl rfl) ?_
    refine Cv.go (pc' := 37) (go_getI (i := 2) cls3 (sx_k2 hS) (by decide) rfl lf_X3_50 (by decide) dX3_readOne_34) ?_
    refine Cv.go (pc' := 39) (go_bipush dX3_readOne_37 ib_n16) ?_
    refine Cv.ite (fun h2 => ?_) (fun h2 => ?_)
    · refine Cv.go (pc' := 42) (go_icmp_ne_f 79 dX3_readOne_39 rfl h2) ?_
      refine Cv.go (pc' := 43) (go_iload_n (i := 1) (x := a1) dX3_readOne_42 rfl rfl) ?_
      refine Cv.go (pc' := 44) (go_iconst dX3_readOne_43 ic_5) ?_
      refine Cv.ite (fun h21 => ?_) (fun h21 => ?_)
      · refine Cv.go (pc' := 77) (go_icmp_ge_t (tgt := 77) dX3_readOne_44 rfl h21) ?_
        refine Cv.go (pc' := 78) (go_iconst dX3_readOne_77 ic_0) ?_
        exact Cv.ret dX3_readOne_78 rfl
      · refine Cv.go (pc' := 47) (go_icmp_ge_f 77 dX3_readOne_44 rfl h21) ?_
        refine Cv.go (pc' := 48) (go_aload_n (i := 0) (x := 2) dX3_readOne_47 rfl rfl) ?_
        refine Cv.bnd fun v22 m23 e24 => ?_
        have C25 := kc_X3_advance m hS v22 m23 e24
        refine Cv.go (pc' := 51) (st' := [.int (bz v22)]) (go_callV (As := []) (st := []) C25 (by omega) ok_X3_advance li_X3_advance ls_X3_advance lm_X3_42 cls3 (sx_k2 hS) rfl rfl (Nat.le_of_ble_eq_true rfl) dX3_readOne_48) ?_
        have zm23 := C25.1.2.2 rfl
        have hS := hS.sh zm23
        refine Cv.ite (fun h26 => ?_) (fun h26 => ?_)
        · refine Cv.go (pc' := 77) (go_if_eq_t (tgt := 77) dX3_readOne_51 rfl h26) ?_
          refine Cv.go (pc' := 78) (go_iconst dX3_readOne_77 ic_0) ?_
          exact Cv.ret dX3_readOne_78 rfl
        · refine Cv.go (pc' := 54) (go_if_eq_f 77 dX3_readOne_51 rfl h26) ?_
          refine Cv.go (pc' := 55) (go_aload_n (i := 0) (x := 2) dX3_readOne_54 rfl rfl) ?_
          refine Cv.go (pc' := 56) (go_iload_n (i := 1) (x := a1) dX3_readOne_55 rfl rfl) ?_
          refine Cv.go (pc' := 57) (go_iconst dX3_readOne_56 ic_1) ?_
          refine Cv.go (pc' := 58) (go_iadd dX3_readOne_57) ?_
          refine Cv.bnd fun v27 m28 e29 => ?_
          have C30 := hRO m23 (a1 + (1 : Int32)) hS v27 m28 e29
          refine Cv.go (pc' := 61) (st' := [.int (bz v27)]) (go_callV (As := [.int (a1 + (1 : Int32))]) (st := []) C30 (by omega) ok_X3_readOne li_X3_readOne ls_X3_readOne lm_X3_59 cls3 (sx_k2 hS) rfl rfl (Nat.le_of_ble_eq_true rfl) dX3_readOne_58) ?_
          have zm28 := C30.1.2.2 rfl
          have hS := hS.sh zm28
          refine Cv.ite (fun h31 => ?_) (fun h31 => ?_)
          · refine Cv.go (pc' := 77) (go_if_eq_t (tgt := 77) dX3_readOne_61 rfl h31) ?_
            refine Cv.go (pc' := 78) (go_iconst dX3_readOne_77 ic_0) ?_
            exact Cv.ret dX3_readOne_78 rfl
          · refine Cv.go (pc' := 64) (go_if_eq_f 77 dX3_readOne_61 rfl h31) ?_
            refine Cv.go (pc' := 65) (go_aload_n (i := 0) (x := 2) dX3_readOne_64 rfl rfl) ?_
            refine Cv.go (pc' := 67) (go_bipush dX3_readOne_65 ib_n18) ?_
            refine Cv.bnd fun v32 m33 e34 => ?_
            have C35 := kc_X3_put m28 (-18 : Int32) hS v32 m33 e34
            refine Cv.go (pc' := 70) (st' := [.int (bz v32)]) (go_callV (As := [.int (-18 : Int32)]) (st := []) C35 (by omega) ok_X3_put li_X3_put ls_X3_put lm_X3_63 cls3 (sx_k2 hS) rfl rfl (Nat.le_of_ble_eq_true rfl) dX3_readOne_67) ?_
            have zm33 := C35.1.2.2 rfl
            have hS := hS.sh zm33
            refine Cv.ite (fun h36 => ?_) (fun h36 => ?_)
            · refine Cv.go (pc' := 77) (go_if_eq_t (tgt := 77) dX3_readOne_70 rfl h36) ?_
              refine Cv.go (pc' := 78) (go_iconst dX3_readOne_77 ic_0) ?_
              exact Cv.ret dX3_readOne_78 rfl
            · refine Cv.go (pc' := 73) (go_if_eq_f 77 dX3_readOne_70 rfl h36) ?_
              refine Cv.go (pc' := 74) (go_iconst dX3_readOne_73 ic_1) ?_
              refine Cv.go (pc' := 78) (go_goto (tgt := 78) dX3_readOne_74 rfl) ?_
              exact Cv.ret dX3_readOne_78 rfl
    · refine Cv.go (pc' := 79) (go_icmp_ne_t (tgt := 79) dX3_readOne_39 rfl h2) ?_
      refine Cv.go (pc' := 80) (go_aload_n (i := 0) (x := 2) dX3_readOne_79 rfl rfl) ?_
      refine Cv.go (pc' := 83) (go_getI (i := 2) cls3 (sx_k2 hS) (by decide) rfl lf_X3_50 (by decide) dX3_readOne_80) ?_
      refine Cv.go (pc' := 85) (go_bipush dX3_readOne_83 ib_n19) ?_
      refine Cv.ite (fun h3 => ?_) (fun h3 => ?_)
      · refine Cv.go (pc' := 88) (go_icmp_ne_f 131 dX3_readOne_85 rfl h3) ?_
        refine Cv.go (pc' := 89) (go_iload_n (i := 1) (x := a1) dX3_readOne_88 rfl rfl) ?_
        refine Cv.go (pc' := 90) (go_iconst dX3_readOne_89 ic_5) ?_
        refine Cv.ite (fun h4 => ?_) (fun h4 => ?_)
        · refine Cv.go (pc' := 131) (go_icmp_ge_t (tgt := 131) dX3_readOne_90 rfl h4) ?_
          refine Cv.go (pc' := 132) (go_iconst dX3_readOne_131 ic_0) ?_
          exact Cv.ret dX3_readOne_132 rfl
        · refine Cv.go (pc' := 93) (go_icmp_ge_f 131 dX3_readOne_90 rfl h4) ?_
          refine Cv.go (pc' := 94) (go_aload_n (i := 0) (x := 2) dX3_readOne_93 rfl rfl) ?_
          refine Cv.bnd fun v5 m6 e7 => ?_
          have C8 := kc_X3_advance m hS v5 m6 e7
          refine Cv.go (pc' := 97) (st' := [.int (bz v5)]) (go_callV (As := []) (st := []) C8 (by omega) ok_X3_advance li_X3_advance ls_X3_advance lm_X3_42 cls3 (sx_k2 hS) rfl rfl (Nat.le_of_ble_eq_true rfl) dX3_readOne_94) ?_
          have zm6 := C8.1.2.2 rfl
          have hS := hS.sh zm6
          refine Cv.ite (fun h9 => ?_) (fun h9 => ?_)
          · refine Cv.go (pc' := 131) (go_if_eq_t (tgt := 131) dX3_readOne_97 rfl h9) ?_
            refine Cv.go (pc' := 132) (go_iconst dX3_readOne_131 ic_0) ?_
            exact Cv.ret dX3_readOne_132 rfl
          · refine Cv.go (pc' := 100) (go_if_eq_f 131 dX3_readOne_97 rfl h9) ?_
            refine Cv.go (pc' := 101) (go_aload_n (i := 0) (x := 2) dX3_readOne_100 rfl rfl) ?_
            refine Cv.go (pc' := 102) (go_iconst dX3_readOne_101 ic_0) ?_
            refine Cv.go (pc' := 103) (go_iload_n (i := 1) (x := a1) dX3_readOne_102 rfl rfl) ?_
            refine Cv.go (pc' := 104) (go_iconst dX3_readOne_103 ic_1) ?_
            refine Cv.go (pc' := 105) (go_iadd dX3_readOne_104) ?_
            refine Cv.bnd fun v10 m11 e12 => ?_
            have C13 := hRL m6 (0 : Int32) (a1 + (1 : Int32)) hS v10 m11 e12
            refine Cv.go (pc' := 108) (st' := [.int (bz v10)]) (go_callV (As := [.int (0 : Int32), .int (a1 + (1 : Int32))]) (st := []) C13 (by omega) ok_X3_readLevel li_X3_readLevel ls_X3_readLevel lm_X3_56 cls3 (sx_k2 hS) rfl rfl (Nat.le_of_ble_eq_true rfl) dX3_readOne_105) ?_
            have zm11 := C13.1.2.2 rfl
            have hS := hS.sh zm11
            refine Cv.ite (fun h14 => ?_) (fun h14 => ?_)
            · refine Cv.go (pc' := 131) (go_if_eq_t (tgt := 131) dX3_readOne_108 rfl h14) ?_
              refine Cv.go (pc' := 132) (go_iconst dX3_readOne_131 ic_0) ?_
              exact Cv.ret dX3_readOne_132 rfl
            · refine Cv.go (pc' := 111) (go_if_eq_f 131 dX3_readOne_108 rfl h14) ?_
              refine Cv.go (pc' := 112) (go_aload_n (i := 0) (x := 2) dX3_readOne_111 rfl rfl) ?_
              refine Cv.go (pc' := 115) (go_getI (i := 2) cls3 (sx_k2 hS) (by decide) rfl lf_X3_50 (by decide) dX3_readOne_112) ?_
              refine Cv.go (pc' := 117) (go_bipush dX3_readOne_115 ib_n20) ?_
              refine Cv.ite (fun h15 => ?_) (fun h15 => ?_)
              · refine Cv.go (pc' := 120) (go_icmp_ne_f 131 dX3_readOne_117 rfl h15) ?_
                refine Cv.go (pc' := 121) (go_aload_n (i := 0) (x := 2) dX3_readOne_120 rfl rfl) ?_
                refine Cv.bnd fun v16 m17 e18 => ?_
                have C19 := kc_X3_advance m11 hS v16 m17 e18
                refine Cv.go (pc' := 124) (st' := [.int (bz v16)]) (go_callV (As := []) (st := []) C19 (by omega) ok_X3_advance li_X3_advance ls_X3_advance lm_X3_42 cls3 (sx_k2 hS) rfl rfl (Nat.le_of_ble_eq_true rfl) dX3_readOne_121) ?_
                have zm17 := C19.1.2.2 rfl
                have hS := hS.sh zm17
                refine Cv.ite (fun h20 => ?_) (fun h20 => ?_)
                · refine Cv.go (pc' := 131) (go_if_eq_t (tgt := 131) dX3_readOne_124 rfl h20) ?_
                  refine Cv.go (pc' := 132) (go_iconst dX3_readOne_131 ic_0) ?_
                  exact Cv.ret dX3_readOne_132 rfl
                · refine Cv.go (pc' := 127) (go_if_eq_f 131 dX3_readOne_124 rfl h20) ?_
                  refine Cv.go (pc' := 128) (go_iconst dX3_readOne_127 ic_1) ?_
                  refine Cv.go (pc' := 132) (go_goto (tgt := 132) dX3_readOne_128 rfl) ?_
                  exact Cv.ret dX3_readOne_132 rfl
              · refine Cv.go (pc' := 131) (go_icmp_ne_t (tgt := 131) dX3_readOne_117 rfl h15) ?_
                refine Cv.go (pc' := 132) (go_iconst dX3_readOne_131 ic_0) ?_
                exact Cv.ret dX3_readOne_132 rfl
      · refine Cv.go (pc' := 131) (go_icmp_ne_t (tgt := 131) dX3_readOne_85 rfl h3) ?_
        refine Cv.go (pc' := 132) (go_iconst dX3_readOne_131 ic_0) ?_
        exact Cv.ret dX3_readOne_132 rfl
  · refine Cv.go (pc' := 9) (go_icmp_lt_f 33 dX3_readOne_6 rfl h1) ?_
    refine Cv.go (pc' := 10) (go_aload_n (i := 0) (x := 2) dX3_readOne_9 rfl rfl) ?_
    refine Cv.go (pc' := 11) (go_aload_n (i := 0) (x := 2) dX3_readOne_10 rfl rfl) ?_
    refine Cv.go (pc' := 14) (go_getI (i := 2) cls3 (sx_k2 hS) (by decide) rfl lf_X3_50 (by decide) dX3_readOne_11) ?_
    refine Cv.bnd fun v37 m38 e39 => ?_
    have C40 := kc_X3_put m (mD m 2 2) hS v37 m38 e39
    refine Cv.go (pc' := 17) (st' := [.int (bz v37)]) (go_callV (As := [.int (mD m 2 2)]) (st := []) C40 (by omega) ok_X3_put li_X3_put ls_X3_put lm_X3_63 cls3 (sx_k2 hS) rfl rfl (Nat.le_of_ble_eq_true rfl) dX3_readOne_14) ?_
    have zm38 := C40.1.2.2 rfl
    have hS := hS.sh zm38
    refine Cv.ite (fun h41 => ?_) (fun h41 => ?_)
    · refine Cv.go (pc' := 31) (go_if_eq_t (tgt := 31) dX3_readOne_17 rfl h41) ?_
      refine Cv.go (pc' := 32) (go_iconst dX3_readOne_31 ic_0) ?_
      exact Cv.ret dX3_readOne_32 rfl
    · refine Cv.go (pc' := 20) (go_if_eq_f 31 dX3_readOne_17 rfl h41) ?_
      refine Cv.go (pc' := 21) (go_aload_n (i := 0) (x := 2) dX3_readOne_20 rfl rfl) ?_
      refine Cv.bnd fun v42 m43 e44 => ?_
      have C45 := kc_X3_advance m38 hS v42 m43 e44
      refine Cv.go (pc' := 24) (st' := [.int (bz v42)]) (go_callV (As := []) (st := []) C45 (by omega) ok_X3_advance li_X3_advance ls_X3_advance lm_X3_42 cls3 (sx_k2 hS) rfl rfl (Nat.le_of_ble_eq_true rfl) dX3_readOne_21) ?_
      have zm43 := C45.1.2.2 rfl
      have hS := hS.sh zm43
      refine Cv.ite (fun h46 => ?_) (fun h46 => ?_)
      · refine Cv.go (pc' := 31) (go_if_eq_t (tgt := 31) dX3_readOne_24 rfl h46) ?_
        refine Cv.go (pc' := 32) (go_iconst dX3_readOne_31 ic_0) ?_
        exact Cv.ret dX3_readOne_32 rfl
      · refine Cv.go (pc' := 27) (go_if_eq_f 31 dX3_readOne_24 rfl h46) ?_
        refine Cv.go (pc' := 28) (go_iconst dX3_readOne_27 ic_1) ?_
        refine Cv.go (pc' := 32) (go_goto (tgt := 32) dX3_readOne_28 rfl) ?_
        exact Cv.ret dX3_readOne_32 rfl
theorem kc_rec : ∀ n, (∀ (m : Mem) (a1 a2 : Int32), ShX m → ∀ v mE, (F_rec n).1 m a1 a2 = some (v, mE) → Con true kX3_readLevel (20 + n) [.ref 2, .int a1, .int a2] m (eZ v) mE) ∧ (∀ (m : Mem) (a1 : Int32), ShX m → ∀ v mE, (F_rec n).2 m a1 = some (v, mE) → Con true kX3_readOne (20 + n) [.ref 2, .int a1] m (eZ v) mE) := by
  intro n
  induction n with
  | zero => exact ⟨(fun m a1 a2 _ v mE h => by cases h), (fun m a1 _ v mE h => by cases h)⟩
  | succ n ih => exact ⟨fun m a1 a2 hS v mE h => kc_X3_readLevel _ _ (20 + n) (by omega) ih.1 ih.2 m a1 a2 hS v mE h, fun m a1 hS v mE h => kc_X3_readOne _ _ (20 + n) (by omega) ih.1 ih.2 m a1 hS v mE h⟩
theorem kc_rec1 (m : Mem) (a1 a2 : Int32) (hS : ShX m) : ∀ v mE, (F_rec 64).1 m a1 a2 = some (v, mE) → Con true kX3_readLevel 84 [.ref 2, .int a1, .int a2] m (eZ v) mE := (kc_rec 64).1 m a1 a2 hS
theorem kc_X3_readPart (m : Mem) (a1 : Int32) (a2 : Int32) (hS : ShX m) : ∀ v mE, F_X3_readPart m a1 a2 = some (v, mE) → Con true kX3_readPart 85 [.ref 2, .int a1, .int a2] m (eZ v) mE := by
  refine Con.of (ini := false) (ls0 := [.ref 2, .int a1, .int a2]) (ri := .ireturn) (by decide) (by intro z; cases z) rfl (Nat.le_of_ble_eq_true rfl) (fun v mE _ => RetTy.z) ?_
  show Cv true (cX3_readPart, 3, RX3, 85, ((false, none) : IK)) .ireturn eZ (F_X3_readPart m a1 a2) m 0 [.ref 2, .int a1, .int a2] []
  unfold F_X3_readPart
  refine Cv.go (pc' := 1) (go_aload_n (i := 0) (x := 2) dX3_readPart_0 rfl rfl) ?_
  refine Cv.go (pc' := 4) (go_getI (i := 2) cls3 (sx_k2 hS) (by decide) rfl lf_X3_50 (by decide) dX3_readPart_1) ?_
  refine Cv.go (pc' := 5) (go_iload_n (i := 2) (x := a2) dX3_readPart_4 rfl rfl) ?_
  refine Cv.ite (fun h1 => ?_) (fun h1 => ?_)
  · refine Cv.go (pc' := 10) (go_icmp_eq_t (tgt := 10) dX3_readPart_5 rfl h1) ?_
    refine Cv.go (pc' := 11) (go_aload_n (i := 0) (x := 2) dX3_readPart_10 rfl rfl) ?_
    refine Cv.bnd fun v2 m3 e4 => ?_
    have C5 := kc_X3_advance m hS v2 m3 e4
    refine Cv.go (pc' := 14) (st' := [.int (bz v2)]) (go_callV (As := []) (st := []) C5 (by decide) ok_X3_advance li_X3_advance ls_X3_advance lm_X3_42 cls3 (sx_k2 hS) rfl rfl (Nat.le_of_ble_eq_true rfl) dX3_readPart_11) ?_
    have zm3 := C5.1.2.2 rfl
    have hS := hS.sh zm3
    refine Cv.go (pc' := 15) (go_pop_i dX3_readPart_14) ?_
    refine Cv.go (pc' := 16) (go_aload_n (i := 0) (x := 2) dX3_readPart_15 rfl rfl) ?_
    refine Cv.go (pc' := 17) (go_iconst dX3_readPart_16 ic_0) ?_
    refine Cv.go (pc' := 18) (go_iconst dX3_readPart_17 ic_0) ?_
    refine Cv.bnd fun v6 m7 e8 => ?_
    have C9 := kc_rec1 m3 (0 : Int32) (0 : Int32) hS v6 m7 e8
    refine Cv.go (pc' := 21) (st' := [.int (bz v6)]) (go_callV (As := [.int (0 : Int32), .int (0 : Int32)]) (st := []) C9 (by decide) ok_X3_readLevel li_X3_readLevel ls_X3_readLevel lm_X3_56 cls3 (sx_k2 hS) rfl rfl (Nat.le_of_ble_eq_true rfl) dX3_readPart_18) ?_
    have zm7 := C9.1.2.2 rfl
    have hS := hS.sh zm7
    refine Cv.ite (fun h10 => ?_) (fun h10 => ?_)
    · refine Cv.go (pc' := 33) (go_if_eq_t (tgt := 33) dX3_readPart_21 rfl h10) ?_
      refine Cv.go (pc' := 34) (go_iconst dX3_readPart_33 ic_0) ?_
      exact Cv.ret dX3_readPart_34 rfl
    · refine Cv.go (pc' := 24) (go_if_eq_f 33 dX3_readPart_21 rfl h10) ?_
      refine Cv.go (pc' := 25) (go_aload_n (i := 0) (x := 2) dX3_readPart_24 rfl rfl) ?_
      refine Cv.go (pc' := 28) (go_getI (i := 2) cls3 (sx_k2 hS) (by decide) rfl lf_X3_50 (by decide) dX3_readPart_25) ?_
      refine Cv.go (pc' := 30) (go_bipush dX3_readPart_28 ib_n21) ?_
      refine Cv.ite (fun h11 => ?_) (fun h11 => ?_)
      · refine Cv.go (pc' := 35) (go_icmp_eq_t (tgt := 35) dX3_readPart_30 rfl h11) ?_
        refine Cv.go (pc' := 36) (go_aload_n (i := 0) (x := 2) dX3_readPart_35 rfl rfl) ?_
        refine Cv.bnd fun v12 m13 e14 => ?_
        have C15 := kc_X3_advance m7 hS v12 m13 e14
        refine Cv.go (pc' := 39) (st' := [.int (bz v12)]) (go_callV (As := []) (st := []) C15 (by decide) ok_X3_advance li_X3_advance ls_X3_advance lm_X3_42 cls3 (sx_k2 hS) rfl rfl (Nat.le_of_ble_eq_true rfl) dX3_readPart_36) ?_
        have zm13 := C15.1.2.2 rfl
        have hS := hS.sh zm13
        refine Cv.go (pc' := 40) (go_pop_i dX3_readPart_39) ?_
        refine Cv.go (pc' := 41) (go_aload_n (i := 0) (x := 2) dX3_readPart_40 rfl rfl) ?_
        refine Cv.go (pc' := 44) (go_getR (i := 7) cls3 (sx_k2 hS) (by decide) rfl lf_X3_18 (Or.inr ⟨_, rfl⟩) (sx_r2_7 hS) dX3_readPart_41) ?_
        refine Cv.go (pc' := 45) (go_iload_n (i := 1) (x := a1) dX3_readPart_44 rfl rfl) ?_
        refine Cv.go (pc' := 46) (go_aload_n (i := 0) (x := 2) dX3_readPart_45 rfl rfl) ?_
        refine Cv.go (pc' := 49) (go_getI (i := 6) cls3 (sx_k2 hS) (by decide) rfl lf_X3_27 (by decide) dX3_readPart_46) ?_
        refine Cv.gif fun g16 => ?_
        refine Cv.go (pc' := 50) (go_iastore (sx_k5 hS) g16 dX3_readPart_49) ?_
        refine Cv.namM fun m17 em17 => ?_
        have zm17 : SameSh m13 m17 := em17 ▸ SameSh.d
        have hS := hS.sh zm17
        refine Cv.go (pc' := 51) (go_iconst dX3_readPart_50 ic_1) ?_
        exact Cv.ret dX3_readPart_51 rfl
      · refine Cv.go (pc' := 33) (go_icmp_eq_f 35 dX3_readPart_30 rfl h11) ?_
        refine Cv.go (pc' := 34) (go_iconst dX3_readPart_33 ic_0) ?_
        exact Cv.ret dX3_readPart_34 rfl
  · refine Cv.go (pc' := 8) (go_icmp_eq_f 10 dX3_readPart_5 rfl h1) ?_
    refine Cv.go (pc' := 9) (go_iconst dX3_readPart_8 ic_0) ?_
    exact Cv.ret dX3_readPart_9 rfl
theorem c_X3_read_59 : ∀ (m : Mem) (s0 : Int32) (hS : ShX m), Cv true (cX3_read, 2, RX3, 86, ((false, none) : IK)) .ireturn eI (F_X3_read_59 m s0) m 59 [.ref 2, .null] [.int s0] := by
  intro m s0 hS
  unfold F_X3_read_59
  refine Cv.go (pc' := 60) (ls' := [.ref 2, .int s0]) (go_istore_n dX3_read_59 rfl (by decide) rfl) ?_
  refine Cv.go (pc' := 61) (go_iload_n (i := 1) (x := s0) dX3_read_60 rfl rfl) ?_
  refine Cv.ite (fun h23 => ?_) (fun h23 => ?_)
  · refine Cv.go (pc' := 68) (go_if_eq_t (tgt := 68) dX3_read_61 rfl h23) ?_
    refine Cv.go (pc' := 69) (go_aload_n (i := 0) (x := 2) dX3_read_68 rfl rfl) ?_
    refine Cv.go (pc' := 72) (go_getI (i := 3) cls3 (sx_k2 hS) (by decide) rfl lf_X3_53 (by decide) dX3_read_69) ?_
    exact Cv.ret dX3_read_72 rfl
  · refine Cv.go (pc' := 64) (go_if_eq_f 68 dX3_read_61 rfl h23) ?_
    refine Cv.go (pc' := 65) (go_iconst dX3_read_64 ic_n1) ?_
    refine Cv.go (pc' := 72) (go_goto (tgt := 72) dX3_read_65 rfl) ?_
    exact Cv.ret dX3_read_72 rfl
theorem c_X3_read_58 : ∀ (m : Mem) (hS : ShX m), Cv true (cX3_read, 2, RX3, 86, ((false, none) : IK)) .ireturn eI (F_X3_read_58 m) m 58 [.ref 2, .null] [] := by
  intro m hS
  unfold F_X3_read_58
  refine Cv.go (pc' := 59) (go_iconst dX3_read_58 ic_0) ?_
  exact c_X3_read_59 m (0 : Int32) hS
theorem kc_X3_read (m : Mem) (hS : ShX m) : ∀ v mE, F_X3_read m = some (v, mE) → Con true kX3_read 86 [.ref 2] m (eI v) mE := by
  refine Con.of (ini := false) (ls0 := [.ref 2, .null]) (ri := .ireturn) (by decide) (by intro z; cases z) rfl (Nat.le_of_ble_eq_true rfl) (fun v mE _ => RetTy.i) ?_
  show Cv true (cX3_read, 2, RX3, 86, ((false, none) : IK)) .ireturn eI (F_X3_read m) m 0 [.ref 2, .null] []
  unfold F_X3_read
  refine Cv.go (pc' := 1) (go_aload_n (i := 0) (x := 2) dX3_read_0 rfl rfl) ?_
  refine Cv.go (pc' := 2) (go_iconst dX3_read_1 ic_0) ?_
  refine Cv.go (pc' := 5) (go_putI (i := 6) cls3 (sx_k2 hS) (by decide) rfl lf_X3_27 (by decide) rfl rfl rfl dX3_read_2) ?_
  refine Cv.namM fun m1 em1 => ?_
  have zm1 : SameSh m m1 := em1 ▸ SameSh.d
  have hS := hS.sh zm1
  refine Cv.go (pc' := 6) (go_aload_n (i := 0) (x := 2) dX3_read_5 rfl rfl) ?_
  refine Cv.go (pc' := 7) (go_iconst dX3_read_6 ic_0) ?_
  refine Cv.go (pc' := 10) (go_putI (i := 4) cls3 (sx_k2 hS) (by decide) rfl lf_X3_39 (by decide) rfl rfl rfl dX3_read_7) ?_
  refine Cv.namM fun m2 em2 => ?_
  have zm2 : SameSh m1 m2 := em2 ▸ SameSh.d
  have hS := hS.sh zm2
  refine Cv.go (pc' := 11) (go_aload_n (i := 0) (x := 2) dX3_read_10 rfl rfl) ?_
  refine Cv.bnd fun v3 m4 e5 => ?_
  have C6 := kc_X3_advance m2 hS v3 m4 e5
  refine Cv.go (pc' := 14) (st' := [.int (bz v3)]) (go_callV (As := []) (st := []) C6 (by decide) ok_X3_advance li_X3_advance ls_X3_advance lm_X3_42 cls3 (sx_k2 hS) rfl rfl (Nat.le_of_ble_eq_true rfl) dX3_read_11) ?_
  have zm4 := C6.1.2.2 rfl
  have hS := hS.sh zm4
  refine Cv.go (pc' := 15) (go_pop_i dX3_read_14) ?_
  refine Cv.go (pc' := 16) (go_aload_n (i := 0) (x := 2) dX3_read_15 rfl rfl) ?_
  refine Cv.go (pc' := 17) (go_iconst dX3_read_16 ic_0) ?_
  refine Cv.go (pc' := 19) (go_bipush dX3_read_17 ib_n7) ?_
  refine Cv.bnd fun v7 m8 e9 => ?_
  have C10 := kc_X3_readPart m4 (0 : Int32) (-7 : Int32) hS v7 m8 e9
  refine Cv.go (pc' := 22) (st' := [.int (bz v7)]) (go_callV (As := [.int (0 : Int32), .int (-7 : Int32)]) (st := []) C10 (by decide) ok_X3_readPart li_X3_readPart ls_X3_readPart lm_X3_46 cls3 (sx_k2 hS) rfl rfl (Nat.le_of_ble_eq_true rfl) dX3_read_19) ?_
  have zm8 := C10.1.2.2 rfl
  have hS := hS.sh zm8
  refine Cv.ite (fun h11 => ?_) (fun h11 => ?_)
  · refine Cv.go (pc' := 58) (go_if_eq_t (tgt := 58) dX3_read_22 rfl h11) ?_
    exact c_X3_read_58 m8 hS
  · refine Cv.go (pc' := 25) (go_if_eq_f 58 dX3_read_22 rfl h11) ?_
    refine Cv.go (pc' := 26) (go_aload_n (i := 0) (x := 2) dX3_read_25 rfl rfl) ?_
    refine Cv.go (pc' := 27) (go_iconst dX3_read_26 ic_1) ?_
    refine Cv.go (pc' := 29) (go_bipush dX3_read_27 ib_n8) ?_
    refine Cv.bnd fun v12 m13 e14 => ?_
    have C15 := kc_X3_readPart m8 (1 : Int32) (-8 : Int32) hS v12 m13 e14
    refine Cv.go (pc' := 32) (st' := [.int (bz v12)]) (go_callV (As := [.int (1 : Int32), .int (-8 : Int32)]) (st := []) C15 (by decide) ok_X3_readPart li_X3_readPart ls_X3_readPart lm_X3_46 cls3 (sx_k2 hS) rfl rfl (Nat.le_of_ble_eq_true rfl) dX3_read_29) ?_
    have zm13 := C15.1.2.2 rfl
    have hS := hS.sh zm13
    refine Cv.ite (fun h16 => ?_) (fun h16 => ?_)
    · refine Cv.go (pc' := 58) (go_if_eq_t (tgt := 58) dX3_read_32 rfl h16) ?_
      exact c_X3_read_58 m13 hS
    · refine Cv.go (pc' := 35) (go_if_eq_f 58 dX3_read_32 rfl h16) ?_
      refine Cv.go (pc' := 36) (go_aload_n (i := 0) (x := 2) dX3_read_35 rfl rfl) ?_
      refine Cv.go (pc' := 37) (go_iconst dX3_read_36 ic_2) ?_
      refine Cv.go (pc' := 39) (go_bipush dX3_read_37 ib_n9) ?_
      refine Cv.bnd fun v17 m18 e19 => ?_
      have C20 := kc_X3_readPart m13 (2 : Int32) (-9 : Int32) hS v17 m18 e19
      refine Cv.go (pc' := 42) (st' := [.int (bz v17)]) (go_callV (As := [.int (2 : Int32), .int (-9 : Int32)]) (st := []) C20 (by decide) ok_X3_readPart li_X3_readPart ls_X3_readPart lm_X3_46 cls3 (sx_k2 hS) rfl rfl (Nat.le_of_ble_eq_true rfl) dX3_read_39) ?_
      have zm18 := C20.1.2.2 rfl
      have hS := hS.sh zm18
      refine Cv.ite (fun h21 => ?_) (fun h21 => ?_)
      · refine Cv.go (pc' := 58) (go_if_eq_t (tgt := 58) dX3_read_42 rfl h21) ?_
        exact c_X3_read_58 m18 hS
      · refine Cv.go (pc' := 45) (go_if_eq_f 58 dX3_read_42 rfl h21) ?_
        refine Cv.go (pc' := 46) (go_aload_n (i := 0) (x := 2) dX3_read_45 rfl rfl) ?_
        refine Cv.go (pc' := 49) (go_getI (i := 2) cls3 (sx_k2 hS) (by decide) rfl lf_X3_50 (by decide) dX3_read_46) ?_
        refine Cv.go (pc' := 51) (go_bipush dX3_read_49 ib_n22) ?_
        refine Cv.ite (fun h22 => ?_) (fun h22 => ?_)
        · refine Cv.go (pc' := 54) (go_icmp_ne_f 58 dX3_read_51 rfl h22) ?_
          refine Cv.go (pc' := 55) (go_iconst dX3_read_54 ic_1) ?_
          refine Cv.go (pc' := 59) (go_goto (tgt := 59) dX3_read_55 rfl) ?_
          exact c_X3_read_59 m18 (1 : Int32) hS
        · refine Cv.go (pc' := 58) (go_icmp_ne_t (tgt := 58) dX3_read_51 rfl h22) ?_
          exact c_X3_read_58 m18 hS
theorem kc_X4_named (m : Mem) (a0 : Int32) (c1 : Nat) (a2 : Int32) (a3 : Int32) (hp1 : mK m c1 = (0, 0)) : ∀ v mE, F_X4_named m a0 c1 a2 a3 = some (v, mE) → Con true kX4_named 0 [.int a0, .ref c1, .int a2, .int a3] m (eI v) mE := by
  refine Con.of (ini := false) (ls0 := [.int a0, .ref c1, .int a2, .int a3]) (ri := .ireturn) (by decide) (by intro z; cases z) rfl (Nat.le_of_ble_eq_true rfl) (fun v mE _ => RetTy.i) ?_
  show Cv true (cX4_named, 4, RX4, 0, ((false, none) : IK)) .ireturn eI (F_X4_named m a0 c1 a2 a3) m 0 [.int a0, .ref c1, .int a2, .int a3] []
  unfold F_X4_named
  refine Cv.go (pc' := 1) (go_iload_n (i := 0) (x := a0) dX4_named_0 rfl rfl) ?_
  refine Cv.ite (fun h1 => ?_) (fun h1 => ?_)
  · refine Cv.go (pc' := 53) (go_tsIn (off := 52) (tgt := 53) dX4_named_1 (by rw [h1]; decide) (by rw [h1]; decide) (by rw [h1]; rfl) rfl) ?_
    refine Cv.go (pc' := 54) (go_aload_n (i := 1) (x := c1) dX4_named_53 rfl rfl) ?_
    refine Cv.go (pc' := 57) (go_getI (i := 5) cls0 hp1 (by decide) rfl lf_X4_71 (by decide) dX4_named_54) ?_
    exact Cv.ret dX4_named_57 rfl
  · refine Cv.ite (fun h2 => ?_) (fun h2 => ?_)
    · refine Cv.go (pc' := 51) (go_tsIn (off := 50) (tgt := 51) dX4_named_1 (by rw [h2]; decide) (by rw [h2]; decide) (by rw [h2]; rfl) rfl) ?_
      refine Cv.go (pc' := 52) (go_iload_n (i := 2) (x := a2) dX4_named_51 rfl rfl) ?_
      exact Cv.ret dX4_named_52 rfl
    · refine Cv.ite (fun h3 => ?_) (fun h3 => ?_)
      · refine Cv.go (pc' := 46) (go_tsIn (off := 45) (tgt := 46) dX4_named_1 (by rw [h3]; decide) (by rw [h3]; decide) (by rw [h3]; rfl) rfl) ?_
        refine Cv.go (pc' := 47) (go_aload_n (i := 1) (x := c1) dX4_named_46 rfl rfl) ?_
        refine Cv.go (pc' := 50) (go_getI (i := 1) cls0 hp1 (by decide) rfl lf_X4_54 (by decide) dX4_named_47) ?_
        exact Cv.ret dX4_named_50 rfl
      · refine Cv.ite (fun h4 => ?_) (fun h4 => ?_)
        · refine Cv.go (pc' := 41) (go_tsIn (off := 40) (tgt := 41) dX4_named_1 (by rw [h4]; decide) (by rw [h4]; decide) (by rw [h4]; rfl) rfl) ?_
          refine Cv.go (pc' := 42) (go_aload_n (i := 1) (x := c1) dX4_named_41 rfl rfl) ?_
          refine Cv.go (pc' := 45) (go_getI (i := 3) cls0 hp1 (by decide) rfl lf_X4_60 (by decide) dX4_named_42) ?_
          exact Cv.ret dX4_named_45 rfl
        · refine Cv.ite (fun h5 => ?_) (fun h5 => ?_)
          · refine Cv.go (pc' := 36) (go_tsIn (off := 35) (tgt := 36) dX4_named_1 (by rw [h5]; decide) (by rw [h5]; decide) (by rw [h5]; rfl) rfl) ?_
            refine Cv.go (pc' := 37) (go_aload_n (i := 1) (x := c1) dX4_named_36 rfl rfl) ?_
            refine Cv.go (pc' := 40) (go_getI (i := 2) cls0 hp1 (by decide) rfl lf_X4_25 (by decide) dX4_named_37) ?_
            exact Cv.ret dX4_named_40 rfl
          · refine Cv.go (pc' := 58) (go_tsOut (tgt := 58) dX4_named_1 (by have n0 : (a0).toInt ≠ -5 := fun z => h1 (Int32.toInt_inj.mp (z.trans (by decide))); have n1 : (a0).toInt ≠ -4 := fun z => h2 (Int32.toInt_inj.mp (z.trans (by decide))); have n2 : (a0).toInt ≠ -3 := fun z => h3 (Int32.toInt_inj.mp (z.trans (by decide))); have n3 : (a0).toInt ≠ -2 := fun z => h4 (Int32.toInt_inj.mp (z.trans (by decide))); have n4 : (a0).toInt ≠ -1 := fun z => h5 (Int32.toInt_inj.mp (z.trans (by decide))); omega) rfl) ?_
            refine Cv.go (pc' := 59) (go_iload_n (i := 3) (x := a3) dX4_named_58 rfl rfl) ?_
            exact Cv.ret dX4_named_59 rfl
theorem c_X4_joined_102 : ∀ (m : Mem) (a1 : Int32) (a2 : Int32), Cv true (cX4_joined, 3, RX4, 0, ((false, none) : IK)) .ireturn eI (F_X4_joined_102 m a1 a2) m 102 [.null, .int a1, .int a2] [] := by
  intro m a1 a2
  unfold F_X4_joined_102
  refine Cv.go (pc' := 103) (go_iload_n (i := 1) (x := a1) dX4_joined_102 rfl rfl) ?_
  refine Cv.go (pc' := 104) (go_iload_n (i := 2) (x := a2) dX4_joined_103 rfl rfl) ?_
  refine Cv.go (pc' := 105) (go_imul dX4_joined_104) ?_
  exact Cv.ret dX4_joined_105 rfl
theorem kc_X4_joined (m : Mem) (a0 : Int32) (a1 : Int32) (a2 : Int32) : ∀ v mE, F_X4_joined m a0 a1 a2 = some (v, mE) → Con true kX4_joined 0 [.int a0, .int a1, .int a2] m (eI v) mE := by
  refine Con.of (ini := false) (ls0 := [.int a0, .int a1, .int a2]) (ri := .ireturn) (by decide) (by intro z; cases z) rfl (Nat.le_of_ble_eq_true rfl) (fun v mE _ => RetTy.i) ?_
  show Cv true (cX4_joined, 3, RX4, 0, ((false, none) : IK)) .ireturn eI (F_X4_joined m a0 a1 a2) m 0 [.int a0, .int a1, .int a2] []
  unfold F_X4_joined
  refine Cv.go (pc' := 1) (go_iload_n (i := 0) (x := a0) dX4_joined_0 rfl rfl) ?_
  refine Cv.ite (fun h1 => ?_) (fun h1 => ?_)
  · refine Cv.go (pc' := 98) (go_tsIn (off := 97) (tgt := 98) dX4_joined_1 (by rw [h1]; decide) (by rw [h1]; decide) (by rw [h1]; rfl) rfl) ?_
    refine Cv.go (pc' := 99) (go_iload_n (i := 1) (x := a1) dX4_joined_98 rfl rfl) ?_
    refine Cv.go (pc' := 100) (go_iload_n (i := 2) (x := a2) dX4_joined_99 rfl rfl) ?_
    refine Cv.go (pc' := 101) (go_isub dX4_joined_100) ?_
    exact Cv.ret dX4_joined_101 rfl
  · refine Cv.ite (fun h2 => ?_) (fun h2 => ?_)
    · refine Cv.go (pc' := 94) (go_tsIn (off := 93) (tgt := 94) dX4_joined_1 (by rw [h2]; decide) (by rw [h2]; decide) (by rw [h2]; rfl) rfl) ?_
      refine Cv.go (pc' := 95) (go_iload_n (i := 1) (x := a1) dX4_joined_94 rfl rfl) ?_
      refine Cv.go (pc' := 96) (go_iload_n (i := 2) (x := a2) dX4_joined_95 rfl rfl) ?_
      refine Cv.go (pc' := 97) (go_iadd dX4_joined_96) ?_
      exact Cv.ret dX4_joined_97 rfl
    · refine Cv.ite (fun h3 => ?_) (fun h3 => ?_)
      · refine Cv.go (pc' := 83) (go_tsIn (off := 82) (tgt := 83) dX4_joined_1 (by rw [h3]; decide) (by rw [h3]; decide) (by rw [h3]; rfl) rfl) ?_
        refine Cv.go (pc' := 84) (go_iload_n (i := 1) (x := a1) dX4_joined_83 rfl rfl) ?_
        refine Cv.go (pc' := 85) (go_iload_n (i := 2) (x := a2) dX4_joined_84 rfl rfl) ?_
        refine Cv.ite (fun h4 => ?_) (fun h4 => ?_)
        · refine Cv.go (pc' := 88) (go_icmp_ne_f 92 dX4_joined_85 rfl h4) ?_
          refine Cv.go (pc' := 89) (go_iconst dX4_joined_88 ic_1) ?_
          refine Cv.go (pc' := 93) (go_goto (tgt := 93) dX4_joined_89 rfl) ?_
          exact Cv.ret dX4_joined_93 rfl
        · refine Cv.go (pc' := 92) (go_icmp_ne_t (tgt := 92) dX4_joined_85 rfl h4) ?_
          refine Cv.go (pc' := 93) (go_iconst dX4_joined_92 ic_0) ?_
          exact Cv.ret dX4_joined_93 rfl
      · refine Cv.ite (fun h5 => ?_) (fun h5 => ?_)
        · refine Cv.go (pc' := 72) (go_tsIn (off := 71) (tgt := 72) dX4_joined_1 (by rw [h5]; decide) (by rw [h5]; decide) (by rw [h5]; rfl) rfl) ?_
          refine Cv.go (pc' := 73) (go_iload_n (i := 1) (x := a1) dX4_joined_72 rfl rfl) ?_
          refine Cv.go (pc' := 74) (go_iload_n (i := 2) (x := a2) dX4_joined_73 rfl rfl) ?_
          refine Cv.ite (fun h6 => ?_) (fun h6 => ?_)
          · refine Cv.go (pc' := 81) (go_icmp_ge_t (tgt := 81) dX4_joined_74 rfl h6) ?_
            refine Cv.go (pc' := 82) (go_iconst dX4_joined_81 ic_0) ?_
            exact Cv.ret dX4_joined_82 rfl
          · refine Cv.go (pc' := 77) (go_icmp_ge_f 81 dX4_joined_74 rfl h6) ?_
            refine Cv.go (pc' := 78) (go_iconst dX4_joined_77 ic_1) ?_
            refine Cv.go (pc' := 82) (go_goto (tgt := 82) dX4_joined_78 rfl) ?_
            exact Cv.ret dX4_joined_82 rfl
        · refine Cv.ite (fun h7 => ?_) (fun h7 => ?_)
          · refine Cv.go (pc' := 102) (go_tsIn (off := 101) (tgt := 102) dX4_joined_1 (by rw [h7]; decide) (by rw [h7]; decide) (by rw [h7]; rfl) rfl) ?_
            refine Cv.weak (ls' := [.null, .int a1, .int a2]) (⟨Or.inl rfl, ⟨Or.inr rfl, ⟨Or.inr rfl, True.intro⟩⟩⟩) ?_
            exact c_X4_joined_102 m a1 a2
          · refine Cv.ite (fun h8 => ?_) (fun h8 => ?_)
            · refine Cv.go (pc' := 58) (go_tsIn (off := 57) (tgt := 58) dX4_joined_1 (by rw [h8]; decide) (by rw [h8]; decide) (by rw [h8]; rfl) rfl) ?_
              refine Cv.go (pc' := 59) (go_iload_n (i := 1) (x := a1) dX4_joined_58 rfl rfl) ?_
              refine Cv.ite (fun h9 => ?_) (fun h9 => ?_)
              · refine Cv.go (pc' := 70) (go_if_eq_t (tgt := 70) dX4_joined_59 rfl h9) ?_
                refine Cv.go (pc' := 71) (go_iconst dX4_joined_70 ic_0) ?_
                exact Cv.ret dX4_joined_71 rfl
              · refine Cv.go (pc' := 62) (go_if_eq_f 70 dX4_joined_59 rfl h9) ?_
                refine Cv.go (pc' := 63) (go_iload_n (i := 2) (x := a2) dX4_joined_62 rfl rfl) ?_
                refine Cv.ite (fun h10 => ?_) (fun h10 => ?_)
                · refine Cv.go (pc' := 70) (go_if_eq_t (tgt := 70) dX4_joined_63 rfl h10) ?_
                  refine Cv.go (pc' := 71) (go_iconst dX4_joined_70 ic_0) ?_
                  exact Cv.ret dX4_joined_71 rfl
                · refine Cv.go (pc' := 66) (go_if_eq_f 70 dX4_joined_63 rfl h10) ?_
                  refine Cv.go (pc' := 67) (go_iconst dX4_joined_66 ic_1) ?_
                  refine Cv.go (pc' := 71) (go_goto (tgt := 71) dX4_joined_67 rfl) ?_
                  exact Cv.ret dX4_joined_71 rfl
            · refine Cv.ite (fun h11 => ?_) (fun h11 => ?_)
              · refine Cv.go (pc' := 44) (go_tsIn (off := 43) (tgt := 44) dX4_joined_1 (by rw [h11]; decide) (by rw [h11]; decide) (by rw [h11]; rfl) rfl) ?_
                refine Cv.go (pc' := 45) (go_iload_n (i := 1) (x := a1) dX4_joined_44 rfl rfl) ?_
                refine Cv.ite (fun h12 => ?_) (fun h12 => ?_)
                · refine Cv.go (pc' := 48) (go_if_ne_f 52 dX4_joined_45 rfl h12) ?_
                  refine Cv.go (pc' := 49) (go_iload_n (i := 2) (x := a2) dX4_joined_48 rfl rfl) ?_
                  refine Cv.ite (fun h13 => ?_) (fun h13 => ?_)
                  · refine Cv.go (pc' := 56) (go_if_eq_t (tgt := 56) dX4_joined_49 rfl h13) ?_
                    refine Cv.go (pc' := 57) (go_iconst dX4_joined_56 ic_0) ?_
                    exact Cv.ret dX4_joined_57 rfl
                  · refine Cv.go (pc' := 52) (go_if_eq_f 56 dX4_joined_49 rfl h13) ?_
                    refine Cv.go (pc' := 53) (go_iconst dX4_joined_52 ic_1) ?_
                    refine Cv.go (pc' := 57) (go_goto (tgt := 57) dX4_joined_53 rfl) ?_
                    exact Cv.ret dX4_joined_57 rfl
                · refine Cv.go (pc' := 52) (go_if_ne_t (tgt := 52) dX4_joined_45 rfl h12) ?_
                  refine Cv.go (pc' := 53) (go_iconst dX4_joined_52 ic_1) ?_
                  refine Cv.go (pc' := 57) (go_goto (tgt := 57) dX4_joined_53 rfl) ?_
                  exact Cv.ret dX4_joined_57 rfl
              · refine Cv.go (pc' := 102) (go_tsOut (tgt := 102) dX4_joined_1 (by have n0 : (a0).toInt ≠ -16 := fun z => h1 (Int32.toInt_inj.mp (z.trans (by decide))); have n1 : (a0).toInt ≠ -15 := fun z => h2 (Int32.toInt_inj.mp (z.trans (by decide))); have n2 : (a0).toInt ≠ -14 := fun z => h3 (Int32.toInt_inj.mp (z.trans (by decide))); have n3 : (a0).toInt ≠ -13 := fun z => h5 (Int32.toInt_inj.mp (z.trans (by decide))); have n4 : (a0).toInt ≠ -12 := fun z => h7 (Int32.toInt_inj.mp (z.trans (by decide))); have n5 : (a0).toInt ≠ -11 := fun z => h8 (Int32.toInt_inj.mp (z.trans (by decide))); have n6 : (a0).toInt ≠ -10 := fun z => h11 (Int32.toInt_inj.mp (z.trans (by decide))); omega) rfl) ?_
                refine Cv.weak (ls' := [.null, .int a1, .int a2]) (⟨Or.inl rfl, ⟨Or.inr rfl, ⟨Or.inr rfl, True.intro⟩⟩⟩) ?_
                exact c_X4_joined_102 m a1 a2
theorem c_X4_worked_204 (K21 : Mem → Nat → Int32 → Nat → Int32 → Int32 → Int32 → Int32 → Option (Int32 × Mem)) (hK21 : ∀ (m : Mem) (a0 : Nat) (a1 : Int32) (a2 : Nat) (a3 : Int32) (a4 : Int32) (a5 : Int32) (a6 : Int32) (ha0 : isT m a0) (ha2 : mK m a2 = (0, 0)), Cv true (cX4_worked, 8, RX4, 1, ((false, none) : IK)) .ireturn eI (K21 m a0 a1 a2 a3 a4 a5 a6) m 21 [.ref a0, .int a1, .ref a2, .int a3, .int a4, .int a5, .int a6, .null] []) : ∀ (m : Mem) (a0 : Nat) (a1 : Int32) (a2 : Nat) (a3 : Int32) (a4 : Int32) (a5 : Int32) (a6 : Int32) (ha0 : isT m a0) (ha2 : mK m a2 = (0, 0)), Cv true (cX4_worked, 8, RX4, 1, ((false, none) : IK)) .ireturn eI (F_X4_worked_204 K21 m a0 a1 a2 a3 a4 a5 a6) m 204 [.ref a0, .int a1, .ref a2, .int a3, .int a4, .int a5, .int a6, .null] [] := by
  intro m a0 a1 a2 a3 a4 a5 a6 ha0 ha2
  unfold F_X4_worked_204
  refine Cv.go (pc' := 207) (ls' := [.ref a0, .int a1, .ref a2, .int a3, .int a4, .int a5, .int (a6 + (1 : Int32)), .null]) (go_iinc (x := a6) (v := a6 + (1 : Int32)) dX4_worked_204 rfl rfl (by decide) rfl) ?_
  refine Cv.go (pc' := 21) (go_goto (tgt := 21) dX4_worked_207 rfl) ?_
  exact hK21 m a0 a1 a2 a3 a4 a5 (a6 + (1 : Int32)) ha0 ha2
theorem c_X4_worked_127 (K21 : Mem → Nat → Int32 → Nat → Int32 → Int32 → Int32 → Int32 → Option (Int32 × Mem)) (hK21 : ∀ (m : Mem) (a0 : Nat) (a1 : Int32) (a2 : Nat) (a3 : Int32) (a4 : Int32) (a5 : Int32) (a6 : Int32) (ha0 : isT m a0) (ha2 : mK m a2 = (0, 0)), Cv true (cX4_worked, 8, RX4, 1, ((false, none) : IK)) .ireturn eI (K21 m a0 a1 a2 a3 a4 a5 a6) m 21 [.ref a0, .int a1, .ref a2, .int a3, .int a4, .int a5, .int a6, .null] []) : ∀ (m : Mem) (a0 : Nat) (a1 : Int32) (a2 : Nat) (a3 : Int32) (a4 : Int32) (a5 : Int32) (a6 : Int32) (s0 : Int32) (s1 : Int32) (ha0 : isT m a0) (ha2 : mK m a2 = (0, 0)), Cv true (cX4_worked, 8, RX4, 1, ((false, none) : IK)) .ireturn eI (F_X4_worked_127 K21 m a0 a1 a2 a3 a4 a5 a6 s0 s1) m 127 [.ref a0, .int a1, .ref a2, .int a3, .int a4, .int a5, .int a6, .null] [.int s0, .int s1, .ref (a0 + 3)] := by
  intro m a0 a1 a2 a3 a4 a5 a6 s0 s1 ha0 ha2
  unfold F_X4_worked_127
  refine Cv.gif fun g22 => ?_
  refine Cv.go (pc' := 128) (go_iastore (isT_3 ha0) g22 dX4_worked_127) ?_
  refine Cv.namM fun m23 em23 => ?_
  have zm23 : SameSh m m23 := em23 ▸ SameSh.d
  have ha0 := ha0.sh zm23
  have ha2 := sk zm23 ha2
  refine Cv.go (pc' := 204) (go_goto (tgt := 204) dX4_worked_128 rfl) ?_
  exact c_X4_worked_204 K21 hK21 m23 a0 a1 a2 a3 a4 a5 a6 ha0 ha2
theorem c_X4_worked_165 (K21 : Mem → Nat → Int32 → Nat → Int32 → Int32 → Int32 → Int32 → Option (Int32 × Mem)) (hK21 : ∀ (m : Mem) (a0 : Nat) (a1 : Int32) (a2 : Nat) (a3 : Int32) (a4 : Int32) (a5 : Int32) (a6 : Int32) (ha0 : isT m a0) (ha2 : mK m a2 = (0, 0)), Cv true (cX4_worked, 8, RX4, 1, ((false, none) : IK)) .ireturn eI (K21 m a0 a1 a2 a3 a4 a5 a6) m 21 [.ref a0, .int a1, .ref a2, .int a3, .int a4, .int a5, .int a6, .null] []) : ∀ (m : Mem) (a0 : Nat) (a1 : Int32) (a2 : Nat) (a3 : Int32) (a4 : Int32) (a5 : Int32) (a6 : Int32) (a7 : Int32) (ha0 : isT m a0) (ha2 : mK m a2 = (0, 0)), Cv true (cX4_worked, 8, RX4, 1, ((false, none) : IK)) .ireturn eI (F_X4_worked_165 K21 m a0 a1 a2 a3 a4 a5 a6 a7) m 165 [.ref a0, .int a1, .ref a2, .int a3, .int a4, .int a5, .int a6, .int a7] [] := by
  intro m a0 a1 a2 a3 a4 a5 a6 a7 ha0 ha2
  unfold F_X4_worked_165
  refine Cv.go (pc' := 167) (go_iload (i := 5) (x := a5) dX4_worked_165 rfl) ?_
  refine Cv.go (pc' := 168) (go_iconst dX4_worked_167 ic_1) ?_
  refine Cv.ite (fun h29 => ?_) (fun h29 => ?_)
  · refine Cv.go (pc' := 204) (go_icmp_le_t (tgt := 204) dX4_worked_168 rfl h29) ?_
    refine Cv.weak (ls' := [.ref a0, .int a1, .ref a2, .int a3, .int a4, .int a5, .int a6, .null]) (⟨Or.inr rfl, ⟨Or.inr rfl, ⟨Or.inr rfl, ⟨Or.inr rfl, ⟨Or.inr rfl, ⟨Or.inr rfl, ⟨Or.inr rfl, ⟨Or.inl rfl, True.intro⟩⟩⟩⟩⟩⟩⟩⟩) ?_
    exact c_X4_worked_204 K21 hK21 m a0 a1 a2 a3 a4 a5 a6 ha0 ha2
  · refine Cv.go (pc' := 171) (go_icmp_le_f 204 dX4_worked_168 rfl h29) ?_
    refine Cv.go (pc' := 174) (ls' := [.ref a0, .int a1, .ref a2, .int a3, .int a4, .int (a5 + (-1 : Int32)), .int a6, .int a7]) (go_iinc (x := a5) (v := a5 + (-1 : Int32)) dX4_worked_171 rfl rfl (by decide) rfl) ?_
    refine Cv.go (pc' := 175) (go_aload_n (i := 0) (x := a0) dX4_worked_174 rfl rfl) ?_
    refine Cv.go (pc' := 178) (go_getR (i := 2) cls4 ha0.1 (by decide) rfl lf_X4_18 (Or.inr ⟨_, rfl⟩) ha0.2.2.2.1 dX4_worked_175) ?_
    refine Cv.go (pc' := 180) (go_iload (i := 5) (x := a5 + (-1 : Int32)) dX4_worked_178 rfl) ?_
    refine Cv.go (pc' := 181) (go_iconst dX4_worked_180 ic_1) ?_
    refine Cv.go (pc' := 182) (go_isub dX4_worked_181) ?_
    refine Cv.go (pc' := 184) (go_iload (i := 7) (x := a7) dX4_worked_182 rfl) ?_
    refine Cv.go (pc' := 185) (go_aload_n (i := 0) (x := a0) dX4_worked_184 rfl rfl) ?_
    refine Cv.go (pc' := 188) (go_getR (i := 2) cls4 ha0.1 (by decide) rfl lf_X4_18 (Or.inr ⟨_, rfl⟩) ha0.2.2.2.1 dX4_worked_185) ?_
    refine Cv.go (pc' := 190) (go_iload (i := 5) (x := a5 + (-1 : Int32)) dX4_worked_188 rfl) ?_
    refine Cv.go (pc' := 191) (go_iconst dX4_worked_190 ic_1) ?_
    refine Cv.go (pc' := 192) (go_isub dX4_worked_191) ?_
    refine Cv.gif fun g30 => ?_
    refine Cv.go (pc' := 193) (go_iaload (isT_3 ha0) g30 dX4_worked_192) ?_
    refine Cv.go (pc' := 194) (go_aload_n (i := 0) (x := a0) dX4_worked_193 rfl rfl) ?_
    refine Cv.go (pc' := 197) (go_getR (i := 2) cls4 ha0.1 (by decide) rfl lf_X4_18 (Or.inr ⟨_, rfl⟩) ha0.2.2.2.1 dX4_worked_194) ?_
    refine Cv.go (pc' := 199) (go_iload (i := 5) (x := a5 + (-1 : Int32)) dX4_worked_197 rfl) ?_
    refine Cv.gif fun g31 => ?_
    refine Cv.go (pc' := 200) (go_iaload (isT_3 ha0) g31 dX4_worked_199) ?_
    refine Cv.bnd fun v32 m33 e34 => ?_
    have C35 := kc_X4_joined m a7 (mD m (a0 + 3) ((a5 + (-1 : Int32)) - (1 : Int32)).toNatClampNeg) (mD m (a0 + 3) (a5 + (-1 : Int32)).toNatClampNeg) v32 m33 e34
    refine Cv.go (pc' := 203) (st' := [.int v32, .int ((a5 + (-1 : Int32)) - (1 : Int32)), .ref (a0 + 3)]) (go_callS (As := [.int a7, .int (mD m (a0 + 3) ((a5 + (-1 : Int32)) - (1 : Int32)).toNatClampNeg), .int (mD m (a0 + 3) (a5 + (-1 : Int32)).toNatClampNeg)]) (st := [.int ((a5 + (-1 : Int32)) - (1 : Int32)), .ref (a0 + 3)]) C35 (by decide) ok_X4_joined lt_X4_joined lm_X4_68 rfl rfl (Nat.le_of_ble_eq_true rfl) dX4_worked_200) ?_
    have zm33 := C35.1.2.2 rfl
    have ha0 := ha0.sh zm33
    have ha2 := sk zm33 ha2
    refine Cv.gif fun g36 => ?_
    refine Cv.go (pc' := 204) (go_iastore (isT_3 ha0) g36 dX4_worked_203) ?_
    refine Cv.namM fun m37 em37 => ?_
    have zm37 : SameSh m33 m37 := em37 ▸ SameSh.d
    have ha0 := ha0.sh zm37
    have ha2 := sk zm37 ha2
    refine Cv.weak (ls' := [.ref a0, .int a1, .ref a2, .int a3, .int a4, .int (a5 + (-1 : Int32)), .int a6, .null]) (⟨Or.inr rfl, ⟨Or.inr rfl, ⟨Or.inr rfl, ⟨Or.inr rfl, ⟨Or.inr rfl, ⟨Or.inr rfl, ⟨Or.inr rfl, ⟨Or.inl rfl, True.intro⟩⟩⟩⟩⟩⟩⟩⟩) ?_
    exact c_X4_worked_204 K21 hK21 m37 a0 a1 a2 a3 a4 (a5 + (-1 : Int32)) a6 ha0 ha2
theorem c_X4_worked_83 (K21 : Mem → Nat → Int32 → Nat → Int32 → Int32 → Int32 → Int32 → Option (Int32 × Mem)) (hK21 : ∀ (m : Mem) (a0 : Nat) (a1 : Int32) (a2 : Nat) (a3 : Int32) (a4 : Int32) (a5 : Int32) (a6 : Int32) (ha0 : isT m a0) (ha2 : mK m a2 = (0, 0)), Cv true (cX4_worked, 8, RX4, 1, ((false, none) : IK)) .ireturn eI (K21 m a0 a1 a2 a3 a4 a5 a6) m 21 [.ref a0, .int a1, .ref a2, .int a3, .int a4, .int a5, .int a6, .null] []) : ∀ (m : Mem) (a0 : Nat) (a1 : Int32) (a2 : Nat) (a3 : Int32) (a4 : Int32) (a5 : Int32) (a6 : Int32) (s0 : Int32) (s1 : Int32) (ha0 : isT m a0) (ha2 : mK m a2 = (0, 0)), Cv true (cX4_worked, 8, RX4, 1, ((false, none) : IK)) .ireturn eI (F_X4_worked_83 K21 m a0 a1 a2 a3 a4 a5 a6 s0 s1) m 83 [.ref a0, .int a1, .ref a2, .int a3, .int a4, .int a5, .int a6, .null] [.int s0, .int s1, .ref (a0 + 3)] := by
  intro m a0 a1 a2 a3 a4 a5 a6 s0 s1 ha0 ha2
  unfold F_X4_worked_83
  refine Cv.gif fun g16 => ?_
  refine Cv.go (pc' := 84) (go_iastore (isT_3 ha0) g16 dX4_worked_83) ?_
  refine Cv.namM fun m17 em17 => ?_
  have zm17 : SameSh m m17 := em17 ▸ SameSh.d
  have ha0 := ha0.sh zm17
  have ha2 := sk zm17 ha2
  refine Cv.go (pc' := 87) (ls' := [.ref a0, .int a1, .ref a2, .int a3, .int a4, .int (a5 + (1 : Int32)), .int a6, .null]) (go_iinc (x := a5) (v := a5 + (1 : Int32)) dX4_worked_84 rfl rfl (by decide) rfl) ?_
  refine Cv.go (pc' := 204) (go_goto (tgt := 204) dX4_worked_87 rfl) ?_
  exact c_X4_worked_204 K21 hK21 m17 a0 a1 a2 a3 a4 (a5 + (1 : Int32)) a6 ha0 ha2
theorem c_X4_worked_131 (K21 : Mem → Nat → Int32 → Nat → Int32 → Int32 → Int32 → Int32 → Option (Int32 × Mem)) (hK21 : ∀ (m : Mem) (a0 : Nat) (a1 : Int32) (a2 : Nat) (a3 : Int32) (a4 : Int32) (a5 : Int32) (a6 : Int32) (ha0 : isT m a0) (ha2 : mK m a2 = (0, 0)), Cv true (cX4_worked, 8, RX4, 1, ((false, none) : IK)) .ireturn eI (K21 m a0 a1 a2 a3 a4 a5 a6) m 21 [.ref a0, .int a1, .ref a2, .int a3, .int a4, .int a5, .int a6, .null] []) : ∀ (m : Mem) (a0 : Nat) (a1 : Int32) (a2 : Nat) (a3 : Int32) (a4 : Int32) (a5 : Int32) (a6 : Int32) (a7 : Int32) (ha0 : isT m a0) (ha2 : mK m a2 = (0, 0)), Cv true (cX4_worked, 8, RX4, 1, ((false, none) : IK)) .ireturn eI (F_X4_worked_131 K21 m a0 a1 a2 a3 a4 a5 a6 a7) m 131 [.ref a0, .int a1, .ref a2, .int a3, .int a4, .int a5, .int a6, .int a7] [] := by
  intro m a0 a1 a2 a3 a4 a5 a6 a7 ha0 ha2
  unfold F_X4_worked_131
  refine Cv.go (pc' := 133) (go_iload (i := 7) (x := a7) dX4_worked_131 rfl) ?_
  refine Cv.go (pc' := 135) (go_bipush dX4_worked_133 ib_n18) ?_
  refine Cv.ite (fun h24 => ?_) (fun h24 => ?_)
  · refine Cv.go (pc' := 138) (go_icmp_ne_f 165 dX4_worked_135 rfl h24) ?_
    refine Cv.go (pc' := 140) (go_iload (i := 5) (x := a5) dX4_worked_138 rfl) ?_
    refine Cv.ite (fun h25 => ?_) (fun h25 => ?_)
    · refine Cv.go (pc' := 165) (go_if_le_t (tgt := 165) dX4_worked_140 rfl h25) ?_
      exact c_X4_worked_165 K21 hK21 m a0 a1 a2 a3 a4 a5 a6 a7 ha0 ha2
    · refine Cv.go (pc' := 143) (go_if_le_f 165 dX4_worked_140 rfl h25) ?_
      refine Cv.go (pc' := 144) (go_aload_n (i := 0) (x := a0) dX4_worked_143 rfl rfl) ?_
      refine Cv.go (pc' := 147) (go_getR (i := 2) cls4 ha0.1 (by decide) rfl lf_X4_18 (Or.inr ⟨_, rfl⟩) ha0.2.2.2.1 dX4_worked_144) ?_
      refine Cv.go (pc' := 149) (go_iload (i := 5) (x := a5) dX4_worked_147 rfl) ?_
      refine Cv.go (pc' := 150) (go_iconst dX4_worked_149 ic_1) ?_
      refine Cv.go (pc' := 151) (go_isub dX4_worked_150) ?_
      refine Cv.go (pc' := 152) (go_aload_n (i := 0) (x := a0) dX4_worked_151 rfl rfl) ?_
      refine Cv.go (pc' := 155) (go_getR (i := 2) cls4 ha0.1 (by decide) rfl lf_X4_18 (Or.inr ⟨_, rfl⟩) ha0.2.2.2.1 dX4_worked_152) ?_
      refine Cv.go (pc' := 157) (go_iload (i := 5) (x := a5) dX4_worked_155 rfl) ?_
      refine Cv.go (pc' := 158) (go_iconst dX4_worked_157 ic_1) ?_
      refine Cv.go (pc' := 159) (go_isub dX4_worked_158) ?_
      refine Cv.gif fun g26 => ?_
      refine Cv.go (pc' := 160) (go_iaload (isT_3 ha0) g26 dX4_worked_159) ?_
      refine Cv.go (pc' := 161) (go_ineg dX4_worked_160) ?_
      refine Cv.gif fun g27 => ?_
      refine Cv.go (pc' := 162) (go_iastore (isT_3 ha0) g27 dX4_worked_161) ?_
      refine Cv.namM fun m28 em28 => ?_
      have zm28 : SameSh m m28 := em28 ▸ SameSh.d
      have ha0 := ha0.sh zm28
      have ha2 := sk zm28 ha2
      refine Cv.go (pc' := 204) (go_goto (tgt := 204) dX4_worked_162 rfl) ?_
      refine Cv.weak (ls' := [.ref a0, .int a1, .ref a2, .int a3, .int a4, .int a5, .int a6, .null]) (⟨Or.inr rfl, ⟨Or.inr rfl, ⟨Or.inr rfl, ⟨Or.inr rfl, ⟨Or.inr rfl, ⟨Or.inr rfl, ⟨Or.inr rfl, ⟨Or.inl rfl, True.intro⟩⟩⟩⟩⟩⟩⟩⟩) ?_
      exact c_X4_worked_204 K21 hK21 m28 a0 a1 a2 a3 a4 a5 a6 ha0 ha2
  · refine Cv.go (pc' := 165) (go_icmp_ne_t (tgt := 165) dX4_worked_135 rfl h24) ?_
    exact c_X4_worked_165 K21 hK21 m a0 a1 a2 a3 a4 a5 a6 a7 ha0 ha2
theorem c_X4_worked_90 (K21 : Mem → Nat → Int32 → Nat → Int32 → Int32 → Int32 → Int32 → Option (Int32 × Mem)) (hK21 : ∀ (m : Mem) (a0 : Nat) (a1 : Int32) (a2 : Nat) (a3 : Int32) (a4 : Int32) (a5 : Int32) (a6 : Int32) (ha0 : isT m a0) (ha2 : mK m a2 = (0, 0)), Cv true (cX4_worked, 8, RX4, 1, ((false, none) : IK)) .ireturn eI (K21 m a0 a1 a2 a3 a4 a5 a6) m 21 [.ref a0, .int a1, .ref a2, .int a3, .int a4, .int a5, .int a6, .null] []) : ∀ (m : Mem) (a0 : Nat) (a1 : Int32) (a2 : Nat) (a3 : Int32) (a4 : Int32) (a5 : Int32) (a6 : Int32) (a7 : Int32) (ha0 : isT m a0) (ha2 : mK m a2 = (0, 0)), Cv true (cX4_worked, 8, RX4, 1, ((false, none) : IK)) .ireturn eI (F_X4_worked_90 K21 m a0 a1 a2 a3 a4 a5 a6 a7) m 90 [.ref a0, .int a1, .ref a2, .int a3, .int a4, .int a5, .int a6, .int a7] [] := by
  intro m a0 a1 a2 a3 a4 a5 a6 a7 ha0 ha2
  unfold F_X4_worked_90
  refine Cv.go (pc' := 92) (go_iload (i := 7) (x := a7) dX4_worked_90 rfl) ?_
  refine Cv.go (pc' := 94) (go_bipush dX4_worked_92 ib_n12) ?_
  refine Cv.ite (fun h18 => ?_) (fun h18 => ?_)
  · refine Cv.go (pc' := 97) (go_icmp_ne_f 131 dX4_worked_94 rfl h18) ?_
    refine Cv.go (pc' := 99) (go_iload (i := 5) (x := a5) dX4_worked_97 rfl) ?_
    refine Cv.ite (fun h19 => ?_) (fun h19 => ?_)
    · refine Cv.go (pc' := 131) (go_if_le_t (tgt := 131) dX4_worked_99 rfl h19) ?_
      exact c_X4_worked_131 K21 hK21 m a0 a1 a2 a3 a4 a5 a6 a7 ha0 ha2
    · refine Cv.go (pc' := 102) (go_if_le_f 131 dX4_worked_99 rfl h19) ?_
      refine Cv.go (pc' := 103) (go_aload_n (i := 0) (x := a0) dX4_worked_102 rfl rfl) ?_
      refine Cv.go (pc' := 106) (go_getR (i := 2) cls4 ha0.1 (by decide) rfl lf_X4_18 (Or.inr ⟨_, rfl⟩) ha0.2.2.2.1 dX4_worked_103) ?_
      refine Cv.go (pc' := 108) (go_iload (i := 5) (x := a5) dX4_worked_106 rfl) ?_
      refine Cv.go (pc' := 109) (go_iconst dX4_worked_108 ic_1) ?_
      refine Cv.go (pc' := 110) (go_isub dX4_worked_109) ?_
      refine Cv.go (pc' := 111) (go_aload_n (i := 0) (x := a0) dX4_worked_110 rfl rfl) ?_
      refine Cv.go (pc' := 114) (go_getR (i := 2) cls4 ha0.1 (by decide) rfl lf_X4_18 (Or.inr ⟨_, rfl⟩) ha0.2.2.2.1 dX4_worked_111) ?_
      refine Cv.go (pc' := 116) (go_iload (i := 5) (x := a5) dX4_worked_114 rfl) ?_
      refine Cv.go (pc' := 117) (go_iconst dX4_worked_116 ic_1) ?_
      refine Cv.go (pc' := 118) (go_isub dX4_worked_117) ?_
      refine Cv.gif fun g20 => ?_
      refine Cv.go (pc' := 119) (go_iaload (isT_3 ha0) g20 dX4_worked_118) ?_
      refine Cv.ite (fun h21 => ?_) (fun h21 => ?_)
      · refine Cv.go (pc' := 122) (go_if_ne_f 126 dX4_worked_119 rfl h21) ?_
        refine Cv.go (pc' := 123) (go_iconst dX4_worked_122 ic_1) ?_
        refine Cv.go (pc' := 127) (go_goto (tgt := 127) dX4_worked_123 rfl) ?_
        refine Cv.weak (ls' := [.ref a0, .int a1, .ref a2, .int a3, .int a4, .int a5, .int a6, .null]) (⟨Or.inr rfl, ⟨Or.inr rfl, ⟨Or.inr rfl, ⟨Or.inr rfl, ⟨Or.inr rfl, ⟨Or.inr rfl, ⟨Or.inr rfl, ⟨Or.inl rfl, True.intro⟩⟩⟩⟩⟩⟩⟩⟩) ?_
        exact c_X4_worked_127 K21 hK21 m a0 a1 a2 a3 a4 a5 a6 (1 : Int32) (a5 - (1 : Int32)) ha0 ha2
      · refine Cv.go (pc' := 126) (go_if_ne_t (tgt := 126) dX4_worked_119 rfl h21) ?_
        refine Cv.go (pc' := 127) (go_iconst dX4_worked_126 ic_0) ?_
        refine Cv.weak (ls' := [.ref a0, .int a1, .ref a2, .int a3, .int a4, .int a5, .int a6, .null]) (⟨Or.inr rfl, ⟨Or.inr rfl, ⟨Or.inr rfl, ⟨Or.inr rfl, ⟨Or.inr rfl, ⟨Or.inr rfl, ⟨Or.inr rfl, ⟨Or.inl rfl, True.intro⟩⟩⟩⟩⟩⟩⟩⟩) ?_
        exact c_X4_worked_127 K21 hK21 m a0 a1 a2 a3 a4 a5 a6 (0 : Int32) (a5 - (1 : Int32)) ha0 ha2
  · refine Cv.go (pc' := 131) (go_icmp_ne_t (tgt := 131) dX4_worked_94 rfl h18) ?_
    exact c_X4_worked_131 K21 hK21 m a0 a1 a2 a3 a4 a5 a6 a7 ha0 ha2
theorem c_X4_worked_21 : ∀ n, ∀ (m : Mem) (a0 : Nat) (a1 : Int32) (a2 : Nat) (a3 : Int32) (a4 : Int32) (a5 : Int32) (a6 : Int32) (ha0 : isT m a0) (ha2 : mK m a2 = (0, 0)), Cv true (cX4_worked, 8, RX4, 1, ((false, none) : IK)) .ireturn eI (F_X4_worked_21 n m a0 a1 a2 a3 a4 a5 a6) m 21 [.ref a0, .int a1, .ref a2, .int a3, .int a4, .int a5, .int a6, .null] [] := by
  intro n
  induction n with
  | zero => intro m a0 a1 a2 a3 a4 a5 a6 ha0 ha2; exact Cv.no
  | succ n ih =>
    intro m a0 a1 a2 a3 a4 a5 a6 ha0 ha2
    unfold F_X4_worked_21
    refine Cv.go (pc' := 23) (go_iload (i := 6) (x := a6) dX4_worked_21 rfl) ?_
    refine Cv.go (pc' := 24) (go_aload_n (i := 0) (x := a0) dX4_worked_23 rfl rfl) ?_
    refine Cv.go (pc' := 27) (go_getR (i := 1) cls4 ha0.1 (by decide) rfl lf_X4_15 (Or.inr ⟨_, rfl⟩) ha0.2.2.1 dX4_worked_24) ?_
    refine Cv.go (pc' := 28) (go_iload_n (i := 1) (x := a1) dX4_worked_27 rfl rfl) ?_
    refine Cv.gif fun g3 => ?_
    refine Cv.go (pc' := 29) (go_iaload (isT_2 ha0) g3 dX4_worked_28) ?_
    refine Cv.ite (fun h4 => ?_) (fun h4 => ?_)
    · refine Cv.go (pc' := 210) (go_icmp_ge_t (tgt := 210) dX4_worked_29 rfl h4) ?_
      refine Cv.go (pc' := 212) (go_iload (i := 5) (x := a5) dX4_worked_210 rfl) ?_
      refine Cv.ite (fun h5 => ?_) (fun h5 => ?_)
      · refine Cv.go (pc' := 227) (go_if_le_t (tgt := 227) dX4_worked_212 rfl h5) ?_
        refine Cv.go (pc' := 228) (go_iconst dX4_worked_227 ic_0) ?_
        exact Cv.ret dX4_worked_228 rfl
      · refine Cv.go (pc' := 215) (go_if_le_f 227 dX4_worked_212 rfl h5) ?_
        refine Cv.go (pc' := 216) (go_aload_n (i := 0) (x := a0) dX4_worked_215 rfl rfl) ?_
        refine Cv.go (pc' := 219) (go_getR (i := 2) cls4 ha0.1 (by decide) rfl lf_X4_18 (Or.inr ⟨_, rfl⟩) ha0.2.2.2.1 dX4_worked_216) ?_
        refine Cv.go (pc' := 221) (go_iload (i := 5) (x := a5) dX4_worked_219 rfl) ?_
        refine Cv.go (pc' := 222) (go_iconst dX4_worked_221 ic_1) ?_
        refine Cv.go (pc' := 223) (go_isub dX4_worked_222) ?_
        refine Cv.gif fun g6 => ?_
        refine Cv.go (pc' := 224) (go_iaload (isT_3 ha0) g6 dX4_worked_223) ?_
        refine Cv.go (pc' := 228) (go_goto (tgt := 228) dX4_worked_224 rfl) ?_
        exact Cv.ret dX4_worked_228 rfl
    · refine Cv.go (pc' := 32) (go_icmp_ge_f 210 dX4_worked_29 rfl h4) ?_
      refine Cv.go (pc' := 33) (go_aload_n (i := 0) (x := a0) dX4_worked_32 rfl rfl) ?_
      refine Cv.go (pc' := 36) (go_getR (i := 0) cls4 ha0.1 (by decide) rfl lf_X4_9 (Or.inr ⟨_, rfl⟩) ha0.2.1 dX4_worked_33) ?_
      refine Cv.go (pc' := 38) (go_iload (i := 6) (x := a6) dX4_worked_36 rfl) ?_
      refine Cv.gif fun g7 => ?_
      refine Cv.go (pc' := 39) (go_iaload (isT_1 ha0) g7 dX4_worked_38) ?_
      refine Cv.namI fun x8 ex8 => ?_
      refine Cv.go (pc' := 41) (ls' := [.ref a0, .int a1, .ref a2, .int a3, .int a4, .int a5, .int a6, .int x8]) (go_istore dX4_worked_39 (by decide) rfl) ?_
      refine Cv.go (pc' := 43) (go_iload (i := 7) (x := x8) dX4_worked_41 rfl) ?_
      refine Cv.go (pc' := 45) (go_bipush dX4_worked_43 ib_n6) ?_
      refine Cv.ite (fun h9 => ?_) (fun h9 => ?_)
      · refine Cv.go (pc' := 90) (go_icmp_lt_t (tgt := 90) dX4_worked_45 rfl h9) ?_
        exact c_X4_worked_90 (F_X4_worked_21 n) ih m a0 a1 a2 a3 a4 a5 a6 x8 ha0 ha2
      · refine Cv.go (pc' := 48) (go_icmp_lt_f 90 dX4_worked_45 rfl h9) ?_
        refine Cv.go (pc' := 50) (go_iload (i := 5) (x := a5) dX4_worked_48 rfl) ?_
        refine Cv.go (pc' := 51) (go_aload_n (i := 0) (x := a0) dX4_worked_50 rfl rfl) ?_
        refine Cv.go (pc' := 54) (go_getR (i := 2) cls4 ha0.1 (by decide) rfl lf_X4_18 (Or.inr ⟨_, rfl⟩) ha0.2.2.2.1 dX4_worked_51) ?_
        refine Cv.go (pc' := 55) (go_alen (t := 7) (t0 := 0) (isT_3 ha0) (by decide) (fun _ => rfl) dX4_worked_54) ?_
        refine Cv.ite (fun h10 => ?_) (fun h10 => ?_)
        · refine Cv.go (pc' := 90) (go_icmp_ge_t (tgt := 90) dX4_worked_55 rfl h10) ?_
          exact c_X4_worked_90 (F_X4_worked_21 n) ih m a0 a1 a2 a3 a4 a5 a6 x8 ha0 ha2
        · refine Cv.go (pc' := 58) (go_icmp_ge_f 90 dX4_worked_55 rfl h10) ?_
          refine Cv.go (pc' := 59) (go_aload_n (i := 0) (x := a0) dX4_worked_58 rfl rfl) ?_
          refine Cv.go (pc' := 62) (go_getR (i := 2) cls4 ha0.1 (by decide) rfl lf_X4_18 (Or.inr ⟨_, rfl⟩) ha0.2.2.2.1 dX4_worked_59) ?_
          refine Cv.go (pc' := 64) (go_iload (i := 5) (x := a5) dX4_worked_62 rfl) ?_
          refine Cv.go (pc' := 66) (go_iload (i := 7) (x := x8) dX4_worked_64 rfl) ?_
          refine Cv.ite (fun h11 => ?_) (fun h11 => ?_)
          · refine Cv.go (pc' := 74) (go_if_lt_t (tgt := 74) dX4_worked_66 rfl h11) ?_
            refine Cv.go (pc' := 76) (go_iload (i := 7) (x := x8) dX4_worked_74 rfl) ?_
            refine Cv.go (pc' := 77) (go_aload_n (i := 2) (x := a2) dX4_worked_76 rfl rfl) ?_
            refine Cv.go (pc' := 78) (go_iload_n (i := 3) (x := a3) dX4_worked_77 rfl rfl) ?_
            refine Cv.go (pc' := 80) (go_iload (i := 4) (x := a4) dX4_worked_78 rfl) ?_
            refine Cv.bnd fun v12 m13 e14 => ?_
            have C15 := kc_X4_named m x8 a2 a3 a4 ha2 v12 m13 e14
            refine Cv.go (pc' := 83) (st' := [.int v12, .int a5, .ref (a0 + 3)]) (go_callS (As := [.int x8, .ref a2, .int a3, .int a4]) (st := [.int a5, .ref (a0 + 3)]) C15 (by decide) ok_X4_named lt_X4_named lm_X4_65 rfl rfl (Nat.le_of_ble_eq_true rfl) dX4_worked_80) ?_
            have zm13 := C15.1.2.2 rfl
            have ha0 := ha0.sh zm13
            have ha2 := sk zm13 ha2
            refine Cv.weak (ls' := [.ref a0, .int a1, .ref a2, .int a3, .int a4, .int a5, .int a6, .null]) (⟨Or.inr rfl, ⟨Or.inr rfl, ⟨Or.inr rfl, ⟨Or.inr rfl, ⟨Or.inr rfl, ⟨Or.inr rfl, ⟨Or.inr rfl, ⟨Or.inl rfl, True.intro⟩⟩⟩⟩⟩⟩⟩⟩) ?_
            exact c_X4_worked_83 (F_X4_worked_21 n) ih m13 a0 a1 a2 a3 a4 a5 a6 v12 a5 ha0 ha2
          · refine Cv.go (pc' := 69) (go_if_lt_f 74 dX4_worked_66 rfl h11) ?_
            refine Cv.go (pc' := 71) (go_iload (i := 7) (x := x8) dX4_worked_69 rfl) ?_
            refine Cv.go (pc' := 83) (go_goto (tgt := 83) dX4_worked_71 rfl) ?_
            refine Cv.weak (ls' := [.ref a0, .int a1, .ref a2, .int a3, .int a4, .int a5, .int a6, .null]) (⟨Or.inr rfl, ⟨Or.inr rfl, ⟨Or.inr rfl, ⟨Or.inr rfl, ⟨Or.inr rfl, ⟨Or.inr rfl, ⟨Or.inr rfl, ⟨Or.inl rfl, True.intro⟩⟩⟩⟩⟩⟩⟩⟩) ?_
            exact c_X4_worked_83 (F_X4_worked_21 n) ih m a0 a1 a2 a3 a4 a5 a6 x8 a5 ha0 ha2
theorem c_X4_worked_19 : ∀ (m : Mem) (a0 : Nat) (a1 : Int32) (a2 : Nat) (a3 : Int32) (a4 : Int32) (a5 : Int32) (s0 : Int32) (ha0 : isT m a0) (ha2 : mK m a2 = (0, 0)), Cv true (cX4_worked, 8, RX4, 1, ((false, none) : IK)) .ireturn eI (F_X4_worked_19 m a0 a1 a2 a3 a4 a5 s0) m 19 [.ref a0, .int a1, .ref a2, .int a3, .int a4, .int a5, .null, .null] [.int s0] := by
  intro m a0 a1 a2 a3 a4 a5 s0 ha0 ha2
  unfold F_X4_worked_19
  refine Cv.go (pc' := 21) (ls' := [.ref a0, .int a1, .ref a2, .int a3, .int a4, .int a5, .int s0, .null]) (go_istore dX4_worked_19 (by decide) rfl) ?_
  exact c_X4_worked_21 FU m a0 a1 a2 a3 a4 a5 s0 ha0 ha2
theorem kc_X4_worked (m : Mem) (c0 : Nat) (a1 : Int32) (c2 : Nat) (a3 : Int32) (a4 : Int32) (hp0 : isT m c0) (hp2 : mK m c2 = (0, 0)) : ∀ v mE, F_X4_worked m c0 a1 c2 a3 a4 = some (v, mE) → Con true kX4_worked 1 [.ref c0, .int a1, .ref c2, .int a3, .int a4] m (eI v) mE := by
  refine Con.of (ini := false) (ls0 := [.ref c0, .int a1, .ref c2, .int a3, .int a4, .null, .null, .null]) (ri := .ireturn) (by decide) (by intro z; cases z) rfl (Nat.le_of_ble_eq_true rfl) (fun v mE _ => RetTy.i) ?_
  show Cv true (cX4_worked, 8, RX4, 1, ((false, none) : IK)) .ireturn eI (F_X4_worked m c0 a1 c2 a3 a4) m 0 [.ref c0, .int a1, .ref c2, .int a3, .int a4, .null, .null, .null] []
  unfold F_X4_worked
  refine Cv.go (pc' := 1) (go_iconst dX4_worked_0 ic_0) ?_
  refine Cv.go (pc' := 3) (ls' := [.ref c0, .int a1, .ref c2, .int a3, .int a4, .int (0 : Int32), .null, .null]) (go_istore dX4_worked_1 (by decide) rfl) ?_
  refine Cv.go (pc' := 4) (go_iload_n (i := 1) (x := a1) dX4_worked_3 rfl rfl) ?_
  refine Cv.ite (fun h1 => ?_) (fun h1 => ?_)
  · refine Cv.go (pc' := 7) (go_if_ne_f 11 dX4_worked_4 rfl h1) ?_
    refine Cv.go (pc' := 8) (go_iconst dX4_worked_7 ic_0) ?_
    refine Cv.go (pc' := 19) (go_goto (tgt := 19) dX4_worked_8 rfl) ?_
    exact c_X4_worked_19 m c0 a1 c2 a3 a4 (0 : Int32) (0 : Int32) hp0 hp2
  · refine Cv.go (pc' := 11) (go_if_ne_t (tgt := 11) dX4_worked_4 rfl h1) ?_
    refine Cv.go (pc' := 12) (go_aload_n (i := 0) (x := c0) dX4_worked_11 rfl rfl) ?_
    refine Cv.go (pc' := 15) (go_getR (i := 1) cls4 hp0.1 (by decide) rfl lf_X4_15 (Or.inr ⟨_, rfl⟩) hp0.2.2.1 dX4_worked_12) ?_
    refine Cv.go (pc' := 16) (go_iload_n (i := 1) (x := a1) dX4_worked_15 rfl rfl) ?_
    refine Cv.go (pc' := 17) (go_iconst dX4_worked_16 ic_1) ?_
    refine Cv.go (pc' := 18) (go_isub dX4_worked_17) ?_
    refine Cv.gif fun g2 => ?_
    refine Cv.go (pc' := 19) (go_iaload (isT_2 hp0) g2 dX4_worked_18) ?_
    exact c_X4_worked_19 m c0 a1 c2 a3 a4 (0 : Int32) (mD m (c0 + 2) (a1 - (1 : Int32)).toNatClampNeg) hp0 hp2
theorem kc_X4_bounded (m : Mem) (a0 : Int32) (a1 : Int32) (a2 : Int32) : ∀ v mE, F_X4_bounded m a0 a1 a2 = some (v, mE) → Con true kX4_bounded 1 [.int a0, .int a1, .int a2] m (eI v) mE := by
  refine Con.of (ini := false) (ls0 := [.int a0, .int a1, .int a2]) (ri := .ireturn) (by decide) (by intro z; cases z) rfl (Nat.le_of_ble_eq_true rfl) (fun v mE _ => RetTy.i) ?_
  show Cv true (cX4_bounded, 3, RX4, 1, ((false, none) : IK)) .ireturn eI (F_X4_bounded m a0 a1 a2) m 0 [.int a0, .int a1, .int a2] []
  unfold F_X4_bounded
  refine Cv.go (pc' := 1) (go_iload_n (i := 1) (x := a1) dX4_bounded_0 rfl rfl) ?_
  refine Cv.go (pc' := 2) (go_iload_n (i := 2) (x := a2) dX4_bounded_1 rfl rfl) ?_
  refine Cv.go (pc' := 3) (go_iload_n (i := 0) (x := a0) dX4_bounded_2 rfl rfl) ?_
  refine Cv.go (pc' := 6) (go_min lm_X4_57 lt_min ln_Math lo_min (by decide) (Nat.le_of_ble_eq_true rfl) dX4_bounded_3) ?_
  refine Cv.go (pc' := 9) (go_max lm_X4_37 lt_max ln_Math lo_max (by decide) (Nat.le_of_ble_eq_true rfl) dX4_bounded_6) ?_
  exact Cv.ret dX4_bounded_9 rfl
theorem kc_X4_turnsOf (m : Mem) (c0 : Nat) (c1 : Nat) (a2 : Int32) (a3 : Int32) (hp0 : isT m c0) (hp1 : mK m c1 = (0, 0)) : ∀ v mE, F_X4_turnsOf m c0 c1 a2 a3 = some (v, mE) → Con true kX4_turnsOf 2 [.ref c0, .ref c1, .int a2, .int a3] m (eI v) mE := by
  refine Con.of (ini := false) (ls0 := [.ref c0, .ref c1, .int a2, .int a3, .null]) (ri := .ireturn) (by decide) (by intro z; cases z) rfl (Nat.le_of_ble_eq_true rfl) (fun v mE _ => RetTy.i) ?_
  show Cv true (cX4_turnsOf, 5, RX4, 2, ((false, none) : IK)) .ireturn eI (F_X4_turnsOf m c0 c1 a2 a3) m 0 [.ref c0, .ref c1, .int a2, .int a3, .null] []
  unfold F_X4_turnsOf
  refine Cv.go (pc' := 1) (go_aload_n (i := 1) (x := c1) dX4_turnsOf_0 rfl rfl) ?_
  refine Cv.go (pc' := 4) (go_getI (i := 0) cls0 hp1 (by decide) rfl lf_X4_43 (by decide) dX4_turnsOf_1) ?_
  refine Cv.go (pc' := 5) (go_iconst dX4_turnsOf_4 ic_5) ?_
  refine Cv.ite (fun h1 => ?_) (fun h1 => ?_)
  · refine Cv.go (pc' := 8) (go_icmp_ne_f 12 dX4_turnsOf_5 rfl h1) ?_
    refine Cv.go (pc' := 11) (go_sipush dX4_turnsOf_8 is_1000) ?_
    exact Cv.ret dX4_turnsOf_11 rfl
  · refine Cv.go (pc' := 12) (go_icmp_ne_t (tgt := 12) dX4_turnsOf_5 rfl h1) ?_
    refine Cv.go (pc' := 13) (go_aload_n (i := 0) (x := c0) dX4_turnsOf_12 rfl rfl) ?_
    refine Cv.go (pc' := 14) (go_iconst dX4_turnsOf_13 ic_0) ?_
    refine Cv.go (pc' := 15) (go_aload_n (i := 1) (x := c1) dX4_turnsOf_14 rfl rfl) ?_
    refine Cv.go (pc' := 16) (go_iload_n (i := 2) (x := a2) dX4_turnsOf_15 rfl rfl) ?_
    refine Cv.go (pc' := 17) (go_iload_n (i := 3) (x := a3) dX4_turnsOf_16 rfl rfl) ?_
    refine Cv.bnd fun v2 m3 e4 => ?_
    have C5 := kc_X4_worked m c0 (0 : Int32) c1 a2 a3 hp0 hp1 v2 m3 e4
    refine Cv.go (pc' := 20) (st' := [.int v2]) (go_callV (As := [.int (0 : Int32), .ref c1, .int a2, .int a3]) (st := []) C5 (by decide) ok_X4_worked li_X4_worked ls_X4_worked lm_X4_46 cls4 hp0.1 rfl rfl (Nat.le_of_ble_eq_true rfl) dX4_turnsOf_17) ?_
    have zm3 := C5.1.2.2 rfl
    have hp0 := hp0.sh zm3
    have hp1 := sk zm3 hp1
    refine Cv.go (pc' := 21) (go_iconst dX4_turnsOf_20 ic_0) ?_
    refine Cv.go (pc' := 23) (go_bipush dX4_turnsOf_21 ib_99) ?_
    refine Cv.bnd fun v6 m7 e8 => ?_
    have C9 := kc_X4_bounded m3 v2 (0 : Int32) (99 : Int32) v6 m7 e8
    refine Cv.go (pc' := 26) (st' := [.int v6]) (go_callS (As := [.int v2, .int (0 : Int32), .int (99 : Int32)]) (st := []) C9 (by decide) ok_X4_bounded lt_X4_bounded lm_X4_50 rfl rfl (Nat.le_of_ble_eq_true rfl) dX4_turnsOf_23) ?_
    have zm7 := C9.1.2.2 rfl
    have hp0 := hp0.sh zm7
    have hp1 := sk zm7 hp1
    refine Cv.go (pc' := 28) (ls' := [.ref c0, .ref c1, .int a2, .int a3, .int v6]) (go_istore dX4_turnsOf_26 (by decide) rfl) ?_
    refine Cv.go (pc' := 29) (go_aload_n (i := 1) (x := c1) dX4_turnsOf_28 rfl rfl) ?_
    refine Cv.go (pc' := 32) (go_getI (i := 0) cls0 hp1 (by decide) rfl lf_X4_43 (by decide) dX4_turnsOf_29) ?_
    refine Cv.namI fun x10 ex10 => ?_
    refine Cv.ite (fun h11 => ?_) (fun h11 => ?_)
    · refine Cv.go (pc' := 64) (go_tsIn (off := 32) (tgt := 64) dX4_turnsOf_32 (by rw [h11]; decide) (by rw [h11]; decide) (by rw [h11]; rfl) rfl) ?_
      refine Cv.go (pc' := 66) (go_iload (i := 4) (x := v6) dX4_turnsOf_64 rfl) ?_
      refine Cv.go (pc' := 67) (go_aload_n (i := 1) (x := c1) dX4_turnsOf_66 rfl rfl) ?_
      refine Cv.go (pc' := 70) (go_getI (i := 1) cls0 hp1 (by decide) rfl lf_X4_54 (by decide) dX4_turnsOf_67) ?_
      refine Cv.go (pc' := 71) (go_iconst dX4_turnsOf_70 ic_2) ?_
      refine Cv.go (pc' := 72) (go_idiv dX4_turnsOf_71 (by decide)) ?_
      refine Cv.go (pc' := 73) (go_iadd dX4_turnsOf_72) ?_
      refine Cv.go (pc' := 74) (go_iconst dX4_turnsOf_73 ic_1) ?_
      refine Cv.go (pc' := 77) (go_sipush dX4_turnsOf_74 is_1000) ?_
      refine Cv.bnd fun v12 m13 e14 => ?_
      have C15 := kc_X4_bounded m7 (v6 + ((mD m7 c1 1) / (2 : Int32))) (1 : Int32) (1000 : Int32) v12 m13 e14
      refine Cv.go (pc' := 80) (st' := [.int v12]) (go_callS (As := [.int (v6 + ((mD m7 c1 1) / (2 : Int32))), .int (1 : Int32), .int (1000 : Int32)]) (st := []) C15 (by decide) ok_X4_bounded lt_X4_bounded lm_X4_50 rfl rfl (Nat.le_of_ble_eq_true rfl) dX4_turnsOf_77) ?_
      have zm13 := C15.1.2.2 rfl
      have hp0 := hp0.sh zm13
      have hp1 := sk zm13 hp1
      exact Cv.ret dX4_turnsOf_80 rfl
    · refine Cv.ite (fun h16 => ?_) (fun h16 => ?_)
      · refine Cv.go (pc' := 81) (go_tsIn (off := 49) (tgt := 81) dX4_turnsOf_32 (by rw [h16]; decide) (by rw [h16]; decide) (by rw [h16]; rfl) rfl) ?_
        refine Cv.go (pc' := 83) (go_iload (i := 4) (x := v6) dX4_turnsOf_81 rfl) ?_
        refine Cv.go (pc' := 84) (go_iconst dX4_turnsOf_83 ic_2) ?_
        refine Cv.go (pc' := 85) (go_idiv dX4_turnsOf_84 (by decide)) ?_
        refine Cv.go (pc' := 86) (go_iconst dX4_turnsOf_85 ic_1) ?_
        refine Cv.go (pc' := 89) (go_sipush dX4_turnsOf_86 is_1000) ?_
        refine Cv.bnd fun v17 m18 e19 => ?_
        have C20 := kc_X4_bounded m7 (v6 / (2 : Int32)) (1 : Int32) (1000 : Int32) v17 m18 e19
        refine Cv.go (pc' := 92) (st' := [.int v17]) (go_callS (As := [.int (v6 / (2 : Int32)), .int (1 : Int32), .int (1000 : Int32)]) (st := []) C20 (by decide) ok_X4_bounded lt_X4_bounded lm_X4_50 rfl rfl (Nat.le_of_ble_eq_true rfl) dX4_turnsOf_89) ?_
        have zm18 := C20.1.2.2 rfl
        have hp0 := hp0.sh zm18
        have hp1 := sk zm18 hp1
        exact Cv.ret dX4_turnsOf_92 rfl
      · refine Cv.ite (fun h21 => ?_) (fun h21 => ?_)
        · refine Cv.go (pc' := 93) (go_tsIn (off := 61) (tgt := 93) dX4_turnsOf_32 (by rw [h21]; decide) (by rw [h21]; decide) (by rw [h21]; rfl) rfl) ?_
          refine Cv.go (pc' := 94) (go_iconst dX4_turnsOf_93 ic_2) ?_
          refine Cv.go (pc' := 96) (go_iload (i := 4) (x := v6) dX4_turnsOf_94 rfl) ?_
          refine Cv.go (pc' := 97) (go_aload_n (i := 1) (x := c1) dX4_turnsOf_96 rfl rfl) ?_
          refine Cv.go (pc' := 100) (go_getI (i := 1) cls0 hp1 (by decide) rfl lf_X4_54 (by decide) dX4_turnsOf_97) ?_
          refine Cv.go (pc' := 101) (go_iconst dX4_turnsOf_100 ic_2) ?_
          refine Cv.go (pc' := 102) (go_idiv dX4_turnsOf_101 (by decide)) ?_
          refine Cv.go (pc' := 103) (go_iadd dX4_turnsOf_102) ?_
          refine Cv.go (pc' := 104) (go_imul dX4_turnsOf_103) ?_
          refine Cv.go (pc' := 105) (go_iconst dX4_turnsOf_104 ic_1) ?_
          refine Cv.go (pc' := 108) (go_sipush dX4_turnsOf_105 is_1000) ?_
          refine Cv.bnd fun v22 m23 e24 => ?_
          have C25 := kc_X4_bounded m7 ((2 : Int32) * (v6 + ((mD m7 c1 1) / (2 : Int32)))) (1 : Int32) (1000 : Int32) v22 m23 e24
          refine Cv.go (pc' := 111) (st' := [.int v22]) (go_callS (As := [.int ((2 : Int32) * (v6 + ((mD m7 c1 1) / (2 : Int32)))), .int (1 : Int32), .int (1000 : Int32)]) (st := []) C25 (by decide) ok_X4_bounded lt_X4_bounded lm_X4_50 rfl rfl (Nat.le_of_ble_eq_true rfl) dX4_turnsOf_108) ?_
          have zm23 := C25.1.2.2 rfl
          have hp0 := hp0.sh zm23
          have hp1 := sk zm23 hp1
          exact Cv.ret dX4_turnsOf_111 rfl
        · refine Cv.ite (fun h26 => ?_) (fun h26 => ?_)
          · refine Cv.go (pc' := 112) (go_tsIn (off := 80) (tgt := 112) dX4_turnsOf_32 (by rw [h26]; decide) (by rw [h26]; decide) (by rw [h26]; rfl) rfl) ?_
            refine Cv.go (pc' := 114) (go_iload (i := 4) (x := v6) dX4_turnsOf_112 rfl) ?_
            refine Cv.go (pc' := 115) (go_iconst dX4_turnsOf_114 ic_2) ?_
            refine Cv.go (pc' := 116) (go_idiv dX4_turnsOf_115 (by decide)) ?_
            refine Cv.go (pc' := 117) (go_iconst dX4_turnsOf_116 ic_3) ?_
            refine Cv.go (pc' := 120) (go_min lm_X4_57 lt_min ln_Math lo_min (by decide) (Nat.le_of_ble_eq_true rfl) dX4_turnsOf_117) ?_
            refine Cv.go (pc' := 121) (go_iconst dX4_turnsOf_120 ic_1) ?_
            refine Cv.go (pc' := 124) (go_sipush dX4_turnsOf_121 is_1000) ?_
            refine Cv.bnd fun v27 m28 e29 => ?_
            have C30 := kc_X4_bounded m7 (if (3 : Int32) < (v6 / (2 : Int32)) then (3 : Int32) else (v6 / (2 : Int32))) (1 : Int32) (1000 : Int32) v27 m28 e29
            refine Cv.go (pc' := 127) (st' := [.int v27]) (go_callS (As := [.int (if (3 : Int32) < (v6 / (2 : Int32)) then (3 : Int32) else (v6 / (2 : Int32))), .int (1 : Int32), .int (1000 : Int32)]) (st := []) C30 (by decide) ok_X4_bounded lt_X4_bounded lm_X4_50 rfl rfl (Nat.le_of_ble_eq_true rfl) dX4_turnsOf_124) ?_
            have zm28 := C30.1.2.2 rfl
            have hp0 := hp0.sh zm28
            have hp1 := sk zm28 hp1
            exact Cv.ret dX4_turnsOf_127 rfl
          · refine Cv.go (pc' := 128) (go_tsOut (tgt := 128) dX4_turnsOf_32 (by have n0 : (x10).toInt ≠ 1 := fun z => h11 (Int32.toInt_inj.mp (z.trans (by decide))); have n1 : (x10).toInt ≠ 2 := fun z => h16 (Int32.toInt_inj.mp (z.trans (by decide))); have n2 : (x10).toInt ≠ 3 := fun z => h21 (Int32.toInt_inj.mp (z.trans (by decide))); have n3 : (x10).toInt ≠ 4 := fun z => h26 (Int32.toInt_inj.mp (z.trans (by decide))); omega) rfl) ?_
            refine Cv.go (pc' := 130) (go_iload (i := 4) (x := v6) dX4_turnsOf_128 rfl) ?_
            refine Cv.go (pc' := 131) (go_iconst dX4_turnsOf_130 ic_1) ?_
            refine Cv.go (pc' := 134) (go_sipush dX4_turnsOf_131 is_1000) ?_
            refine Cv.bnd fun v31 m32 e33 => ?_
            have C34 := kc_X4_bounded m7 v6 (1 : Int32) (1000 : Int32) v31 m32 e33
            refine Cv.go (pc' := 137) (st' := [.int v31]) (go_callS (As := [.int v6, .int (1 : Int32), .int (1000 : Int32)]) (st := []) C34 (by decide) ok_X4_bounded lt_X4_bounded lm_X4_50 rfl rfl (Nat.le_of_ble_eq_true rfl) dX4_turnsOf_134) ?_
            have zm32 := C34.1.2.2 rfl
            have hp0 := hp0.sh zm32
            have hp1 := sk zm32 hp1
            exact Cv.ret dX4_turnsOf_137 rfl
