theorem c_X5_back_48 : ∀ n, ∀ (m : Mem) (a1 : Int32) (hS : ShX m), Cv true (cX5_back, 2, RX5, 1, ((false, none) : IK)) .ireturn eI (F_X5_back_48 n m a1) m 48 [.ref 0, .int a1] [] := by
  intro n
  induction n with
  | zero => intro m a1 hS; exact Cv.no
  | succ n ih =>
    intro m a1 hS
    unfold F_X5_back_48
    refine Cv.go (pc' := 49) (go_iload_n (i := 1) (x := a1) dX5_back_48 rfl rfl) ?_
    refine Cv.go (pc' := 50) (go_aload_n (i := 0) (x := 0) dX5_back_49 rfl rfl) ?_
    refine Cv.go (pc' := 53) (go_getI (i := 2) cls5 (sx_k0 hS) (by decide) rfl lf_X5_103 (by decide) dX5_back_50) ?_
    refine Cv.ite (fun h5 => ?_) (fun h5 => ?_)
    · refine Cv.go (pc' := 80) (go_icmp_ge_t (tgt := 80) dX5_back_53 rfl h5) ?_
      refine Cv.go (pc' := 81) (go_aload_n (i := 0) (x := 0) dX5_back_80 rfl rfl) ?_
      refine Cv.go (pc' := 84) (go_getI (i := 2) cls5 (sx_k0 hS) (by decide) rfl lf_X5_103 (by decide) dX5_back_81) ?_
      exact Cv.ret dX5_back_84 rfl
    · refine Cv.go (pc' := 56) (go_icmp_ge_f 80 dX5_back_53 rfl h5) ?_
      refine Cv.go (pc' := 57) (go_aload_n (i := 0) (x := 0) dX5_back_56 rfl rfl) ?_
      refine Cv.go (pc' := 60) (go_getR (i := 1) cls5 (sx_k0 hS) (by decide) rfl lf_X5_11 (Or.inr ⟨_, rfl⟩) (sx_r0_1 hS) dX5_back_57) ?_
      refine Cv.go (pc' := 61) (go_iload_n (i := 1) (x := a1) dX5_back_60 rfl rfl) ?_
      refine Cv.gif fun g6 => ?_
      refine Cv.go (pc' := 62) (go_aaload (t := 9) (t0 := 2) (sx_k1 hS) (by decide) (fun _ => rfl) g6 (sx_e1 hS (vp_lt g6)).1 dX5_back_61) ?_
      have hf7 := (sx_e1 hS (vp_lt g6)).2
      refine Cv.go (pc' := 63) (go_aload_n (i := 0) (x := 0) dX5_back_62 rfl rfl) ?_
      refine Cv.go (pc' := 66) (go_getR (i := 8) cls5 (sx_k0 hS) (by decide) rfl lf_X5_37 (Or.inl ⟨_, rfl⟩) (sx_r0_8 hS) dX5_back_63) ?_
      refine Cv.go (pc' := 69) (go_getR (i := 4) cls1 (sx_k8 hS) (by decide) rfl lf_X5_270 (Or.inr ⟨_, rfl⟩) (sx_r8_4 hS) dX5_back_66) ?_
      refine Cv.go (pc' := 70) (go_iload_n (i := 1) (x := a1) dX5_back_69 rfl rfl) ?_
      refine Cv.gif fun g8 => ?_
      refine Cv.go (pc' := 71) (go_aaload (t := 9) (t0 := 2) (sx_k9 hS) (by decide) (fun _ => rfl) g8 (sx_e9 hS (vp_lt g8)).1 dX5_back_70) ?_
      have hf9 := (sx_e9 hS (vp_lt g8)).2
      refine Cv.bnd fun v10 m11 e12 => ?_
      have C13 := kc_X0_become m (20 + a1.toNatClampNeg) (10 + a1.toNatClampNeg) hf7 hf9 v10 m11 e12
      refine Cv.go (pc' := 74) (st' := []) (go_callV (As := [.ref (10 + a1.toNatClampNeg)]) (st := []) C13 (by decide) ok_X0_become li_X0_become ls_X0_become lm_X5_273 cls0 hf7 rfl rfl (Nat.le_of_ble_eq_true rfl) dX5_back_71) ?_
      have zm11 := C13.1.2.2 rfl
      have hS := hS.sh zm11
      have hf7 := sk zm11 hf7
      have hf9 := sk zm11 hf9
      refine Cv.go (pc' := 77) (ls' := [.ref 0, .int (a1 + (1 : Int32))]) (go_iinc (x := a1) (v := a1 + (1 : Int32)) dX5_back_74 rfl rfl (by decide) rfl) ?_
      refine Cv.go (pc' := 48) (go_goto (tgt := 48) dX5_back_77 rfl) ?_
      exact ih m11 (a1 + (1 : Int32)) hS
theorem kc_X5_back (m : Mem) (hS : ShX m) : ∀ v mE, F_X5_back m = some (v, mE) → Con true kX5_back 1 [.ref 0] m (eI v) mE := by
  refine Con.of (ini := false) (ls0 := [.ref 0, .null]) (ri := .ireturn) (by decide) (by intro z; cases z) rfl (Nat.le_of_ble_eq_true rfl) (fun v mE _ => RetTy.i) ?_
  show Cv true (cX5_back, 2, RX5, 1, ((false, none) : IK)) .ireturn eI (F_X5_back m) m 0 [.ref 0, .null] []
  unfold F_X5_back
  refine Cv.go (pc' := 1) (go_aload_n (i := 0) (x := 0) dX5_back_0 rfl rfl) ?_
  refine Cv.go (pc' := 4) (go_getR (i := 8) cls5 (sx_k0 hS) (by decide) rfl lf_X5_37 (Or.inl ⟨_, rfl⟩) (sx_r0_8 hS) dX5_back_1) ?_
  refine Cv.go (pc' := 7) (go_getI (i := 0) cls1 (sx_k8 hS) (by decide) rfl lf_X5_261 (by decide) dX5_back_4) ?_
  refine Cv.ite (fun h1 => ?_) (fun h1 => ?_)
  · refine Cv.go (pc' := 10) (go_if_ne_f 13 dX5_back_7 rfl h1) ?_
    refine Cv.go (pc' := 12) (go_bipush dX5_back_10 ib_n3) ?_
    exact Cv.ret dX5_back_12 rfl
  · refine Cv.go (pc' := 13) (go_if_ne_t (tgt := 13) dX5_back_7 rfl h1) ?_
    refine Cv.go (pc' := 14) (go_aload_n (i := 0) (x := 0) dX5_back_13 rfl rfl) ?_
    refine Cv.go (pc' := 15) (go_aload_n (i := 0) (x := 0) dX5_back_14 rfl rfl) ?_
    refine Cv.go (pc' := 18) (go_getR (i := 8) cls5 (sx_k0 hS) (by decide) rfl lf_X5_37 (Or.inl ⟨_, rfl⟩) (sx_r0_8 hS) dX5_back_15) ?_
    refine Cv.go (pc' := 21) (go_getI (i := 1) cls1 (sx_k8 hS) (by decide) rfl lf_X5_265 (by decide) dX5_back_18) ?_
    refine Cv.go (pc' := 24) (go_putI (i := 0) cls5 (sx_k0 hS) (by decide) rfl lf_X5_83 (by decide) rfl rfl rfl dX5_back_21) ?_
    refine Cv.namM fun m2 em2 => ?_
    have zm2 : SameSh m m2 := em2 ▸ SameSh.d
    have hS := hS.sh zm2
    refine Cv.go (pc' := 25) (go_aload_n (i := 0) (x := 0) dX5_back_24 rfl rfl) ?_
    refine Cv.go (pc' := 26) (go_aload_n (i := 0) (x := 0) dX5_back_25 rfl rfl) ?_
    refine Cv.go (pc' := 29) (go_getR (i := 8) cls5 (sx_k0 hS) (by decide) rfl lf_X5_37 (Or.inl ⟨_, rfl⟩) (sx_r0_8 hS) dX5_back_26) ?_
    refine Cv.go (pc' := 32) (go_getI (i := 2) cls1 (sx_k8 hS) (by decide) rfl lf_X5_268 (by decide) dX5_back_29) ?_
    refine Cv.go (pc' := 35) (go_putI (i := 6) cls5 (sx_k0 hS) (by decide) rfl lf_X5_142 (by decide) rfl rfl rfl dX5_back_32) ?_
    refine Cv.namM fun m3 em3 => ?_
    have zm3 : SameSh m2 m3 := em3 ▸ SameSh.d
    have hS := hS.sh zm3
    refine Cv.go (pc' := 36) (go_aload_n (i := 0) (x := 0) dX5_back_35 rfl rfl) ?_
    refine Cv.go (pc' := 37) (go_aload_n (i := 0) (x := 0) dX5_back_36 rfl rfl) ?_
    refine Cv.go (pc' := 40) (go_getR (i := 8) cls5 (sx_k0 hS) (by decide) rfl lf_X5_37 (Or.inl ⟨_, rfl⟩) (sx_r0_8 hS) dX5_back_37) ?_
    refine Cv.go (pc' := 43) (go_getI (i := 3) cls1 (sx_k8 hS) (by decide) rfl lf_X5_269 (by decide) dX5_back_40) ?_
    refine Cv.go (pc' := 46) (go_putI (i := 2) cls5 (sx_k0 hS) (by decide) rfl lf_X5_103 (by decide) rfl rfl rfl dX5_back_43) ?_
    refine Cv.namM fun m4 em4 => ?_
    have zm4 : SameSh m3 m4 := em4 ▸ SameSh.d
    have hS := hS.sh zm4
    refine Cv.go (pc' := 47) (go_iconst dX5_back_46 ic_0) ?_
    refine Cv.go (pc' := 48) (ls' := [.ref 0, .int (0 : Int32)]) (go_istore_n dX5_back_47 rfl (by decide) rfl) ?_
    exact c_X5_back_48 FU m4 (0 : Int32) hS
theorem c_X5_wholeCount_29 (K4 : Mem → Int32 → Int32 → Option (Int32 × Mem)) (hK4 : ∀ (m : Mem) (a1 : Int32) (a2 : Int32) (hS : ShX m), Cv true (cX5_wholeCount, 3, RX5, 4, ((false, none) : IK)) .ireturn eI (K4 m a1 a2) m 4 [.ref 0, .int a1, .int a2] []) : ∀ (m : Mem) (a1 : Int32) (a2 : Int32) (hS : ShX m), Cv true (cX5_wholeCount, 3, RX5, 4, ((false, none) : IK)) .ireturn eI (F_X5_wholeCount_29 K4 m a1 a2) m 29 [.ref 0, .int a1, .int a2] [] := by
  intro m a1 a2 hS
  unfold F_X5_wholeCount_29
  refine Cv.go (pc' := 32) (ls' := [.ref 0, .int a1, .int (a2 + (1 : Int32))]) (go_iinc (x := a2) (v := a2 + (1 : Int32)) dX5_wholeCount_29 rfl rfl (by decide) rfl) ?_
  refine Cv.go (pc' := 4) (go_goto (tgt := 4) dX5_wholeCount_32 rfl) ?_
  exact hK4 m a1 (a2 + (1 : Int32)) hS
theorem c_X5_wholeCount_4 : ∀ n, ∀ (m : Mem) (a1 : Int32) (a2 : Int32) (hS : ShX m), Cv true (cX5_wholeCount, 3, RX5, 4, ((false, none) : IK)) .ireturn eI (F_X5_wholeCount_4 n m a1 a2) m 4 [.ref 0, .int a1, .int a2] [] := by
  intro n
  induction n with
  | zero => intro m a1 a2 hS; exact Cv.no
  | succ n ih =>
    intro m a1 a2 hS
    unfold F_X5_wholeCount_4
    refine Cv.go (pc' := 5) (go_iload_n (i := 2) (x := a2) dX5_wholeCount_4 rfl rfl) ?_
    refine Cv.go (pc' := 6) (go_aload_n (i := 0) (x := 0) dX5_wholeCount_5 rfl rfl) ?_
    refine Cv.go (pc' := 9) (go_getI (i := 2) cls5 (sx_k0 hS) (by decide) rfl lf_X5_103 (by decide) dX5_wholeCount_6) ?_
    refine Cv.ite (fun h1 => ?_) (fun h1 => ?_)
    · refine Cv.go (pc' := 35) (go_icmp_ge_t (tgt := 35) dX5_wholeCount_9 rfl h1) ?_
      refine Cv.go (pc' := 36) (go_iload_n (i := 1) (x := a1) dX5_wholeCount_35 rfl rfl) ?_
      exact Cv.ret dX5_wholeCount_36 rfl
    · refine Cv.go (pc' := 12) (go_icmp_ge_f 35 dX5_wholeCount_9 rfl h1) ?_
      refine Cv.go (pc' := 13) (go_aload_n (i := 0) (x := 0) dX5_wholeCount_12 rfl rfl) ?_
      refine Cv.go (pc' := 14) (go_aload_n (i := 0) (x := 0) dX5_wholeCount_13 rfl rfl) ?_
      refine Cv.go (pc' := 17) (go_getR (i := 1) cls5 (sx_k0 hS) (by decide) rfl lf_X5_11 (Or.inr ⟨_, rfl⟩) (sx_r0_1 hS) dX5_wholeCount_14) ?_
      refine Cv.go (pc' := 18) (go_iload_n (i := 2) (x := a2) dX5_wholeCount_17 rfl rfl) ?_
      refine Cv.gif fun g2 => ?_
      refine Cv.go (pc' := 19) (go_aaload (t := 9) (t0 := 2) (sx_k1 hS) (by decide) (fun _ => rfl) g2 (sx_e1 hS (vp_lt g2)).1 dX5_wholeCount_18) ?_
      have hf3 := (sx_e1 hS (vp_lt g2)).2
      refine Cv.go (pc' := 20) (go_iconst dX5_wholeCount_19 ic_0) ?_
      refine Cv.bnd fun v4 m5 e6 => ?_
      have C7 := kc_X5_isWholeBehind m (20 + a2.toNatClampNeg) (0 : Int32) hS hf3 v4 m5 e6
      refine Cv.go (pc' := 23) (st' := [.int (bz v4)]) (go_callV (As := [.ref (20 + a2.toNatClampNeg), .int (0 : Int32)]) (st := []) C7 (by decide) ok_X5_isWholeBehind li_X5_isWholeBehind ls_X5_isWholeBehind lm_X5_128 cls5 (sx_k0 hS) rfl rfl (Nat.le_of_ble_eq_true rfl) dX5_wholeCount_20) ?_
      have zm5 := C7.1.2.2 rfl
      have hS := hS.sh zm5
      have hf3 := sk zm5 hf3
      refine Cv.ite (fun h8 => ?_) (fun h8 => ?_)
      · refine Cv.go (pc' := 29) (go_if_eq_t (tgt := 29) dX5_wholeCount_23 rfl h8) ?_
        exact c_X5_wholeCount_29 (F_X5_wholeCount_4 n) ih m5 a1 a2 hS
      · refine Cv.go (pc' := 26) (go_if_eq_f 29 dX5_wholeCount_23 rfl h8) ?_
        refine Cv.go (pc' := 29) (ls' := [.ref 0, .int (a1 + (1 : Int32)), .int a2]) (go_iinc (x := a1) (v := a1 + (1 : Int32)) dX5_wholeCount_26 rfl rfl (by decide) rfl) ?_
        exact c_X5_wholeCount_29 (F_X5_wholeCount_4 n) ih m5 (a1 + (1 : Int32)) a2 hS
theorem kc_X5_wholeCount (m : Mem) (hS : ShX m) : ∀ v mE, F_X5_wholeCount m = some (v, mE) → Con true kX5_wholeCount 4 [.ref 0] m (eI v) mE := by
  refine Con.of (ini := false) (ls0 := [.ref 0, .null, .null]) (ri := .ireturn) (by decide) (by intro z; cases z) rfl (Nat.le_of_ble_eq_true rfl) (fun v mE _ => RetTy.i) ?_
  show Cv true (cX5_wholeCount, 3, RX5, 4, ((false, none) : IK)) .ireturn eI (F_X5_wholeCount m) m 0 [.ref 0, .null, .null] []
  unfold F_X5_wholeCount
  refine Cv.go (pc' := 1) (go_iconst dX5_wholeCount_0 ic_0) ?_
  refine Cv.go (pc' := 2) (ls' := [.ref 0, .int (0 : Int32), .null]) (go_istore_n dX5_wholeCount_1 rfl (by decide) rfl) ?_
  refine Cv.go (pc' := 3) (go_iconst dX5_wholeCount_2 ic_0) ?_
  refine Cv.go (pc' := 4) (ls' := [.ref 0, .int (0 : Int32), .int (0 : Int32)]) (go_istore_n dX5_wholeCount_3 rfl (by decide) rfl) ?_
  exact c_X5_wholeCount_4 FU m (0 : Int32) (0 : Int32) hS
theorem kc_X5_count (m : Mem) (a1 : Int32) (hS : ShX m) : ∀ v mE, F_X5_count m a1 = some (v, mE) → Con true kX5_count 5 [.ref 0, .int a1] m (eI v) mE := by
  refine Con.of (ini := false) (ls0 := [.ref 0, .int a1]) (ri := .ireturn) (by decide) (by intro z; cases z) rfl (Nat.le_of_ble_eq_true rfl) (fun v mE _ => RetTy.i) ?_
  show Cv true (cX5_count, 2, RX5, 5, ((false, none) : IK)) .ireturn eI (F_X5_count m a1) m 0 [.ref 0, .int a1] []
  unfold F_X5_count
  refine Cv.go (pc' := 1) (go_iload_n (i := 1) (x := a1) dX5_count_0 rfl rfl) ?_
  refine Cv.ite (fun h1 => ?_) (fun h1 => ?_)
  · refine Cv.go (pc' := 40) (go_tsIn (off := 39) (tgt := 40) dX5_count_1 (by rw [h1]; decide) (by rw [h1]; decide) (by rw [h1]; rfl) rfl) ?_
    refine Cv.go (pc' := 41) (go_aload_n (i := 0) (x := 0) dX5_count_40 rfl rfl) ?_
    refine Cv.go (pc' := 44) (go_getI (i := 2) cls5 (sx_k0 hS) (by decide) rfl lf_X5_103 (by decide) dX5_count_41) ?_
    exact Cv.ret dX5_count_44 rfl
  · refine Cv.ite (fun h2 => ?_) (fun h2 => ?_)
    · refine Cv.go (pc' := 45) (go_tsIn (off := 44) (tgt := 45) dX5_count_1 (by rw [h2]; decide) (by rw [h2]; decide) (by rw [h2]; rfl) rfl) ?_
      refine Cv.go (pc' := 46) (go_aload_n (i := 0) (x := 0) dX5_count_45 rfl rfl) ?_
      refine Cv.bnd fun v3 m4 e5 => ?_
      have C6 := kc_X5_wholeCount m hS v3 m4 e5
      refine Cv.go (pc' := 49) (st' := [.int v3]) (go_callV (As := []) (st := []) C6 (by decide) ok_X5_wholeCount li_X5_wholeCount ls_X5_wholeCount lm_X5_276 cls5 (sx_k0 hS) rfl rfl (Nat.le_of_ble_eq_true rfl) dX5_count_46) ?_
      have zm4 := C6.1.2.2 rfl
      have hS := hS.sh zm4
      exact Cv.ret dX5_count_49 rfl
    · refine Cv.ite (fun h7 => ?_) (fun h7 => ?_)
      · refine Cv.go (pc' := 50) (go_tsIn (off := 49) (tgt := 50) dX5_count_1 (by rw [h7]; decide) (by rw [h7]; decide) (by rw [h7]; rfl) rfl) ?_
        refine Cv.go (pc' := 51) (go_aload_n (i := 0) (x := 0) dX5_count_50 rfl rfl) ?_
        refine Cv.go (pc' := 54) (go_getI (i := 0) cls5 (sx_k0 hS) (by decide) rfl lf_X5_83 (by decide) dX5_count_51) ?_
        exact Cv.ret dX5_count_54 rfl
      · refine Cv.ite (fun h8 => ?_) (fun h8 => ?_)
        · refine Cv.go (pc' := 55) (go_tsIn (off := 54) (tgt := 55) dX5_count_1 (by rw [h8]; decide) (by rw [h8]; decide) (by rw [h8]; rfl) rfl) ?_
          refine Cv.go (pc' := 56) (go_aload_n (i := 0) (x := 0) dX5_count_55 rfl rfl) ?_
          refine Cv.go (pc' := 59) (go_getI (i := 5) cls5 (sx_k0 hS) (by decide) rfl lf_X5_139 (by decide) dX5_count_56) ?_
          exact Cv.ret dX5_count_59 rfl
        · refine Cv.ite (fun h9 => ?_) (fun h9 => ?_)
          · refine Cv.go (pc' := 60) (go_tsIn (off := 59) (tgt := 60) dX5_count_1 (by rw [h9]; decide) (by rw [h9]; decide) (by rw [h9]; rfl) rfl) ?_
            refine Cv.go (pc' := 61) (go_aload_n (i := 0) (x := 0) dX5_count_60 rfl rfl) ?_
            refine Cv.go (pc' := 64) (go_getR (i := 3) cls5 (sx_k0 hS) (by decide) rfl lf_X5_18 (Or.inl ⟨_, rfl⟩) (sx_r0_3 hS) dX5_count_61) ?_
            refine Cv.go (pc' := 67) (go_getI (i := 1) cls3 (sx_k2 hS) (by decide) rfl lf_X5_136 (by decide) dX5_count_64) ?_
            exact Cv.ret dX5_count_67 rfl
          · refine Cv.ite (fun h10 => ?_) (fun h10 => ?_)
            · refine Cv.go (pc' := 68) (go_tsIn (off := 67) (tgt := 68) dX5_count_1 (by rw [h10]; decide) (by rw [h10]; decide) (by rw [h10]; rfl) rfl) ?_
              refine Cv.go (pc' := 69) (go_aload_n (i := 0) (x := 0) dX5_count_68 rfl rfl) ?_
              refine Cv.go (pc' := 72) (go_getI (i := 6) cls5 (sx_k0 hS) (by decide) rfl lf_X5_142 (by decide) dX5_count_69) ?_
              exact Cv.ret dX5_count_72 rfl
            · refine Cv.go (pc' := 73) (go_tsOut (tgt := 73) dX5_count_1 (by have n0 : (a1).toInt ≠ 0 := fun z => h1 (Int32.toInt_inj.mp (z.trans (by decide))); have n1 : (a1).toInt ≠ 1 := fun z => h2 (Int32.toInt_inj.mp (z.trans (by decide))); have n2 : (a1).toInt ≠ 2 := fun z => h7 (Int32.toInt_inj.mp (z.trans (by decide))); have n3 : (a1).toInt ≠ 3 := fun z => h8 (Int32.toInt_inj.mp (z.trans (by decide))); have n4 : (a1).toInt ≠ 4 := fun z => h9 (Int32.toInt_inj.mp (z.trans (by decide))); have n5 : (a1).toInt ≠ 5 := fun z => h10 (Int32.toInt_inj.mp (z.trans (by decide))); omega) rfl) ?_
              refine Cv.go (pc' := 75) (go_bipush dX5_count_73 ib_n2) ?_
              exact Cv.ret dX5_count_75 rfl
theorem kc_X5_sheet (m : Mem) (a1 : Int32) (a2 : Int32) (a3 : Int32) (hS : ShX m) : ∀ v mE, F_X5_sheet m a1 a2 a3 = some (v, mE) → Con true kX5_sheet 2 [.ref 0, .int a1, .int a2, .int a3] m (eI v) mE := by
  refine Con.of (ini := false) (ls0 := [.ref 0, .int a1, .int a2, .int a3]) (ri := .ireturn) (by decide) (by intro z; cases z) rfl (Nat.le_of_ble_eq_true rfl) (fun v mE _ => RetTy.i) ?_
  show Cv true (cX5_sheet, 4, RX5, 2, ((false, none) : IK)) .ireturn eI (F_X5_sheet m a1 a2 a3) m 0 [.ref 0, .int a1, .int a2, .int a3] []
  unfold F_X5_sheet
  refine Cv.go (pc' := 1) (go_iload_n (i := 1) (x := a1) dX5_sheet_0 rfl rfl) ?_
  refine Cv.bnd fun v1 m2 e3 => ?_
  have C4 := kc_X5_isSheet m a1 v1 m2 e3
  refine Cv.go (pc' := 4) (st' := [.int (bz v1)]) (go_callS (As := [.int a1]) (st := []) C4 (by decide) ok_X5_isSheet lt_X5_isSheet lm_X5_208 rfl rfl (Nat.le_of_ble_eq_true rfl) dX5_sheet_1) ?_
  have zm2 := C4.1.2.2 rfl
  have hS := hS.sh zm2
  refine Cv.ite (fun h5 => ?_) (fun h5 => ?_)
  · refine Cv.go (pc' := 16) (go_if_eq_t (tgt := 16) dX5_sheet_4 rfl h5) ?_
    refine Cv.go (pc' := 18) (go_bipush dX5_sheet_16 ib_n2) ?_
    exact Cv.ret dX5_sheet_18 rfl
  · refine Cv.go (pc' := 7) (go_if_eq_f 16 dX5_sheet_4 rfl h5) ?_
    refine Cv.go (pc' := 8) (go_iload_n (i := 2) (x := a2) dX5_sheet_7 rfl rfl) ?_
    refine Cv.go (pc' := 9) (go_iconst dX5_sheet_8 ic_n1) ?_
    refine Cv.go (pc' := 10) (go_iconst dX5_sheet_9 ic_2) ?_
    refine Cv.bnd fun v6 m7 e8 => ?_
    have C9 := kc_X5_isBetween m2 a2 (-1 : Int32) (2 : Int32) v6 m7 e8
    refine Cv.go (pc' := 13) (st' := [.int (bz v6)]) (go_callS (As := [.int a2, .int (-1 : Int32), .int (2 : Int32)]) (st := []) C9 (by decide) ok_X5_isBetween lt_X5_isBetween lm_X5_73 rfl rfl (Nat.le_of_ble_eq_true rfl) dX5_sheet_10) ?_
    have zm7 := C9.1.2.2 rfl
    have hS := hS.sh zm7
    refine Cv.ite (fun h10 => ?_) (fun h10 => ?_)
    · refine Cv.go (pc' := 16) (go_if_ne_f 19 dX5_sheet_13 rfl h10) ?_
      refine Cv.go (pc' := 18) (go_bipush dX5_sheet_16 ib_n2) ?_
      exact Cv.ret dX5_sheet_18 rfl
    · refine Cv.go (pc' := 19) (go_if_ne_t (tgt := 19) dX5_sheet_13 rfl h10) ?_
      refine Cv.go (pc' := 20) (go_iload_n (i := 2) (x := a2) dX5_sheet_19 rfl rfl) ?_
      refine Cv.go (pc' := 21) (go_iconst dX5_sheet_20 ic_n1) ?_
      refine Cv.ite (fun h11 => ?_) (fun h11 => ?_)
      · refine Cv.go (pc' := 24) (go_icmp_ne_f 37 dX5_sheet_21 rfl h11) ?_
        refine Cv.go (pc' := 25) (go_aload_n (i := 0) (x := 0) dX5_sheet_24 rfl rfl) ?_
        refine Cv.go (pc' := 28) (go_getR (i := 7) cls5 (sx_k0 hS) (by decide) rfl lf_X5_30 (Or.inr ⟨_, rfl⟩) (sx_r0_7 hS) dX5_sheet_25) ?_
        refine Cv.go (pc' := 29) (go_iload_n (i := 1) (x := a1) dX5_sheet_28 rfl rfl) ?_
        refine Cv.gif fun g20 => ?_
        refine Cv.go (pc' := 30) (go_aaload (t := 10) (t0 := 3) (sx_k7 hS) (by decide) (fun _ => rfl) g20 (sx_e7 hS (vp_lt g20)).1 dX5_sheet_29) ?_
        have hf21 := (sx_e7 hS (vp_lt g20)).2
        refine Cv.go (pc' := 31) (go_iconst dX5_sheet_30 ic_n1) ?_
        refine Cv.go (pc' := 32) (go_iconst dX5_sheet_31 ic_0) ?_
        refine Cv.bnd fun v22 m23 e24 => ?_
        have C25 := kc_X2_become m7 (28 + 2 * a1.toNatClampNeg) (-1 : Int32) (0 : Int32) hf21 v22 m23 e24
        refine Cv.go (pc' := 35) (st' := []) (go_callV (As := [.int (-1 : Int32), .int (0 : Int32)]) (st := []) C25 (by decide) ok_X2_become li_X2_become ls_X2_become lm_X5_238 cls2 hf21.1 rfl rfl (Nat.le_of_ble_eq_true rfl) dX5_sheet_32) ?_
        have zm23 := C25.1.2.2 rfl
        have hS := hS.sh zm23
        have hf21 := hf21.sh zm23
        refine Cv.go (pc' := 36) (go_iconst dX5_sheet_35 ic_1) ?_
        exact Cv.ret dX5_sheet_36 rfl
      · refine Cv.go (pc' := 37) (go_icmp_ne_t (tgt := 37) dX5_sheet_21 rfl h11) ?_
        refine Cv.go (pc' := 38) (go_iload_n (i := 3) (x := a3) dX5_sheet_37 rfl rfl) ?_
        refine Cv.go (pc' := 40) (go_bipush dX5_sheet_38 ib_40) ?_
        refine Cv.ite (fun h12 => ?_) (fun h12 => ?_)
        · refine Cv.go (pc' := 46) (go_icmp_le_t (tgt := 46) dX5_sheet_40 rfl h12) ?_
          refine Cv.go (pc' := 47) (go_iload_n (i := 3) (x := a3) dX5_sheet_46 rfl rfl) ?_
          refine Cv.ite (fun h13 => ?_) (fun h13 => ?_)
          · refine Cv.go (pc' := 53) (go_if_ge_t (tgt := 53) dX5_sheet_47 rfl h13) ?_
            refine Cv.go (pc' := 54) (go_aload_n (i := 0) (x := 0) dX5_sheet_53 rfl rfl) ?_
            refine Cv.go (pc' := 57) (go_getR (i := 7) cls5 (sx_k0 hS) (by decide) rfl lf_X5_30 (Or.inr ⟨_, rfl⟩) (sx_r0_7 hS) dX5_sheet_54) ?_
            refine Cv.go (pc' := 58) (go_iload_n (i := 1) (x := a1) dX5_sheet_57 rfl rfl) ?_
            refine Cv.gif fun g14 => ?_
            refine Cv.go (pc' := 59) (go_aaload (t := 10) (t0 := 3) (sx_k7 hS) (by decide) (fun _ => rfl) g14 (sx_e7 hS (vp_lt g14)).1 dX5_sheet_58) ?_
            have hf15 := (sx_e7 hS (vp_lt g14)).2
            refine Cv.go (pc' := 60) (go_iload_n (i := 2) (x := a2) dX5_sheet_59 rfl rfl) ?_
            refine Cv.go (pc' := 61) (go_iload_n (i := 3) (x := a3) dX5_sheet_60 rfl rfl) ?_
            refine Cv.bnd fun v16 m17 e18 => ?_
            have C19 := kc_X2_become m7 (28 + 2 * a1.toNatClampNeg) a2 a3 hf15 v16 m17 e18
            refine Cv.go (pc' := 64) (st' := []) (go_callV (As := [.int a2, .int a3]) (st := []) C19 (by decide) ok_X2_become li_X2_become ls_X2_become lm_X5_238 cls2 hf15.1 rfl rfl (Nat.le_of_ble_eq_true rfl) dX5_sheet_61) ?_
            have zm17 := C19.1.2.2 rfl
            have hS := hS.sh zm17
            have hf15 := hf15.sh zm17
            refine Cv.go (pc' := 65) (go_iconst dX5_sheet_64 ic_1) ?_
            exact Cv.ret dX5_sheet_65 rfl
          · refine Cv.go (pc' := 50) (go_if_ge_f 53 dX5_sheet_47 rfl h13) ?_
            refine Cv.go (pc' := 52) (go_bipush dX5_sheet_50 ib_n14) ?_
            exact Cv.ret dX5_sheet_52 rfl
        · refine Cv.go (pc' := 43) (go_icmp_le_f 46 dX5_sheet_40 rfl h12) ?_
          refine Cv.go (pc' := 45) (go_bipush dX5_sheet_43 ib_n2) ?_
          exact Cv.ret dX5_sheet_45 rfl
theorem kc_X5_cell (m : Mem) (a1 : Int32) (a2 : Int32) (a3 : Int32) (hS : ShX m) : ∀ v mE, F_X5_cell m a1 a2 a3 = some (v, mE) → Con true kX5_cell 1 [.ref 0, .int a1, .int a2, .int a3] m (eI v) mE := by
  refine Con.of (ini := false) (ls0 := [.ref 0, .int a1, .int a2, .int a3, .null]) (ri := .ireturn) (by decide) (by intro z; cases z) rfl (Nat.le_of_ble_eq_true rfl) (fun v mE _ => RetTy.i) ?_
  show Cv true (cX5_cell, 5, RX5, 1, ((false, none) : IK)) .ireturn eI (F_X5_cell m a1 a2 a3) m 0 [.ref 0, .int a1, .int a2, .int a3, .null] []
  unfold F_X5_cell
  refine Cv.go (pc' := 1) (go_iload_n (i := 1) (x := a1) dX5_cell_0 rfl rfl) ?_
  refine Cv.bnd fun v1 m2 e3 => ?_
  have C4 := kc_X5_isSheet m a1 v1 m2 e3
  refine Cv.go (pc' := 4) (st' := [.int (bz v1)]) (go_callS (As := [.int a1]) (st := []) C4 (by decide) ok_X5_isSheet lt_X5_isSheet lm_X5_208 rfl rfl (Nat.le_of_ble_eq_true rfl) dX5_cell_1) ?_
  have zm2 := C4.1.2.2 rfl
  have hS := hS.sh zm2
  refine Cv.ite (fun h5 => ?_) (fun h5 => ?_)
  · refine Cv.go (pc' := 7) (go_if_ne_f 10 dX5_cell_4 rfl h5) ?_
    refine Cv.go (pc' := 9) (go_bipush dX5_cell_7 ib_n2) ?_
    exact Cv.ret dX5_cell_9 rfl
  · refine Cv.go (pc' := 10) (go_if_ne_t (tgt := 10) dX5_cell_4 rfl h5) ?_
    refine Cv.go (pc' := 11) (go_aload_n (i := 0) (x := 0) dX5_cell_10 rfl rfl) ?_
    refine Cv.go (pc' := 14) (go_getR (i := 7) cls5 (sx_k0 hS) (by decide) rfl lf_X5_30 (Or.inr ⟨_, rfl⟩) (sx_r0_7 hS) dX5_cell_11) ?_
    refine Cv.go (pc' := 15) (go_iload_n (i := 1) (x := a1) dX5_cell_14 rfl rfl) ?_
    refine Cv.gif fun g6 => ?_
    refine Cv.go (pc' := 16) (go_aaload (t := 10) (t0 := 3) (sx_k7 hS) (by decide) (fun _ => rfl) g6 (sx_e7 hS (vp_lt g6)).1 dX5_cell_15) ?_
    have hf7 := (sx_e7 hS (vp_lt g6)).2
    refine Cv.go (pc' := 18) (ls' := [.ref 0, .int a1, .int a2, .int a3, .ref (28 + 2 * a1.toNatClampNeg)]) (go_astore dX5_cell_16 (by decide) rfl) ?_
    refine Cv.go (pc' := 20) (go_aload (i := 4) (x := 28 + 2 * a1.toNatClampNeg) dX5_cell_18 rfl) ?_
    refine Cv.bnd fun v8 m9 e10 => ?_
    have C11 := kc_X2_isMissing m2 (28 + 2 * a1.toNatClampNeg) hf7 v8 m9 e10
    refine Cv.go (pc' := 23) (st' := [.int (bz v8)]) (go_callV (As := []) (st := []) C11 (by decide) ok_X2_isMissing li_X2_isMissing ls_X2_isMissing lm_X5_211 cls2 hf7.1 rfl rfl (Nat.le_of_ble_eq_true rfl) dX5_cell_20) ?_
    have zm9 := C11.1.2.2 rfl
    have hS := hS.sh zm9
    have hf7 := hf7.sh zm9
    refine Cv.ite (fun h12 => ?_) (fun h12 => ?_)
    · refine Cv.go (pc' := 29) (go_if_eq_t (tgt := 29) dX5_cell_23 rfl h12) ?_
      refine Cv.go (pc' := 30) (go_iload_n (i := 2) (x := a2) dX5_cell_29 rfl rfl) ?_
      refine Cv.go (pc' := 31) (go_iconst dX5_cell_30 ic_0) ?_
      refine Cv.go (pc' := 33) (go_aload (i := 4) (x := 28 + 2 * a1.toNatClampNeg) dX5_cell_31 rfl) ?_
      refine Cv.go (pc' := 36) (go_getI (i := 1) cls2 hf7.1 (by decide) rfl lf_X5_279 (by decide) dX5_cell_33) ?_
      refine Cv.go (pc' := 37) (go_iconst dX5_cell_36 ic_1) ?_
      refine Cv.go (pc' := 38) (go_isub dX5_cell_37) ?_
      refine Cv.bnd fun v13 m14 e15 => ?_
      have C16 := kc_X5_isBetween m9 a2 (0 : Int32) ((mD m9 (28 + 2 * a1.toNatClampNeg) 1) - (1 : Int32)) v13 m14 e15
      refine Cv.go (pc' := 41) (st' := [.int (bz v13)]) (go_callS (As := [.int a2, .int (0 : Int32), .int ((mD m9 (28 + 2 * a1.toNatClampNeg) 1) - (1 : Int32))]) (st := []) C16 (by decide) ok_X5_isBetween lt_X5_isBetween lm_X5_73 rfl rfl (Nat.le_of_ble_eq_true rfl) dX5_cell_38) ?_
      have zm14 := C16.1.2.2 rfl
      have hS := hS.sh zm14
      have hf7 := hf7.sh zm14
      refine Cv.ite (fun h17 => ?_) (fun h17 => ?_)
      · refine Cv.go (pc' := 44) (go_if_ne_f 47 dX5_cell_41 rfl h17) ?_
        refine Cv.go (pc' := 46) (go_bipush dX5_cell_44 ib_n12) ?_
        exact Cv.ret dX5_cell_46 rfl
      · refine Cv.go (pc' := 47) (go_if_ne_t (tgt := 47) dX5_cell_41 rfl h17) ?_
        refine Cv.go (pc' := 49) (go_aload (i := 4) (x := 28 + 2 * a1.toNatClampNeg) dX5_cell_47 rfl) ?_
        refine Cv.go (pc' := 50) (go_iload_n (i := 2) (x := a2) dX5_cell_49 rfl rfl) ?_
        refine Cv.go (pc' := 51) (go_iload_n (i := 3) (x := a3) dX5_cell_50 rfl rfl) ?_
        refine Cv.bnd fun v18 m19 e20 => ?_
        have C21 := kc_X2_put m14 (28 + 2 * a1.toNatClampNeg) a2 a3 hf7 v18 m19 e20
        refine Cv.go (pc' := 54) (st' := []) (go_callV (As := [.int a2, .int a3]) (st := []) C21 (by decide) ok_X2_put li_X2_put ls_X2_put lm_X5_241 cls2 hf7.1 rfl rfl (Nat.le_of_ble_eq_true rfl) dX5_cell_51) ?_
        have zm19 := C21.1.2.2 rfl
        have hS := hS.sh zm19
        have hf7 := hf7.sh zm19
        refine Cv.go (pc' := 55) (go_iconst dX5_cell_54 ic_1) ?_
        exact Cv.ret dX5_cell_55 rfl
    · refine Cv.go (pc' := 26) (go_if_eq_f 29 dX5_cell_23 rfl h12) ?_
      refine Cv.go (pc' := 28) (go_bipush dX5_cell_26 ib_n11) ?_
      exact Cv.ret dX5_cell_28 rfl
theorem kc_X5_copy (m : Mem) (a1 : Int32) (a2 : Int32) (a3 : Int32) (a4 : Int32) (a5 : Int32) (hS : ShX m) : ∀ v mE, F_X5_copy m a1 a2 a3 a4 a5 = some (v, mE) → Con true kX5_copy 1 [.ref 0, .int a1, .int a2, .int a3, .int a4, .int a5] m (eI v) mE := by
  refine Con.of (ini := false) (ls0 := [.ref 0, .int a1, .int a2, .int a3, .int a4, .int a5, .null, .null]) (ri := .ireturn) (by decide) (by intro z; cases z) rfl (Nat.le_of_ble_eq_true rfl) (fun v mE _ => RetTy.i) ?_
  show Cv true (cX5_copy, 8, RX5, 1, ((false, none) : IK)) .ireturn eI (F_X5_copy m a1 a2 a3 a4 a5) m 0 [.ref 0, .int a1, .int a2, .int a3, .int a4, .int a5, .null, .null] []
  unfold F_X5_copy
  refine Cv.go (pc' := 1) (go_iload_n (i := 1) (x := a1) dX5_copy_0 rfl rfl) ?_
  refine Cv.bnd fun v1 m2 e3 => ?_
  have C4 := kc_X5_isSheet m a1 v1 m2 e3
  refine Cv.go (pc' := 4) (st' := [.int (bz v1)]) (go_callS (As := [.int a1]) (st := []) C4 (by decide) ok_X5_isSheet lt_X5_isSheet lm_X5_208 rfl rfl (Nat.le_of_ble_eq_true rfl) dX5_copy_1) ?_
  have zm2 := C4.1.2.2 rfl
  have hS := hS.sh zm2
  refine Cv.ite (fun h5 => ?_) (fun h5 => ?_)
  · refine Cv.go (pc' := 14) (go_if_eq_t (tgt := 14) dX5_copy_4 rfl h5) ?_
    refine Cv.go (pc' := 16) (go_bipush dX5_copy_14 ib_n2) ?_
    exact Cv.ret dX5_copy_16 rfl
  · refine Cv.go (pc' := 7) (go_if_eq_f 14 dX5_copy_4 rfl h5) ?_
    refine Cv.go (pc' := 8) (go_iload_n (i := 3) (x := a3) dX5_copy_7 rfl rfl) ?_
    refine Cv.bnd fun v6 m7 e8 => ?_
    have C9 := kc_X5_isSheet m2 a3 v6 m7 e8
    refine Cv.go (pc' := 11) (st' := [.int (bz v6)]) (go_callS (As := [.int a3]) (st := []) C9 (by decide) ok_X5_isSheet lt_X5_isSheet lm_X5_208 rfl rfl (Nat.le_of_ble_eq_true rfl) dX5_copy_8) ?_
    have zm7 := C9.1.2.2 rfl
    have hS := hS.sh zm7
    refine Cv.ite (fun h10 => ?_) (fun h10 => ?_)
    · refine Cv.go (pc' := 14) (go_if_ne_f 17 dX5_copy_11 rfl h10) ?_
      refine Cv.go (pc' := 16) (go_bipush dX5_copy_14 ib_n2) ?_
      exact Cv.ret dX5_copy_16 rfl
    · refine Cv.go (pc' := 17) (go_if_ne_t (tgt := 17) dX5_copy_11 rfl h10) ?_
      refine Cv.go (pc' := 18) (go_aload_n (i := 0) (x := 0) dX5_copy_17 rfl rfl) ?_
      refine Cv.go (pc' := 21) (go_getR (i := 7) cls5 (sx_k0 hS) (by decide) rfl lf_X5_30 (Or.inr ⟨_, rfl⟩) (sx_r0_7 hS) dX5_copy_18) ?_
      refine Cv.go (pc' := 22) (go_iload_n (i := 1) (x := a1) dX5_copy_21 rfl rfl) ?_
      refine Cv.gif fun g11 => ?_
      refine Cv.go (pc' := 23) (go_aaload (t := 10) (t0 := 3) (sx_k7 hS) (by decide) (fun _ => rfl) g11 (sx_e7 hS (vp_lt g11)).1 dX5_copy_22) ?_
      have hf12 := (sx_e7 hS (vp_lt g11)).2
      refine Cv.go (pc' := 25) (ls' := [.ref 0, .int a1, .int a2, .int a3, .int a4, .int a5, .ref (28 + 2 * a1.toNatClampNeg), .null]) (go_astore dX5_copy_23 (by decide) rfl) ?_
      refine Cv.go (pc' := 26) (go_aload_n (i := 0) (x := 0) dX5_copy_25 rfl rfl) ?_
      refine Cv.go (pc' := 29) (go_getR (i := 7) cls5 (sx_k0 hS) (by decide) rfl lf_X5_30 (Or.inr ⟨_, rfl⟩) (sx_r0_7 hS) dX5_copy_26) ?_
      refine Cv.go (pc' := 30) (go_iload_n (i := 3) (x := a3) dX5_copy_29 rfl rfl) ?_
      refine Cv.gif fun g13 => ?_
      refine Cv.go (pc' := 31) (go_aaload (t := 10) (t0 := 3) (sx_k7 hS) (by decide) (fun _ => rfl) g13 (sx_e7 hS (vp_lt g13)).1 dX5_copy_30) ?_
      have hf14 := (sx_e7 hS (vp_lt g13)).2
      refine Cv.go (pc' := 33) (ls' := [.ref 0, .int a1, .int a2, .int a3, .int a4, .int a5, .ref (28 + 2 * a1.toNatClampNeg), .ref (28 + 2 * a3.toNatClampNeg)]) (go_astore dX5_copy_31 (by decide) rfl) ?_
      refine Cv.go (pc' := 35) (go_aload (i := 6) (x := 28 + 2 * a1.toNatClampNeg) dX5_copy_33 rfl) ?_
      refine Cv.bnd fun v15 m16 e17 => ?_
      have C18 := kc_X2_isMissing m7 (28 + 2 * a1.toNatClampNeg) hf12 v15 m16 e17
      refine Cv.go (pc' := 38) (st' := [.int (bz v15)]) (go_callV (As := []) (st := []) C18 (by decide) ok_X2_isMissing li_X2_isMissing ls_X2_isMissing lm_X5_211 cls2 hf12.1 rfl rfl (Nat.le_of_ble_eq_true rfl) dX5_copy_35) ?_
      have zm16 := C18.1.2.2 rfl
      have hS := hS.sh zm16
      have hf12 := hf12.sh zm16
      have hf14 := hf14.sh zm16
      refine Cv.ite (fun h19 => ?_) (fun h19 => ?_)
      · refine Cv.go (pc' := 41) (go_if_ne_f 49 dX5_copy_38 rfl h19) ?_
        refine Cv.go (pc' := 43) (go_aload (i := 7) (x := 28 + 2 * a3.toNatClampNeg) dX5_copy_41 rfl) ?_
        refine Cv.bnd fun v20 m21 e22 => ?_
        have C23 := kc_X2_isMissing m16 (28 + 2 * a3.toNatClampNeg) hf14 v20 m21 e22
        refine Cv.go (pc' := 46) (st' := [.int (bz v20)]) (go_callV (As := []) (st := []) C23 (by decide) ok_X2_isMissing li_X2_isMissing ls_X2_isMissing lm_X5_211 cls2 hf14.1 rfl rfl (Nat.le_of_ble_eq_true rfl) dX5_copy_43) ?_
        have zm21 := C23.1.2.2 rfl
        have hS := hS.sh zm21
        have hf12 := hf12.sh zm21
        have hf14 := hf14.sh zm21
        refine Cv.ite (fun h24 => ?_) (fun h24 => ?_)
        · refine Cv.go (pc' := 52) (go_if_eq_t (tgt := 52) dX5_copy_46 rfl h24) ?_
          refine Cv.go (pc' := 54) (go_aload (i := 6) (x := 28 + 2 * a1.toNatClampNeg) dX5_copy_52 rfl) ?_
          refine Cv.go (pc' := 57) (go_getI (i := 0) cls2 hf12.1 (by decide) rfl lf_X5_280 (by decide) dX5_copy_54) ?_
          refine Cv.go (pc' := 59) (go_aload (i := 7) (x := 28 + 2 * a3.toNatClampNeg) dX5_copy_57 rfl) ?_
          refine Cv.go (pc' := 62) (go_getI (i := 0) cls2 hf14.1 (by decide) rfl lf_X5_280 (by decide) dX5_copy_59) ?_
          refine Cv.ite (fun h25 => ?_) (fun h25 => ?_)
          · refine Cv.go (pc' := 68) (go_icmp_eq_t (tgt := 68) dX5_copy_62 rfl h25) ?_
            refine Cv.go (pc' := 70) (go_aload (i := 6) (x := 28 + 2 * a1.toNatClampNeg) dX5_copy_68 rfl) ?_
            refine Cv.go (pc' := 71) (go_iload_n (i := 2) (x := a2) dX5_copy_70 rfl rfl) ?_
            refine Cv.go (pc' := 73) (go_iload (i := 5) (x := a5) dX5_copy_71 rfl) ?_
            refine Cv.bnd fun v26 m27 e28 => ?_
            have C29 := kc_X2_hasRoom m21 (28 + 2 * a1.toNatClampNeg) a2 a5 hf12 v26 m27 e28
            refine Cv.go (pc' := 76) (st' := [.int (bz v26)]) (go_callV (As := [.int a2, .int a5]) (st := []) C29 (by decide) ok_X2_hasRoom li_X2_hasRoom ls_X2_hasRoom lm_X5_283 cls2 hf12.1 rfl rfl (Nat.le_of_ble_eq_true rfl) dX5_copy_73) ?_
            have zm27 := C29.1.2.2 rfl
            have hS := hS.sh zm27
            have hf12 := hf12.sh zm27
            have hf14 := hf14.sh zm27
            refine Cv.ite (fun h30 => ?_) (fun h30 => ?_)
            · refine Cv.go (pc' := 91) (go_if_eq_t (tgt := 91) dX5_copy_76 rfl h30) ?_
              refine Cv.go (pc' := 93) (go_bipush dX5_copy_91 ib_n12) ?_
              exact Cv.ret dX5_copy_93 rfl
            · refine Cv.go (pc' := 79) (go_if_eq_f 91 dX5_copy_76 rfl h30) ?_
              refine Cv.go (pc' := 81) (go_aload (i := 7) (x := 28 + 2 * a3.toNatClampNeg) dX5_copy_79 rfl) ?_
              refine Cv.go (pc' := 83) (go_iload (i := 4) (x := a4) dX5_copy_81 rfl) ?_
              refine Cv.go (pc' := 85) (go_iload (i := 5) (x := a5) dX5_copy_83 rfl) ?_
              refine Cv.bnd fun v31 m32 e33 => ?_
              have C34 := kc_X2_hasRoom m27 (28 + 2 * a3.toNatClampNeg) a4 a5 hf14 v31 m32 e33
              refine Cv.go (pc' := 88) (st' := [.int (bz v31)]) (go_callV (As := [.int a4, .int a5]) (st := []) C34 (by decide) ok_X2_hasRoom li_X2_hasRoom ls_X2_hasRoom lm_X5_283 cls2 hf14.1 rfl rfl (Nat.le_of_ble_eq_true rfl) dX5_copy_85) ?_
              have zm32 := C34.1.2.2 rfl
              have hS := hS.sh zm32
              have hf12 := hf12.sh zm32
              have hf14 := hf14.sh zm32
              refine Cv.ite (fun h35 => ?_) (fun h35 => ?_)
              · refine Cv.go (pc' := 91) (go_if_ne_f 94 dX5_copy_88 rfl h35) ?_
                refine Cv.go (pc' := 93) (go_bipush dX5_copy_91 ib_n12) ?_
                exact Cv.ret dX5_copy_93 rfl
              · refine Cv.go (pc' := 94) (go_if_ne_t (tgt := 94) dX5_copy_88 rfl h35) ?_
                refine Cv.go (pc' := 96) (go_aload (i := 6) (x := 28 + 2 * a1.toNatClampNeg) dX5_copy_94 rfl) ?_
                refine Cv.go (pc' := 99) (go_getR (i := 2) cls2 hf12.1 (by decide) rfl lf_X5_286 (Or.inr ⟨_, rfl⟩) hf12.2.1 dX5_copy_96) ?_
                refine Cv.go (pc' := 100) (go_iload_n (i := 2) (x := a2) dX5_copy_99 rfl rfl) ?_
                refine Cv.go (pc' := 102) (go_aload (i := 7) (x := 28 + 2 * a3.toNatClampNeg) dX5_copy_100 rfl) ?_
                refine Cv.go (pc' := 105) (go_getR (i := 2) cls2 hf14.1 (by decide) rfl lf_X5_286 (Or.inr ⟨_, rfl⟩) hf14.2.1 dX5_copy_102) ?_
                refine Cv.go (pc' := 107) (go_iload (i := 4) (x := a4) dX5_copy_105 rfl) ?_
                refine Cv.go (pc' := 109) (go_iload (i := 5) (x := a5) dX5_copy_107 rfl) ?_
                refine Cv.gif fun g36 => ?_
                refine Cv.go (pc' := 112) (go_copy lm_X5_289 lv_copyN lt_copyN ln_System hf12.2.2 hf14.2.2 g36.1 g36.2.1 g36.2.2.1 g36.2.2.2.1 g36.2.2.2.2 (by decide) (Nat.le_of_ble_eq_true rfl) dX5_copy_109) ?_
                refine Cv.namM fun m37 em37 => ?_
                have zm37 : SameSh m32 m37 := em37 ▸ SameSh.c
                have hS := hS.sh zm37
                have hf12 := hf12.sh zm37
                have hf14 := hf14.sh zm37
                refine Cv.go (pc' := 114) (go_iload (i := 5) (x := a5) dX5_copy_112 rfl) ?_
                exact Cv.ret dX5_copy_114 rfl
          · refine Cv.go (pc' := 65) (go_icmp_eq_f 68 dX5_copy_62 rfl h25) ?_
            refine Cv.go (pc' := 67) (go_bipush dX5_copy_65 ib_n13) ?_
            exact Cv.ret dX5_copy_67 rfl
        · refine Cv.go (pc' := 49) (go_if_eq_f 52 dX5_copy_46 rfl h24) ?_
          refine Cv.go (pc' := 51) (go_bipush dX5_copy_49 ib_n11) ?_
          exact Cv.ret dX5_copy_51 rfl
      · refine Cv.go (pc' := 49) (go_if_ne_t (tgt := 49) dX5_copy_38 rfl h19) ?_
        refine Cv.go (pc' := 51) (go_bipush dX5_copy_49 ib_n11) ?_
        exact Cv.ret dX5_copy_51 rfl
theorem c_X5_coins_137 (K78 : Mem → Int32 → Nat → Int32 → Int32 → Int32 → Option (Int32 × Mem)) (hK78 : ∀ (m : Mem) (a4 : Int32) (a5 : Nat) (a6 : Int32) (a7 : Int32) (a8 : Int32) (hS : ShX m) (ha5 : isS m a5), Cv true (cX5_coins, 9, RX5, 2, ((false, none) : IK)) .ireturn eI (K78 m a4 a5 a6 a7 a8) m 78 [.ref 0, .null, .null, .null, .int a4, .ref a5, .int a6, .int a7, .int a8] []) : ∀ (m : Mem) (a4 : Int32) (a5 : Nat) (a6 : Int32) (a7 : Int32) (a8 : Int32) (hS : ShX m) (ha5 : isS m a5), Cv true (cX5_coins, 9, RX5, 2, ((false, none) : IK)) .ireturn eI (F_X5_coins_137 K78 m a4 a5 a6 a7 a8) m 137 [.ref 0, .null, .null, .null, .int a4, .ref a5, .int a6, .int a7, .int a8] [] := by
  intro m a4 a5 a6 a7 a8 hS ha5
  unfold F_X5_coins_137
  refine Cv.go (pc' := 140) (ls' := [.ref 0, .null, .null, .null, .int a4, .ref a5, .int a6, .int (a7 + (3 : Int32)), .int a8]) (go_iinc (x := a7) (v := a7 + (3 : Int32)) dX5_coins_137 rfl rfl (by decide) rfl) ?_
  refine Cv.go (pc' := 143) (ls' := [.ref 0, .null, .null, .null, .int a4, .ref a5, .int a6, .int (a7 + (3 : Int32)), .int (a8 + (1 : Int32))]) (go_iinc (x := a8) (v := a8 + (1 : Int32)) dX5_coins_140 rfl rfl (by decide) rfl) ?_
  refine Cv.go (pc' := 78) (go_goto (tgt := 78) dX5_coins_143 rfl) ?_
  exact hK78 m a4 a5 a6 (a7 + (3 : Int32)) (a8 + (1 : Int32)) hS ha5
theorem c_X5_coins_78 : ∀ n, ∀ (m : Mem) (a4 : Int32) (a5 : Nat) (a6 : Int32) (a7 : Int32) (a8 : Int32) (hS : ShX m) (ha5 : isS m a5), Cv true (cX5_coins, 9, RX5, 2, ((false, none) : IK)) .ireturn eI (F_X5_coins_78 n m a4 a5 a6 a7 a8) m 78 [.ref 0, .null, .null, .null, .int a4, .ref a5, .int a6, .int a7, .int a8] [] := by
  intro n
  induction n with
  | zero => intro m a4 a5 a6 a7 a8 hS ha5; exact Cv.no
  | succ n ih =>
    intro m a4 a5 a6 a7 a8 hS ha5
    unfold F_X5_coins_78
    refine Cv.go (pc' := 80) (go_iload (i := 8) (x := a8) dX5_coins_78 rfl) ?_
    refine Cv.go (pc' := 82) (go_iload (i := 4) (x := a4) dX5_coins_80 rfl) ?_
    refine Cv.ite (fun h29 => ?_) (fun h29 => ?_)
    · refine Cv.go (pc' := 146) (go_icmp_ge_t (tgt := 146) dX5_coins_82 rfl h29) ?_
      refine Cv.go (pc' := 148) (go_iload (i := 6) (x := a6) dX5_coins_146 rfl) ?_
      exact Cv.ret dX5_coins_148 rfl
    · refine Cv.go (pc' := 85) (go_icmp_ge_f 146 dX5_coins_82 rfl h29) ?_
      refine Cv.go (pc' := 87) (go_aload (i := 5) (x := a5) dX5_coins_85 rfl) ?_
      refine Cv.go (pc' := 89) (go_iload (i := 7) (x := a7) dX5_coins_87 rfl) ?_
      refine Cv.go (pc' := 90) (go_iconst dX5_coins_89 ic_3) ?_
      refine Cv.bnd fun v30 m31 e32 => ?_
      have C33 := kc_X2_hasRoom m a5 a7 (3 : Int32) ha5 v30 m31 e32
      refine Cv.go (pc' := 93) (st' := [.int (bz v30)]) (go_callV (As := [.int a7, .int (3 : Int32)]) (st := []) C33 (by decide) ok_X2_hasRoom li_X2_hasRoom ls_X2_hasRoom lm_X5_283 cls2 ha5.1 rfl rfl (Nat.le_of_ble_eq_true rfl) dX5_coins_90) ?_
      have zm31 := C33.1.2.2 rfl
      have hS := hS.sh zm31
      have ha5 := ha5.sh zm31
      refine Cv.ite (fun h34 => ?_) (fun h34 => ?_)
      · refine Cv.go (pc' := 96) (go_if_ne_f 99 dX5_coins_93 rfl h34) ?_
        refine Cv.go (pc' := 98) (go_bipush dX5_coins_96 ib_n12) ?_
        exact Cv.ret dX5_coins_98 rfl
      · refine Cv.go (pc' := 99) (go_if_ne_t (tgt := 99) dX5_coins_93 rfl h34) ?_
        refine Cv.go (pc' := 100) (go_aload_n (i := 0) (x := 0) dX5_coins_99 rfl rfl) ?_
        refine Cv.go (pc' := 102) (go_aload (i := 5) (x := a5) dX5_coins_100 rfl) ?_
        refine Cv.go (pc' := 105) (go_getR (i := 2) cls2 ha5.1 (by decide) rfl lf_X5_286 (Or.inr ⟨_, rfl⟩) ha5.2.1 dX5_coins_102) ?_
        refine Cv.go (pc' := 107) (go_iload (i := 7) (x := a7) dX5_coins_105 rfl) ?_
        refine Cv.gif fun g35 => ?_
        refine Cv.go (pc' := 108) (go_iaload ha5.2.2 g35 dX5_coins_107) ?_
        refine Cv.go (pc' := 110) (go_aload (i := 5) (x := a5) dX5_coins_108 rfl) ?_
        refine Cv.go (pc' := 113) (go_getR (i := 2) cls2 ha5.1 (by decide) rfl lf_X5_286 (Or.inr ⟨_, rfl⟩) ha5.2.1 dX5_coins_110) ?_
        refine Cv.go (pc' := 115) (go_iload (i := 7) (x := a7) dX5_coins_113 rfl) ?_
        refine Cv.go (pc' := 116) (go_iconst dX5_coins_115 ic_1) ?_
        refine Cv.go (pc' := 117) (go_iadd dX5_coins_116) ?_
        refine Cv.gif fun g36 => ?_
        refine Cv.go (pc' := 118) (go_iaload ha5.2.2 g36 dX5_coins_117) ?_
        refine Cv.go (pc' := 120) (go_aload (i := 5) (x := a5) dX5_coins_118 rfl) ?_
        refine Cv.go (pc' := 123) (go_getR (i := 2) cls2 ha5.1 (by decide) rfl lf_X5_286 (Or.inr ⟨_, rfl⟩) ha5.2.1 dX5_coins_120) ?_
        refine Cv.go (pc' := 125) (go_iload (i := 7) (x := a7) dX5_coins_123 rfl) ?_
        refine Cv.go (pc' := 126) (go_iconst dX5_coins_125 ic_2) ?_
        refine Cv.go (pc' := 127) (go_iadd dX5_coins_126) ?_
        refine Cv.gif fun g37 => ?_
        refine Cv.go (pc' := 128) (go_iaload ha5.2.2 g37 dX5_coins_127) ?_
        refine Cv.bnd fun v38 m39 e40 => ?_
        have C41 := kc_X5_coin m31 (mD m31 (a5 + 1) a7.toNatClampNeg) (mD m31 (a5 + 1) (a7 + (1 : Int32)).toNatClampNeg) (mD m31 (a5 + 1) (a7 + (2 : Int32)).toNatClampNeg) hS v38 m39 e40
        refine Cv.go (pc' := 131) (st' := [.int v38]) (go_callV (As := [.int (mD m31 (a5 + 1) a7.toNatClampNeg), .int (mD m31 (a5 + 1) (a7 + (1 : Int32)).toNatClampNeg), .int (mD m31 (a5 + 1) (a7 + (2 : Int32)).toNatClampNeg)]) (st := []) C41 (by decide) ok_X5_coin li_X5_coin ls_X5_coin lm_X5_295 cls5 (sx_k0 hS) rfl rfl (Nat.le_of_ble_eq_true rfl) dX5_coins_128) ?_
        have zm39 := C41.1.2.2 rfl
        have hS := hS.sh zm39
        have ha5 := ha5.sh zm39
        refine Cv.ite (fun h42 => ?_) (fun h42 => ?_)
        · refine Cv.go (pc' := 137) (go_if_lt_t (tgt := 137) dX5_coins_131 rfl h42) ?_
          exact c_X5_coins_137 (F_X5_coins_78 n) ih m39 a4 a5 a6 a7 a8 hS ha5
        · refine Cv.go (pc' := 134) (go_if_lt_f 137 dX5_coins_131 rfl h42) ?_
          refine Cv.go (pc' := 137) (ls' := [.ref 0, .null, .null, .null, .int a4, .ref a5, .int (a6 + (1 : Int32)), .int a7, .int a8]) (go_iinc (x := a6) (v := a6 + (1 : Int32)) dX5_coins_134 rfl rfl (by decide) rfl) ?_
          exact c_X5_coins_137 (F_X5_coins_78 n) ih m39 a4 a5 (a6 + (1 : Int32)) a7 a8 hS ha5
theorem c_X5_coins_58 : ∀ (m : Mem) (a3 : Int32) (a4 : Int32) (a5 : Nat) (hS : ShX m) (ha5 : isS m a5), Cv true (cX5_coins, 9, RX5, 2, ((false, none) : IK)) .ireturn eI (F_X5_coins_58 m a3 a4 a5) m 58 [.ref 0, .null, .null, .int a3, .int a4, .ref a5, .null, .null, .null] [] := by
  intro m a3 a4 a5 hS ha5
  unfold F_X5_coins_58
  refine Cv.go (pc' := 60) (go_aload (i := 5) (x := a5) dX5_coins_58 rfl) ?_
  refine Cv.bnd fun v24 m25 e26 => ?_
  have C27 := kc_X2_isMissing m a5 ha5 v24 m25 e26
  refine Cv.go (pc' := 63) (st' := [.int (bz v24)]) (go_callV (As := []) (st := []) C27 (by decide) ok_X2_isMissing li_X2_isMissing ls_X2_isMissing lm_X5_211 cls2 ha5.1 rfl rfl (Nat.le_of_ble_eq_true rfl) dX5_coins_60) ?_
  have zm25 := C27.1.2.2 rfl
  have hS := hS.sh zm25
  have ha5 := ha5.sh zm25
  refine Cv.ite (fun h28 => ?_) (fun h28 => ?_)
  · refine Cv.go (pc' := 69) (go_if_eq_t (tgt := 69) dX5_coins_63 rfl h28) ?_
    refine Cv.go (pc' := 70) (go_iconst dX5_coins_69 ic_0) ?_
    refine Cv.go (pc' := 72) (ls' := [.ref 0, .null, .null, .int a3, .int a4, .ref a5, .int (0 : Int32), .null, .null]) (go_istore dX5_coins_70 (by decide) rfl) ?_
    refine Cv.go (pc' := 73) (go_iload_n (i := 3) (x := a3) dX5_coins_72 rfl rfl) ?_
    refine Cv.go (pc' := 75) (ls' := [.ref 0, .null, .null, .int a3, .int a4, .ref a5, .int (0 : Int32), .int a3, .null]) (go_istore dX5_coins_73 (by decide) rfl) ?_
    refine Cv.go (pc' := 76) (go_iconst dX5_coins_75 ic_0) ?_
    refine Cv.go (pc' := 78) (ls' := [.ref 0, .null, .null, .int a3, .int a4, .ref a5, .int (0 : Int32), .int a3, .int (0 : Int32)]) (go_istore dX5_coins_76 (by decide) rfl) ?_
    refine Cv.weak (ls' := [.ref 0, .null, .null, .null, .int a4, .ref a5, .int (0 : Int32), .int a3, .int (0 : Int32)]) (⟨Or.inr rfl, ⟨Or.inr rfl, ⟨Or.inr rfl, ⟨Or.inl rfl, ⟨Or.inr rfl, ⟨Or.inr rfl, ⟨Or.inr rfl, ⟨Or.inr rfl, ⟨Or.inr rfl, True.intro⟩⟩⟩⟩⟩⟩⟩⟩⟩) ?_
    exact c_X5_coins_78 FU m25 a4 a5 (0 : Int32) a3 (0 : Int32) hS ha5
  · refine Cv.go (pc' := 66) (go_if_eq_f 69 dX5_coins_63 rfl h28) ?_
    refine Cv.go (pc' := 68) (go_bipush dX5_coins_66 ib_n11) ?_
    exact Cv.ret dX5_coins_68 rfl
theorem kc_X5_coins (m : Mem) (a1 : Int32) (a2 : Int32) (a3 : Int32) (a4 : Int32) (hS : ShX m) : ∀ v mE, F_X5_coins m a1 a2 a3 a4 = some (v, mE) → Con true kX5_coins 2 [.ref 0, .int a1, .int a2, .int a3, .int a4] m (eI v) mE := by
  refine Con.of (ini := false) (ls0 := [.ref 0, .int a1, .int a2, .int a3, .int a4, .null, .null, .null, .null]) (ri := .ireturn) (by decide) (by intro z; cases z) rfl (Nat.le_of_ble_eq_true rfl) (fun v mE _ => RetTy.i) ?_
  show Cv true (cX5_coins, 9, RX5, 2, ((false, none) : IK)) .ireturn eI (F_X5_coins m a1 a2 a3 a4) m 0 [.ref 0, .int a1, .int a2, .int a3, .int a4, .null, .null, .null, .null] []
  unfold F_X5_coins
  refine Cv.go (pc' := 1) (go_iload_n (i := 1) (x := a1) dX5_coins_0 rfl rfl) ?_
  refine Cv.bnd fun v1 m2 e3 => ?_
  have C4 := kc_X5_isSheet m a1 v1 m2 e3
  refine Cv.go (pc' := 4) (st' := [.int (bz v1)]) (go_callS (As := [.int a1]) (st := []) C4 (by decide) ok_X5_isSheet lt_X5_isSheet lm_X5_208 rfl rfl (Nat.le_of_ble_eq_true rfl) dX5_coins_1) ?_
  have zm2 := C4.1.2.2 rfl
  have hS := hS.sh zm2
  refine Cv.ite (fun h5 => ?_) (fun h5 => ?_)
  · refine Cv.go (pc' := 27) (go_if_eq_t (tgt := 27) dX5_coins_4 rfl h5) ?_
    refine Cv.go (pc' := 29) (go_bipush dX5_coins_27 ib_n2) ?_
    exact Cv.ret dX5_coins_29 rfl
  · refine Cv.go (pc' := 7) (go_if_eq_f 27 dX5_coins_4 rfl h5) ?_
    refine Cv.go (pc' := 8) (go_iload_n (i := 2) (x := a2) dX5_coins_7 rfl rfl) ?_
    refine Cv.go (pc' := 9) (go_iconst dX5_coins_8 ic_0) ?_
    refine Cv.go (pc' := 10) (go_iconst dX5_coins_9 ic_2) ?_
    refine Cv.bnd fun v6 m7 e8 => ?_
    have C9 := kc_X5_isBetween m2 a2 (0 : Int32) (2 : Int32) v6 m7 e8
    refine Cv.go (pc' := 13) (st' := [.int (bz v6)]) (go_callS (As := [.int a2, .int (0 : Int32), .int (2 : Int32)]) (st := []) C9 (by decide) ok_X5_isBetween lt_X5_isBetween lm_X5_73 rfl rfl (Nat.le_of_ble_eq_true rfl) dX5_coins_10) ?_
    have zm7 := C9.1.2.2 rfl
    have hS := hS.sh zm7
    refine Cv.ite (fun h10 => ?_) (fun h10 => ?_)
    · refine Cv.go (pc' := 27) (go_if_eq_t (tgt := 27) dX5_coins_13 rfl h10) ?_
      refine Cv.go (pc' := 29) (go_bipush dX5_coins_27 ib_n2) ?_
      exact Cv.ret dX5_coins_29 rfl
    · refine Cv.go (pc' := 16) (go_if_eq_f 27 dX5_coins_13 rfl h10) ?_
      refine Cv.go (pc' := 18) (go_iload (i := 4) (x := a4) dX5_coins_16 rfl) ?_
      refine Cv.go (pc' := 19) (go_iconst dX5_coins_18 ic_0) ?_
      refine Cv.go (pc' := 21) (go_bipush dX5_coins_19 ib_8) ?_
      refine Cv.bnd fun v11 m12 e13 => ?_
      have C14 := kc_X5_isBetween m7 a4 (0 : Int32) (8 : Int32) v11 m12 e13
      refine Cv.go (pc' := 24) (st' := [.int (bz v11)]) (go_callS (As := [.int a4, .int (0 : Int32), .int (8 : Int32)]) (st := []) C14 (by decide) ok_X5_isBetween lt_X5_isBetween lm_X5_73 rfl rfl (Nat.le_of_ble_eq_true rfl) dX5_coins_21) ?_
      have zm12 := C14.1.2.2 rfl
      have hS := hS.sh zm12
      refine Cv.ite (fun h15 => ?_) (fun h15 => ?_)
      · refine Cv.go (pc' := 27) (go_if_ne_f 30 dX5_coins_24 rfl h15) ?_
        refine Cv.go (pc' := 29) (go_bipush dX5_coins_27 ib_n2) ?_
        exact Cv.ret dX5_coins_29 rfl
      · refine Cv.go (pc' := 30) (go_if_ne_t (tgt := 30) dX5_coins_24 rfl h15) ?_
        refine Cv.go (pc' := 31) (go_aload_n (i := 0) (x := 0) dX5_coins_30 rfl rfl) ?_
        refine Cv.go (pc' := 34) (go_getR (i := 7) cls5 (sx_k0 hS) (by decide) rfl lf_X5_30 (Or.inr ⟨_, rfl⟩) (sx_r0_7 hS) dX5_coins_31) ?_
        refine Cv.go (pc' := 35) (go_iload_n (i := 1) (x := a1) dX5_coins_34 rfl rfl) ?_
        refine Cv.gif fun g16 => ?_
        refine Cv.go (pc' := 36) (go_aaload (t := 10) (t0 := 3) (sx_k7 hS) (by decide) (fun _ => rfl) g16 (sx_e7 hS (vp_lt g16)).1 dX5_coins_35) ?_
        have hf17 := (sx_e7 hS (vp_lt g16)).2
        refine Cv.go (pc' := 38) (ls' := [.ref 0, .int a1, .int a2, .int a3, .int a4, .ref (28 + 2 * a1.toNatClampNeg), .null, .null, .null]) (go_astore dX5_coins_36 (by decide) rfl) ?_
        refine Cv.go (pc' := 40) (go_aload (i := 5) (x := 28 + 2 * a1.toNatClampNeg) dX5_coins_38 rfl) ?_
        refine Cv.bnd fun v18 m19 e20 => ?_
        have C21 := kc_X2_isMissing m12 (28 + 2 * a1.toNatClampNeg) hf17 v18 m19 e20
        refine Cv.go (pc' := 43) (st' := [.int (bz v18)]) (go_callV (As := []) (st := []) C21 (by decide) ok_X2_isMissing li_X2_isMissing ls_X2_isMissing lm_X5_211 cls2 hf17.1 rfl rfl (Nat.le_of_ble_eq_true rfl) dX5_coins_40) ?_
        have zm19 := C21.1.2.2 rfl
        have hS := hS.sh zm19
        have hf17 := hf17.sh zm19
        refine Cv.ite (fun h22 => ?_) (fun h22 => ?_)
        · refine Cv.go (pc' := 46) (go_if_ne_f 58 dX5_coins_43 rfl h22) ?_
          refine Cv.go (pc' := 48) (go_aload (i := 5) (x := 28 + 2 * a1.toNatClampNeg) dX5_coins_46 rfl) ?_
          refine Cv.go (pc' := 51) (go_getI (i := 0) cls2 hf17.1 (by decide) rfl lf_X5_280 (by decide) dX5_coins_48) ?_
          refine Cv.go (pc' := 52) (go_iload_n (i := 2) (x := a2) dX5_coins_51 rfl rfl) ?_
          refine Cv.ite (fun h23 => ?_) (fun h23 => ?_)
          · refine Cv.go (pc' := 58) (go_icmp_eq_t (tgt := 58) dX5_coins_52 rfl h23) ?_
            refine Cv.weak (ls' := [.ref 0, .null, .null, .int a3, .int a4, .ref (28 + 2 * a1.toNatClampNeg), .null, .null, .null]) (⟨Or.inr rfl, ⟨Or.inl rfl, ⟨Or.inl rfl, ⟨Or.inr rfl, ⟨Or.inr rfl, ⟨Or.inr rfl, ⟨Or.inr rfl, ⟨Or.inr rfl, ⟨Or.inr rfl, True.intro⟩⟩⟩⟩⟩⟩⟩⟩⟩) ?_
            exact c_X5_coins_58 m19 a3 a4 (28 + 2 * a1.toNatClampNeg) hS hf17
          · refine Cv.go (pc' := 55) (go_icmp_eq_f 58 dX5_coins_52 rfl h23) ?_
            refine Cv.go (pc' := 57) (go_bipush dX5_coins_55 ib_n13) ?_
            exact Cv.ret dX5_coins_57 rfl
        · refine Cv.go (pc' := 58) (go_if_ne_t (tgt := 58) dX5_coins_43 rfl h22) ?_
          refine Cv.weak (ls' := [.ref 0, .null, .null, .int a3, .int a4, .ref (28 + 2 * a1.toNatClampNeg), .null, .null, .null]) (⟨Or.inr rfl, ⟨Or.inl rfl, ⟨Or.inl rfl, ⟨Or.inr rfl, ⟨Or.inr rfl, ⟨Or.inr rfl, ⟨Or.inr rfl, ⟨Or.inr rfl, ⟨Or.inr rfl, True.intro⟩⟩⟩⟩⟩⟩⟩⟩⟩) ?_
          exact c_X5_coins_58 m19 a3 a4 (28 + 2 * a1.toNatClampNeg) hS hf17
theorem c_X5_isUnder_4 : ∀ n, ∀ (m : Mem) (a1 : Int32) (a2 : Int32) (a3 : Int32), Cv true (cX5_isUnder, 4, RX5, 0, ((false, none) : IK)) .ireturn eZ (F_X5_isUnder_4 n m a1 a2 a3) m 4 [.null, .int a1, .int a2, .int a3] [] := by
  intro n
  induction n with
  | zero => intro m a1 a2 a3; exact Cv.no
  | succ n ih =>
    intro m a1 a2 a3
    unfold F_X5_isUnder_4
    refine Cv.go (pc' := 5) (go_iload_n (i := 3) (x := a3) dX5_isUnder_4 rfl rfl) ?_
    refine Cv.go (pc' := 8) (go_getT roUNDER lf_X5_308 dX5_isUnder_5) ?_
    refine Cv.go (pc' := 9) (go_lenT roUNDER dX5_isUnder_8) ?_
    refine Cv.ite (fun h1 => ?_) (fun h1 => ?_)
    · refine Cv.go (pc' := 36) (go_icmp_ge_t (tgt := 36) dX5_isUnder_9 rfl h1) ?_
      refine Cv.go (pc' := 37) (go_iconst dX5_isUnder_36 ic_0) ?_
      exact Cv.ret dX5_isUnder_37 rfl
    · refine Cv.go (pc' := 12) (go_icmp_ge_f 36 dX5_isUnder_9 rfl h1) ?_
      refine Cv.go (pc' := 13) (go_iload_n (i := 2) (x := a2) dX5_isUnder_12 rfl rfl) ?_
      refine Cv.go (pc' := 14) (go_iconst dX5_isUnder_13 ic_n1) ?_
      refine Cv.ite (fun h2 => ?_) (fun h2 => ?_)
      · refine Cv.go (pc' := 36) (go_icmp_eq_t (tgt := 36) dX5_isUnder_14 rfl h2) ?_
        refine Cv.go (pc' := 37) (go_iconst dX5_isUnder_36 ic_0) ?_
        exact Cv.ret dX5_isUnder_37 rfl
      · refine Cv.go (pc' := 17) (go_icmp_eq_f 36 dX5_isUnder_14 rfl h2) ?_
        refine Cv.go (pc' := 18) (go_iload_n (i := 2) (x := a2) dX5_isUnder_17 rfl rfl) ?_
        refine Cv.go (pc' := 19) (go_iload_n (i := 1) (x := a1) dX5_isUnder_18 rfl rfl) ?_
        refine Cv.ite (fun h3 => ?_) (fun h3 => ?_)
        · refine Cv.go (pc' := 22) (go_icmp_ne_f 24 dX5_isUnder_19 rfl h3) ?_
          refine Cv.go (pc' := 23) (go_iconst dX5_isUnder_22 ic_1) ?_
          exact Cv.ret dX5_isUnder_23 rfl
        · refine Cv.go (pc' := 24) (go_icmp_ne_t (tgt := 24) dX5_isUnder_19 rfl h3) ?_
          refine Cv.go (pc' := 27) (go_getT roUNDER lf_X5_308 dX5_isUnder_24) ?_
          refine Cv.go (pc' := 28) (go_iload_n (i := 2) (x := a2) dX5_isUnder_27 rfl rfl) ?_
          refine Cv.gif fun g4 => ?_
          refine Cv.go (pc' := 29) (go_rdT roUNDER g4 dX5_isUnder_28) ?_
          refine Cv.namI fun x5 ex5 => ?_
          refine Cv.go (pc' := 30) (ls' := [.null, .int a1, .int x5, .int a3]) (go_istore_n dX5_isUnder_29 rfl (by decide) rfl) ?_
          refine Cv.go (pc' := 33) (ls' := [.null, .int a1, .int x5, .int (a3 + (1 : Int32))]) (go_iinc (x := a3) (v := a3 + (1 : Int32)) dX5_isUnder_30 rfl rfl (by decide) rfl) ?_
          refine Cv.go (pc' := 4) (go_goto (tgt := 4) dX5_isUnder_33 rfl) ?_
          exact ih m a1 x5 (a3 + (1 : Int32))
theorem kc_X5_isUnder (m : Mem) (a0 : Int32) (a1 : Int32) : ∀ v mE, F_X5_isUnder m a0 a1 = some (v, mE) → Con true kX5_isUnder 0 [.int a0, .int a1] m (eZ v) mE := by
  refine Con.of (ini := false) (ls0 := [.int a0, .int a1, .null, .null]) (ri := .ireturn) (by decide) (by intro z; cases z) rfl (Nat.le_of_ble_eq_true rfl) (fun v mE _ => RetTy.z) ?_
  show Cv true (cX5_isUnder, 4, RX5, 0, ((false, none) : IK)) .ireturn eZ (F_X5_isUnder m a0 a1) m 0 [.int a0, .int a1, .null, .null] []
  unfold F_X5_isUnder
  refine Cv.go (pc' := 1) (go_iload_n (i := 0) (x := a0) dX5_isUnder_0 rfl rfl) ?_
  refine Cv.go (pc' := 2) (ls' := [.int a0, .int a1, .int a0, .null]) (go_istore_n dX5_isUnder_1 rfl (by decide) rfl) ?_
  refine Cv.go (pc' := 3) (go_iconst dX5_isUnder_2 ic_0) ?_
  refine Cv.go (pc' := 4) (ls' := [.int a0, .int a1, .int a0, .int (0 : Int32)]) (go_istore_n dX5_isUnder_3 rfl (by decide) rfl) ?_
  refine Cv.weak (ls' := [.null, .int a1, .int a0, .int (0 : Int32)]) (⟨Or.inl rfl, ⟨Or.inr rfl, ⟨Or.inr rfl, ⟨Or.inr rfl, True.intro⟩⟩⟩⟩) ?_
  exact c_X5_isUnder_4 FU m a1 a0 (0 : Int32)
theorem kc_X5_taken (m : Mem) (a1 : Int32) (a2 : Int32) (hS : ShX m) : ∀ v mE, F_X5_taken m a1 a2 = some (v, mE) → Con true kX5_taken 1 [.ref 0, .int a1, .int a2] m (eI v) mE := by
  refine Con.of (ini := false) (ls0 := [.ref 0, .int a1, .int a2]) (ri := .ireturn) (by decide) (by intro z; cases z) rfl (Nat.le_of_ble_eq_true rfl) (fun v mE _ => RetTy.i) ?_
  show Cv true (cX5_taken, 3, RX5, 1, ((false, none) : IK)) .ireturn eI (F_X5_taken m a1 a2) m 0 [.ref 0, .int a1, .int a2] []
  unfold F_X5_taken
  refine Cv.go (pc' := 2) (go_bipush dX5_taken_0 ib_6) ?_
  refine Cv.go (pc' := 3) (go_iload_n (i := 2) (x := a2) dX5_taken_2 rfl rfl) ?_
  refine Cv.bnd fun v1 m2 e3 => ?_
  have C4 := kc_X5_isOf m (6 : Int32) a2 v1 m2 e3
  refine Cv.go (pc' := 6) (st' := [.int (bz v1)]) (go_callS (As := [.int (6 : Int32), .int a2]) (st := []) C4 (by decide) ok_X5_isOf lt_X5_isOf lm_X5_99 rfl rfl (Nat.le_of_ble_eq_true rfl) dX5_taken_3) ?_
  have zm2 := C4.1.2.2 rfl
  have hS := hS.sh zm2
  refine Cv.ite (fun h5 => ?_) (fun h5 => ?_)
  · refine Cv.go (pc' := 9) (go_if_ne_f 12 dX5_taken_6 rfl h5) ?_
    refine Cv.go (pc' := 11) (go_bipush dX5_taken_9 ib_n2) ?_
    exact Cv.ret dX5_taken_11 rfl
  · refine Cv.go (pc' := 12) (go_if_ne_t (tgt := 12) dX5_taken_6 rfl h5) ?_
    refine Cv.go (pc' := 13) (go_aload_n (i := 0) (x := 0) dX5_taken_12 rfl rfl) ?_
    refine Cv.go (pc' := 14) (go_iload_n (i := 1) (x := a1) dX5_taken_13 rfl rfl) ?_
    refine Cv.bnd fun v6 m7 e8 => ?_
    have C9 := kc_X5_isCoin m2 a1 hS v6 m7 e8
    refine Cv.go (pc' := 17) (st' := [.int (bz v6)]) (go_callV (As := [.int a1]) (st := []) C9 (by decide) ok_X5_isCoin li_X5_isCoin ls_X5_isCoin lm_X5_87 cls5 (sx_k0 hS) rfl rfl (Nat.le_of_ble_eq_true rfl) dX5_taken_14) ?_
    have zm7 := C9.1.2.2 rfl
    have hS := hS.sh zm7
    refine Cv.ite (fun h10 => ?_) (fun h10 => ?_)
    · refine Cv.go (pc' := 20) (go_if_ne_f 23 dX5_taken_17 rfl h10) ?_
      refine Cv.go (pc' := 22) (go_bipush dX5_taken_20 ib_n11) ?_
      exact Cv.ret dX5_taken_22 rfl
    · refine Cv.go (pc' := 23) (go_if_ne_t (tgt := 23) dX5_taken_17 rfl h10) ?_
      refine Cv.go (pc' := 24) (go_aload_n (i := 0) (x := 0) dX5_taken_23 rfl rfl) ?_
      refine Cv.go (pc' := 27) (go_getR (i := 1) cls5 (sx_k0 hS) (by decide) rfl lf_X5_11 (Or.inr ⟨_, rfl⟩) (sx_r0_1 hS) dX5_taken_24) ?_
      refine Cv.go (pc' := 28) (go_iload_n (i := 1) (x := a1) dX5_taken_27 rfl rfl) ?_
      refine Cv.gif fun g11 => ?_
      refine Cv.go (pc' := 29) (go_aaload (t := 9) (t0 := 2) (sx_k1 hS) (by decide) (fun _ => rfl) g11 (sx_e1 hS (vp_lt g11)).1 dX5_taken_28) ?_
      have hf12 := (sx_e1 hS (vp_lt g11)).2
      refine Cv.go (pc' := 32) (go_getI (i := 0) cls0 hf12 (by decide) rfl lf_X5_299 (by decide) dX5_taken_29) ?_
      refine Cv.go (pc' := 33) (go_iload_n (i := 2) (x := a2) dX5_taken_32 rfl rfl) ?_
      refine Cv.bnd fun v13 m14 e15 => ?_
      have C16 := kc_X5_isUnder m7 (mD m7 (20 + a1.toNatClampNeg) 0) a2 v13 m14 e15
      refine Cv.go (pc' := 36) (st' := [.int (bz v13)]) (go_callS (As := [.int (mD m7 (20 + a1.toNatClampNeg) 0), .int a2]) (st := []) C16 (by decide) ok_X5_isUnder lt_X5_isUnder lm_X5_302 rfl rfl (Nat.le_of_ble_eq_true rfl) dX5_taken_33) ?_
      have zm14 := C16.1.2.2 rfl
      have hS := hS.sh zm14
      have hf12 := sk zm14 hf12
      refine Cv.ite (fun h17 => ?_) (fun h17 => ?_)
      · refine Cv.go (pc' := 51) (go_if_eq_t (tgt := 51) dX5_taken_36 rfl h17) ?_
        refine Cv.go (pc' := 53) (go_bipush dX5_taken_51 ib_n13) ?_
        exact Cv.ret dX5_taken_53 rfl
      · refine Cv.go (pc' := 39) (go_if_eq_f 51 dX5_taken_36 rfl h17) ?_
        refine Cv.go (pc' := 40) (go_aload_n (i := 0) (x := 0) dX5_taken_39 rfl rfl) ?_
        refine Cv.go (pc' := 43) (go_getR (i := 1) cls5 (sx_k0 hS) (by decide) rfl lf_X5_11 (Or.inr ⟨_, rfl⟩) (sx_r0_1 hS) dX5_taken_40) ?_
        refine Cv.go (pc' := 44) (go_iload_n (i := 1) (x := a1) dX5_taken_43 rfl rfl) ?_
        refine Cv.gif fun g18 => ?_
        refine Cv.go (pc' := 45) (go_aaload (t := 9) (t0 := 2) (sx_k1 hS) (by decide) (fun _ => rfl) g18 (sx_e1 hS (vp_lt g18)).1 dX5_taken_44) ?_
        have hf19 := (sx_e1 hS (vp_lt g18)).2
        refine Cv.go (pc' := 48) (go_getI (i := 1) cls0 hf19 (by decide) rfl lf_X5_305 (by decide) dX5_taken_45) ?_
        refine Cv.go (pc' := 53) (go_goto (tgt := 53) dX5_taken_48 rfl) ?_
        exact Cv.ret dX5_taken_53 rfl
theorem kc_X6_in (m : Mem) (a0 : Int64) (a2 : Int64) (a4 : Int64) : ∀ v mE, F_X6_in m a0 a2 a4 = some (v, mE) → Con true kX6_in 0 [.long a0, .long a2, .long a4] m (eZ v) mE := by
  refine Con.of (ini := false) (ls0 := [.long a0, .null, .long a2, .null, .long a4, .null]) (ri := .ireturn) (by decide) (by intro z; cases z) rfl (Nat.le_of_ble_eq_true rfl) (fun v mE _ => RetTy.z) ?_
  show Cv true (cX6_in, 6, RX6, 0, ((false, none) : IK)) .ireturn eZ (F_X6_in m a0 a2 a4) m 0 [.long a0, .null, .long a2, .null, .long a4, .null] []
  unfold F_X6_in
  refine Cv.go (pc' := 1) (go_lload_n (i := 0) (x := a0) dX6_in_0 rfl rfl) ?_
  refine Cv.go (pc' := 2) (go_lload_n (i := 2) (x := a2) dX6_in_1 rfl rfl) ?_
  refine Cv.go (pc' := 3) (go_lcmp dX6_in_2) ?_
  refine Cv.ite (fun h1 => ?_) (fun h1 => ?_)
  · refine Cv.go (pc' := 17) (go_if_lt_t (tgt := 17) dX6_in_3 rfl h1) ?_
    refine Cv.go (pc' := 18) (go_iconst dX6_in_17 ic_0) ?_
    exact Cv.ret dX6_in_18 rfl
  · refine Cv.go (pc' := 6) (go_if_lt_f 17 dX6_in_3 rfl h1) ?_
    refine Cv.go (pc' := 7) (go_lload_n (i := 0) (x := a0) dX6_in_6 rfl rfl) ?_
    refine Cv.go (pc' := 9) (go_lload (i := 4) (x := a4) dX6_in_7 rfl) ?_
    refine Cv.go (pc' := 10) (go_lcmp dX6_in_9) ?_
    refine Cv.ite (fun h2 => ?_) (fun h2 => ?_)
    · refine Cv.go (pc' := 17) (go_if_gt_t (tgt := 17) dX6_in_10 rfl h2) ?_
      refine Cv.go (pc' := 18) (go_iconst dX6_in_17 ic_0) ?_
      exact Cv.ret dX6_in_18 rfl
    · refine Cv.go (pc' := 13) (go_if_gt_f 17 dX6_in_10 rfl h2) ?_
      refine Cv.go (pc' := 14) (go_iconst dX6_in_13 ic_1) ?_
      refine Cv.go (pc' := 18) (go_goto (tgt := 18) dX6_in_14 rfl) ?_
      exact Cv.ret dX6_in_18 rfl
theorem kc_X6_within (m : Mem) (a0 : Int32) (a1 : Int32) (a2 : Int32) : ∀ v mE, F_X6_within m a0 a1 a2 = some (v, mE) → Con true kX6_within 0 [.int a0, .int a1, .int a2] m (eI v) mE := by
  refine Con.of (ini := false) (ls0 := [.int a0, .int a1, .int a2]) (ri := .ireturn) (by decide) (by intro z; cases z) rfl (Nat.le_of_ble_eq_true rfl) (fun v mE _ => RetTy.i) ?_
  show Cv true (cX6_within, 3, RX6, 0, ((false, none) : IK)) .ireturn eI (F_X6_within m a0 a1 a2) m 0 [.int a0, .int a1, .int a2] []
  unfold F_X6_within
  refine Cv.go (pc' := 1) (go_iload_n (i := 0) (x := a0) dX6_within_0 rfl rfl) ?_
  refine Cv.go (pc' := 2) (go_iload_n (i := 1) (x := a1) dX6_within_1 rfl rfl) ?_
  refine Cv.ite (fun h1 => ?_) (fun h1 => ?_)
  · refine Cv.go (pc' := 9) (go_icmp_ge_t (tgt := 9) dX6_within_2 rfl h1) ?_
    refine Cv.go (pc' := 10) (go_iload_n (i := 0) (x := a0) dX6_within_9 rfl rfl) ?_
    refine Cv.go (pc' := 11) (go_iload_n (i := 2) (x := a2) dX6_within_10 rfl rfl) ?_
    refine Cv.ite (fun h2 => ?_) (fun h2 => ?_)
    · refine Cv.go (pc' := 18) (go_icmp_le_t (tgt := 18) dX6_within_11 rfl h2) ?_
      refine Cv.go (pc' := 19) (go_iload_n (i := 0) (x := a0) dX6_within_18 rfl rfl) ?_
      exact Cv.ret dX6_within_19 rfl
    · refine Cv.go (pc' := 14) (go_icmp_le_f 18 dX6_within_11 rfl h2) ?_
      refine Cv.go (pc' := 15) (go_iload_n (i := 2) (x := a2) dX6_within_14 rfl rfl) ?_
      refine Cv.go (pc' := 19) (go_goto (tgt := 19) dX6_within_15 rfl) ?_
      exact Cv.ret dX6_within_19 rfl
  · refine Cv.go (pc' := 5) (go_icmp_ge_f 9 dX6_within_2 rfl h1) ?_
    refine Cv.go (pc' := 6) (go_iload_n (i := 1) (x := a1) dX6_within_5 rfl rfl) ?_
    refine Cv.go (pc' := 19) (go_goto (tgt := 19) dX6_within_6 rfl) ?_
    exact Cv.ret dX6_within_19 rfl
theorem kc_X6_spell (m : Mem) (a1 : Int32) (a2 : Int32) (a3 : Int32) (a4 : Int32) (a5 : Int32) (a6 : Int32) (a7 : Int32) (a8 : Int32) (a9 : Int32) (hS : ShM m) : ∀ v mE, F_X6_spell m a1 a2 a3 a4 a5 a6 a7 a8 a9 = some (v, mE) → Con true kX6_spell 0 [.ref 40, .int a1, .int a2, .int a3, .int a4, .int a5, .int a6, .int a7, .int a8, .int a9] m (eV v) mE := by
  refine Con.of (ini := false) (ls0 := [.ref 40, .int a1, .int a2, .int a3, .int a4, .int a5, .int a6, .int a7, .int a8, .int a9]) (ri := .return_) (by decide) (by intro z; cases z) rfl (Nat.le_of_ble_eq_true rfl) (fun v mE _ => RetTy.v) ?_
  show Cv true (cX6_spell, 10, RX6, 0, ((false, none) : IK)) .return_ eV (F_X6_spell m a1 a2 a3 a4 a5 a6 a7 a8 a9) m 0 [.ref 40, .int a1, .int a2, .int a3, .int a4, .int a5, .int a6, .int a7, .int a8, .int a9] []
  unfold F_X6_spell
  refine Cv.go (pc' := 1) (go_aload_n (i := 0) (x := 40) dX6_spell_0 rfl rfl) ?_
  refine Cv.go (pc' := 4) (go_getR (i := 1) cls6 (sx_k40 hS) (by decide) rfl lf_X6_13 (Or.inr ⟨_, rfl⟩) (sx_r40_1 hS) dX6_spell_1) ?_
  refine Cv.go (pc' := 5) (go_iload_n (i := 1) (x := a1) dX6_spell_4 rfl rfl) ?_
  refine Cv.go (pc' := 6) (go_iload_n (i := 2) (x := a2) dX6_spell_5 rfl rfl) ?_
  refine Cv.gif fun g1 => ?_
  refine Cv.go (pc' := 7) (go_iastore (sx_k41 hS) g1 dX6_spell_6) ?_
  refine Cv.namM fun m2 em2 => ?_
  have zm2 : SameSh m m2 := em2 ▸ SameSh.d
  have hS := hS.sh zm2
  refine Cv.go (pc' := 8) (go_aload_n (i := 0) (x := 40) dX6_spell_7 rfl rfl) ?_
  refine Cv.go (pc' := 11) (go_getR (i := 1) cls6 (sx_k40 hS) (by decide) rfl lf_X6_13 (Or.inr ⟨_, rfl⟩) (sx_r40_1 hS) dX6_spell_8) ?_
  refine Cv.go (pc' := 12) (go_iload_n (i := 1) (x := a1) dX6_spell_11 rfl rfl) ?_
  refine Cv.go (pc' := 13) (go_iconst dX6_spell_12 ic_1) ?_
  refine Cv.go (pc' := 14) (go_iadd dX6_spell_13) ?_
  refine Cv.go (pc' := 15) (go_iload_n (i := 3) (x := a3) dX6_spell_14 rfl rfl) ?_
  refine Cv.gif fun g3 => ?_
  refine Cv.go (pc' := 16) (go_iastore (sx_k41 hS) g3 dX6_spell_15) ?_
  refine Cv.namM fun m4 em4 => ?_
  have zm4 : SameSh m2 m4 := em4 ▸ SameSh.d
  have hS := hS.sh zm4
  refine Cv.go (pc' := 17) (go_aload_n (i := 0) (x := 40) dX6_spell_16 rfl rfl) ?_
  refine Cv.go (pc' := 20) (go_getR (i := 1) cls6 (sx_k40 hS) (by decide) rfl lf_X6_13 (Or.inr ⟨_, rfl⟩) (sx_r40_1 hS) dX6_spell_17) ?_
  refine Cv.go (pc' := 21) (go_iload_n (i := 1) (x := a1) dX6_spell_20 rfl rfl) ?_
  refine Cv.go (pc' := 22) (go_iconst dX6_spell_21 ic_2) ?_
  refine Cv.go (pc' := 23) (go_iadd dX6_spell_22) ?_
  refine Cv.go (pc' := 25) (go_iload (i := 4) (x := a4) dX6_spell_23 rfl) ?_
  refine Cv.gif fun g5 => ?_
  refine Cv.go (pc' := 26) (go_iastore (sx_k41 hS) g5 dX6_spell_25) ?_
  refine Cv.namM fun m6 em6 => ?_
  have zm6 : SameSh m4 m6 := em6 ▸ SameSh.d
  have hS := hS.sh zm6
  refine Cv.go (pc' := 27) (go_aload_n (i := 0) (x := 40) dX6_spell_26 rfl rfl) ?_
  refine Cv.go (pc' := 30) (go_getR (i := 1) cls6 (sx_k40 hS) (by decide) rfl lf_X6_13 (Or.inr ⟨_, rfl⟩) (sx_r40_1 hS) dX6_spell_27) ?_
  refine Cv.go (pc' := 31) (go_iload_n (i := 1) (x := a1) dX6_spell_30 rfl rfl) ?_
  refine Cv.go (pc' := 32) (go_iconst dX6_spell_31 ic_3) ?_
  refine Cv.go (pc' := 33) (go_iadd dX6_spell_32) ?_
  refine Cv.go (pc' := 35) (go_iload (i := 5) (x := a5) dX6_spell_33 rfl) ?_
  refine Cv.gif fun g7 => ?_
  refine Cv.go (pc' := 36) (go_iastore (sx_k41 hS) g7 dX6_spell_35) ?_
  refine Cv.namM fun m8 em8 => ?_
  have zm8 : SameSh m6 m8 := em8 ▸ SameSh.d
  have hS := hS.sh zm8
  refine Cv.go (pc' := 37) (go_aload_n (i := 0) (x := 40) dX6_spell_36 rfl rfl) ?_
  refine Cv.go (pc' := 40) (go_getR (i := 1) cls6 (sx_k40 hS) (by decide) rfl lf_X6_13 (Or.inr ⟨_, rfl⟩) (sx_r40_1 hS) dX6_spell_37) ?_
  refine Cv.go (pc' := 41) (go_iload_n (i := 1) (x := a1) dX6_spell_40 rfl rfl) ?_
  refine Cv.go (pc' := 42) (go_iconst dX6_spell_41 ic_4) ?_
  refine Cv.go (pc' := 43) (go_iadd dX6_spell_42) ?_
  refine Cv.go (pc' := 45) (go_iload (i := 6) (x := a6) dX6_spell_43 rfl) ?_
  refine Cv.gif fun g9 => ?_
  refine Cv.go (pc' := 46) (go_iastore (sx_k41 hS) g9 dX6_spell_45) ?_
  refine Cv.namM fun m10 em10 => ?_
  have zm10 : SameSh m8 m10 := em10 ▸ SameSh.d
  have hS := hS.sh zm10
  refine Cv.go (pc' := 47) (go_aload_n (i := 0) (x := 40) dX6_spell_46 rfl rfl) ?_
  refine Cv.go (pc' := 50) (go_getR (i := 1) cls6 (sx_k40 hS) (by decide) rfl lf_X6_13 (Or.inr ⟨_, rfl⟩) (sx_r40_1 hS) dX6_spell_47) ?_
  refine Cv.go (pc' := 51) (go_iload_n (i := 1) (x := a1) dX6_spell_50 rfl rfl) ?_
  refine Cv.go (pc' := 52) (go_iconst dX6_spell_51 ic_5) ?_
  refine Cv.go (pc' := 53) (go_iadd dX6_spell_52) ?_
  refine Cv.go (pc' := 55) (go_iload (i := 7) (x := a7) dX6_spell_53 rfl) ?_
  refine Cv.gif fun g11 => ?_
  refine Cv.go (pc' := 56) (go_iastore (sx_k41 hS) g11 dX6_spell_55) ?_
  refine Cv.namM fun m12 em12 => ?_
  have zm12 : SameSh m10 m12 := em12 ▸ SameSh.d
  have hS := hS.sh zm12
  refine Cv.go (pc' := 57) (go_aload_n (i := 0) (x := 40) dX6_spell_56 rfl rfl) ?_
  refine Cv.go (pc' := 60) (go_getR (i := 1) cls6 (sx_k40 hS) (by decide) rfl lf_X6_13 (Or.inr ⟨_, rfl⟩) (sx_r40_1 hS) dX6_spell_57) ?_
  refine Cv.go (pc' := 61) (go_iload_n (i := 1) (x := a1) dX6_spell_60 rfl rfl) ?_
  refine Cv.go (pc' := 63) (go_bipush dX6_spell_61 ib_6) ?_
  refine Cv.go (pc' := 64) (go_iadd dX6_spell_63) ?_
  refine Cv.go (pc' := 66) (go_iload (i := 8) (x := a8) dX6_spell_64 rfl) ?_
  refine Cv.gif fun g13 => ?_
  refine Cv.go (pc' := 67) (go_iastore (sx_k41 hS) g13 dX6_spell_66) ?_
  refine Cv.namM fun m14 em14 => ?_
  have zm14 : SameSh m12 m14 := em14 ▸ SameSh.d
  have hS := hS.sh zm14
  refine Cv.go (pc' := 68) (go_aload_n (i := 0) (x := 40) dX6_spell_67 rfl rfl) ?_
  refine Cv.go (pc' := 71) (go_getR (i := 1) cls6 (sx_k40 hS) (by decide) rfl lf_X6_13 (Or.inr ⟨_, rfl⟩) (sx_r40_1 hS) dX6_spell_68) ?_
  refine Cv.go (pc' := 72) (go_iload_n (i := 1) (x := a1) dX6_spell_71 rfl rfl) ?_
  refine Cv.go (pc' := 74) (go_bipush dX6_spell_72 ib_7) ?_
  refine Cv.go (pc' := 75) (go_iadd dX6_spell_74) ?_
  refine Cv.go (pc' := 77) (go_iload (i := 9) (x := a9) dX6_spell_75 rfl) ?_
  refine Cv.gif fun g15 => ?_
  refine Cv.go (pc' := 78) (go_iastore (sx_k41 hS) g15 dX6_spell_77) ?_
  refine Cv.namM fun m16 em16 => ?_
  have zm16 : SameSh m14 m16 := em16 ▸ SameSh.d
  have hS := hS.sh zm16
  exact Cv.ret dX6_spell_78 rfl
theorem kc_X6_init (m : Mem) (c0 : Nat) : ∀ v mE, F_X6_init m c0 = some (v, mE) → Con false kX6_init 1 [.ref c0] m (eV v) mE := by
  refine Con.of (ini := true) (ls0 := [.ref c0]) (ri := .return_) (by decide) (by intro _; rfl) rfl (Nat.le_of_ble_eq_true rfl) (fun v mE _ => RetTy.v) ?_
  show Cv false (cX6_init, 1, RX6, 1, ((true, none) : IK)) .return_ eV (F_X6_init m c0) m 0 [.ref c0] []
  unfold F_X6_init
  refine Cv.go (pc' := 1) (go_aload_n (i := 0) (x := c0) dX6_init_0 rfl rfl) ?_
  refine Cv.go (pc' := 4) (go_oinit lm_X6_7 li_oinit lo_oinit (by decide) (Nat.le_of_ble_eq_true rfl) dX6_init_1) ?_
  refine Cv.go (pc' := 5) (go_aload_n (i := 0) (x := c0) dX6_init_4 rfl rfl) ?_
  refine Cv.go (pc' := 8) (go_sipush dX6_init_5 is_960) ?_
  refine Cv.go (pc' := 10) (go_newI (N' := 960) lx_int (by decide) (by decide) (by decide) dX6_init_8) ?_
  refine Cv.namM fun m1 em1 => ?_
  refine Cv.namR fun q2 eq2 => ?_
  refine Cv.gif fun g3 => ?_
  refine Cv.go (pc' := 13) (go_putF (i := 1) cls6 g3 (by decide) rfl rfl lf_X6_13 (Or.inr ⟨_, rfl⟩) rfl dX6_init_10) ?_
  refine Cv.namM fun m4 em4 => ?_
  refine Cv.go (pc' := 14) (go_aload_n (i := 0) (x := c0) dX6_init_13 rfl rfl) ?_
  refine Cv.go (pc' := 16) (go_bipush dX6_init_14 ib_6) ?_
  refine Cv.go (pc' := 18) (go_newI (N' := 6) lx_int (by decide) (by decide) (by decide) dX6_init_16) ?_
  refine Cv.namM fun m5 em5 => ?_
  refine Cv.namR fun q6 eq6 => ?_
  refine Cv.gif fun g7 => ?_
  refine Cv.go (pc' := 21) (go_putF (i := 2) cls6 g7 (by decide) rfl rfl lf_X6_17 (Or.inr ⟨_, rfl⟩) rfl dX6_init_18) ?_
  refine Cv.namM fun m8 em8 => ?_
  refine Cv.go (pc' := 22) (go_aload_n (i := 0) (x := c0) dX6_init_21 rfl rfl) ?_
  refine Cv.go (pc' := 25) (go_sipush dX6_init_22 is_160) ?_
  refine Cv.go (pc' := 27) (go_newI (N' := 160) lx_int (by decide) (by decide) (by decide) dX6_init_25) ?_
  refine Cv.namM fun m9 em9 => ?_
  refine Cv.namR fun q10 eq10 => ?_
  refine Cv.gif fun g11 => ?_
  refine Cv.go (pc' := 30) (go_putF (i := 5) cls6 g11 (by decide) rfl rfl lf_X6_20 (Or.inr ⟨_, rfl⟩) rfl dX6_init_27) ?_
  refine Cv.namM fun m12 em12 => ?_
  refine Cv.go (pc' := 31) (go_aload_n (i := 0) (x := c0) dX6_init_30 rfl rfl) ?_
  refine Cv.go (pc' := 33) (go_bipush dX6_init_31 ib_8) ?_
  refine Cv.go (pc' := 35) (go_newI (N' := 8) lx_int (by decide) (by decide) (by decide) dX6_init_33) ?_
  refine Cv.namM fun m13 em13 => ?_
  refine Cv.namR fun q14 eq14 => ?_
  refine Cv.gif fun g15 => ?_
  refine Cv.go (pc' := 38) (go_putF (i := 8) cls6 g15 (by decide) rfl rfl lf_X6_23 (Or.inr ⟨_, rfl⟩) rfl dX6_init_35) ?_
  refine Cv.namM fun m16 em16 => ?_
  refine Cv.go (pc' := 39) (go_aload_n (i := 0) (x := c0) dX6_init_38 rfl rfl) ?_
  refine Cv.go (pc' := 41) (go_bipush dX6_init_39 ib_40) ?_
  refine Cv.go (pc' := 43) (go_newI (N' := 40) lx_int (by decide) (by decide) (by decide) dX6_init_41) ?_
  refine Cv.namM fun m17 em17 => ?_
  refine Cv.namR fun q18 eq18 => ?_
  refine Cv.gif fun g19 => ?_
  refine Cv.go (pc' := 46) (go_putF (i := 9) cls6 g19 (by decide) rfl rfl lf_X6_26 (Or.inr ⟨_, rfl⟩) rfl dX6_init_43) ?_
  refine Cv.namM fun m20 em20 => ?_
  refine Cv.go (pc' := 47) (go_aload_n (i := 0) (x := c0) dX6_init_46 rfl rfl) ?_
  refine Cv.go (pc' := 49) (go_bipush dX6_init_47 ib_8) ?_
  refine Cv.go (pc' := 51) (go_newI (N' := 8) lx_int (by decide) (by decide) (by decide) dX6_init_49) ?_
  refine Cv.namM fun m21 em21 => ?_
  refine Cv.namR fun q22 eq22 => ?_
  refine Cv.gif fun g23 => ?_
  refine Cv.go (pc' := 54) (go_putF (i := 26) cls6 g23 (by decide) rfl rfl lf_X6_29 (Or.inr ⟨_, rfl⟩) rfl dX6_init_51) ?_
  refine Cv.namM fun m24 em24 => ?_
  refine Cv.go (pc' := 55) (go_aload_n (i := 0) (x := c0) dX6_init_54 rfl rfl) ?_
  refine Cv.go (pc' := 57) (go_bipush dX6_init_55 ib_8) ?_
  refine Cv.go (pc' := 59) (go_newI (N' := 8) lx_int (by decide) (by decide) (by decide) dX6_init_57) ?_
  refine Cv.namM fun m25 em25 => ?_
  refine Cv.namR fun q26 eq26 => ?_
  refine Cv.gif fun g27 => ?_
  refine Cv.go (pc' := 62) (go_putF (i := 27) cls6 g27 (by decide) rfl rfl lf_X6_32 (Or.inr ⟨_, rfl⟩) rfl dX6_init_59) ?_
  refine Cv.namM fun m28 em28 => ?_
  refine Cv.go (pc' := 63) (go_aload_n (i := 0) (x := c0) dX6_init_62 rfl rfl) ?_
  refine Cv.go (pc' := 65) (go_bipush dX6_init_63 ib_8) ?_
  refine Cv.go (pc' := 67) (go_newI (N' := 8) lx_int (by decide) (by decide) (by decide) dX6_init_65) ?_
  refine Cv.namM fun m29 em29 => ?_
  refine Cv.namR fun q30 eq30 => ?_
  refine Cv.gif fun g31 => ?_
  refine Cv.go (pc' := 70) (go_putF (i := 29) cls6 g31 (by decide) rfl rfl lf_X6_35 (Or.inr ⟨_, rfl⟩) rfl dX6_init_67) ?_
  refine Cv.namM fun m32 em32 => ?_
  refine Cv.go (pc' := 71) (go_aload_n (i := 0) (x := c0) dX6_init_70 rfl rfl) ?_
  refine Cv.go (pc' := 73) (go_bipush dX6_init_71 ib_40) ?_
  refine Cv.go (pc' := 75) (go_newI (N' := 40) lx_int (by decide) (by decide) (by decide) dX6_init_73) ?_
  refine Cv.namM fun m33 em33 => ?_
  refine Cv.namR fun q34 eq34 => ?_
  refine Cv.gif fun g35 => ?_
  refine Cv.go (pc' := 78) (go_putF (i := 30) cls6 g35 (by decide) rfl rfl lf_X6_38 (Or.inr ⟨_, rfl⟩) rfl dX6_init_75) ?_
  refine Cv.namM fun m36 em36 => ?_
  refine Cv.go (pc' := 79) (go_aload_n (i := 0) (x := c0) dX6_init_78 rfl rfl) ?_
  refine Cv.go (pc' := 80) (go_iconst dX6_init_79 ic_n1) ?_
  refine Cv.gif fun g37 => ?_
  refine Cv.go (pc' := 83) (go_putI (i := 31) cls6 g37 (by decide) rfl lf_X6_41 (by decide) rfl rfl rfl dX6_init_80) ?_
  refine Cv.namM fun m38 em38 => ?_
  refine Cv.go (pc' := 84) (go_aload_n (i := 0) (x := c0) dX6_init_83 rfl rfl) ?_
  refine Cv.go (pc' := 85) (go_iconst dX6_init_84 ic_4) ?_
  refine Cv.go (pc' := 87) (go_newZ (N' := 4) lx_boolean (by decide) (by decide) (by decide) dX6_init_85) ?_
  refine Cv.namM fun m39 em39 => ?_
  refine Cv.namR fun q40 eq40 => ?_
  refine Cv.gif fun g41 => ?_
  refine Cv.go (pc' := 90) (go_putF (i := 34) cls6 g41 (by decide) rfl rfl lf_X6_44 (Or.inr ⟨_, rfl⟩) rfl dX6_init_87) ?_
  refine Cv.namM fun m42 em42 => ?_
  refine Cv.go (pc' := 91) (go_aload_n (i := 0) (x := c0) dX6_init_90 rfl rfl) ?_
  refine Cv.go (pc' := 92) (go_iconst dX6_init_91 ic_4) ?_
  refine Cv.go (pc' := 94) (go_newI (N' := 4) lx_int (by decide) (by decide) (by decide) dX6_init_92) ?_
  refine Cv.namM fun m43 em43 => ?_
  refine Cv.namR fun q44 eq44 => ?_
  refine Cv.gif fun g45 => ?_
  refine Cv.go (pc' := 97) (go_putF (i := 35) cls6 g45 (by decide) rfl rfl lf_X6_48 (Or.inr ⟨_, rfl⟩) rfl dX6_init_94) ?_
  refine Cv.namM fun m46 em46 => ?_
  refine Cv.go (pc' := 98) (go_aload_n (i := 0) (x := c0) dX6_init_97 rfl rfl) ?_
  refine Cv.go (pc' := 99) (go_iconst dX6_init_98 ic_4) ?_
  refine Cv.go (pc' := 101) (go_newI (N' := 4) lx_int (by decide) (by decide) (by decide) dX6_init_99) ?_
  refine Cv.namM fun m47 em47 => ?_
  refine Cv.namR fun q48 eq48 => ?_
  refine Cv.gif fun g49 => ?_
  refine Cv.go (pc' := 104) (go_putF (i := 36) cls6 g49 (by decide) rfl rfl lf_X6_51 (Or.inr ⟨_, rfl⟩) rfl dX6_init_101) ?_
  refine Cv.namM fun m50 em50 => ?_
  refine Cv.go (pc' := 105) (go_aload_n (i := 0) (x := c0) dX6_init_104 rfl rfl) ?_
  refine Cv.go (pc' := 108) (go_sipush dX6_init_105 is_160) ?_
  refine Cv.go (pc' := 110) (go_newI (N' := 160) lx_int (by decide) (by decide) (by decide) dX6_init_108) ?_
  refine Cv.namM fun m51 em51 => ?_
  refine Cv.namR fun q52 eq52 => ?_
  refine Cv.gif fun g53 => ?_
  refine Cv.go (pc' := 113) (go_putF (i := 37) cls6 g53 (by decide) rfl rfl lf_X6_54 (Or.inr ⟨_, rfl⟩) rfl dX6_init_110) ?_
  refine Cv.namM fun m54 em54 => ?_
  refine Cv.go (pc' := 114) (go_aload_n (i := 0) (x := c0) dX6_init_113 rfl rfl) ?_
  refine Cv.go (pc' := 115) (go_iconst dX6_init_114 ic_0) ?_
  refine Cv.go (pc' := 117) (go_bipush dX6_init_115 ib_116) ?_
  refine Cv.go (pc' := 119) (go_bipush dX6_init_117 ib_117) ?_
  refine Cv.go (pc' := 121) (go_bipush dX6_init_119 ib_114) ?_
  refine Cv.go (pc' := 123) (go_bipush dX6_init_121 ib_110) ?_
  refine Cv.go (pc' := 125) (go_bipush dX6_init_123 ib_115) ?_
  refine Cv.go (pc' := 127) (go_bipush dX6_init_125 ib_32) ?_
  refine Cv.go (pc' := 129) (go_bipush dX6_init_127 ib_55) ?_
  refine Cv.go (pc' := 131) (go_bipush dX6_init_129 ib_32) ?_
  refine Cv.gif fun g55 => ?_
  obtain ⟨zg55, hS⟩ := g55
  subst zg55
  refine Cv.bnd fun v56 m57 e58 => ?_
  have C59 := kc_X6_spell m54 (0 : Int32) (116 : Int32) (117 : Int32) (114 : Int32) (110 : Int32) (115 : Int32) (32 : Int32) (55 : Int32) (32 : Int32) hS v56 m57 e58
  have C59 := C59.wk (sp' := false) (fun z => by cases z)
  refine Cv.go (pc' := 134) (st' := []) (go_callV (As := [.int (0 : Int32), .int (116 : Int32), .int (117 : Int32), .int (114 : Int32), .int (110 : Int32), .int (115 : Int32), .int (32 : Int32), .int (55 : Int32), .int (32 : Int32)]) (st := []) C59 (by decide) ok_X6_spell li_X6_spell ls_X6_spell lm_X6_57 cls6 (sx_k40 hS) rfl rfl (Nat.le_of_ble_eq_true rfl) dX6_init_131) ?_
  have zm57 : SameSh m54 m57 := (kc_X6_spell m54 (0 : Int32) (116 : Int32) (117 : Int32) (114 : Int32) (110 : Int32) (115 : Int32) (32 : Int32) (55 : Int32) (32 : Int32) hS v56 m57 e58).1.2.2 rfl
  have hS := hS.sh zm57
  refine Cv.go (pc' := 135) (go_aload_n (i := 0) (x := 40) dX6_init_134 rfl rfl) ?_
  refine Cv.go (pc' := 137) (go_bipush dX6_init_135 ib_8) ?_
  refine Cv.go (pc' := 139) (go_bipush dX6_init_137 ib_59) ?_
  refine Cv.go (pc' := 141) (go_bipush dX6_init_139 ib_32) ?_
  refine Cv.go (pc' := 143) (go_bipush dX6_init_141 ib_103) ?_
  refine Cv.go (pc' := 145) (go_bipush dX6_init_143 ib_105) ?_
  refine Cv.go (pc' := 147) (go_bipush dX6_init_145 ib_118) ?_
  refine Cv.go (pc' := 149) (go_bipush dX6_init_147 ib_101) ?_
  refine Cv.go (pc' := 151) (go_bipush dX6_init_149 ib_115) ?_
  refine Cv.go (pc' := 153) (go_bipush dX6_init_151 ib_32) ?_
  refine Cv.bnd fun v60 m61 e62 => ?_
  have C63 := kc_X6_spell m57 (8 : Int32) (59 : Int32) (32 : Int32) (103 : Int32) (105 : Int32) (118 : Int32) (101 : Int32) (115 : Int32) (32 : Int32) hS v60 m61 e62
  have C63 := C63.wk (sp' := false) (fun z => by cases z)
  refine Cv.go (pc' := 156) (st' := []) (go_callV (As := [.int (8 : Int32), .int (59 : Int32), .int (32 : Int32), .int (103 : Int32), .int (105 : Int32), .int (118 : Int32), .int (101 : Int32), .int (115 : Int32), .int (32 : Int32)]) (st := []) C63 (by decide) ok_X6_spell li_X6_spell ls_X6_spell lm_X6_57 cls6 (sx_k40 hS) rfl rfl (Nat.le_of_ble_eq_true rfl) dX6_init_153) ?_
  have zm61 : SameSh m57 m61 := (kc_X6_spell m57 (8 : Int32) (59 : Int32) (32 : Int32) (103 : Int32) (105 : Int32) (118 : Int32) (101 : Int32) (115 : Int32) (32 : Int32) hS v60 m61 e62).1.2.2 rfl
  have hS := hS.sh zm61
  refine Cv.go (pc' := 157) (go_aload_n (i := 0) (x := 40) dX6_init_156 rfl rfl) ?_
  refine Cv.go (pc' := 159) (go_bipush dX6_init_157 ib_16) ?_
  refine Cv.go (pc' := 161) (go_bipush dX6_init_159 ib_102) ?_
  refine Cv.go (pc' := 163) (go_bipush dX6_init_161 ib_105) ?_
  refine Cv.go (pc' := 165) (go_bipush dX6_init_163 ib_114) ?_
  refine Cv.go (pc' := 167) (go_bipush dX6_init_165 ib_115) ?_
  refine Cv.go (pc' := 169) (go_bipush dX6_init_167 ib_116) ?_
  refine Cv.go (pc' := 171) (go_bipush dX6_init_169 ib_32) ?_
  refine Cv.go (pc' := 173) (go_bipush dX6_init_171 ib_42) ?_
  refine Cv.go (pc' := 175) (go_bipush dX6_init_173 ib_32) ?_
  refine Cv.bnd fun v64 m65 e66 => ?_
  have C67 := kc_X6_spell m61 (16 : Int32) (102 : Int32) (105 : Int32) (114 : Int32) (115 : Int32) (116 : Int32) (32 : Int32) (42 : Int32) (32 : Int32) hS v64 m65 e66
  have C67 := C67.wk (sp' := false) (fun z => by cases z)
  refine Cv.go (pc' := 178) (st' := []) (go_callV (As := [.int (16 : Int32), .int (102 : Int32), .int (105 : Int32), .int (114 : Int32), .int (115 : Int32), .int (116 : Int32), .int (32 : Int32), .int (42 : Int32), .int (32 : Int32)]) (st := []) C67 (by decide) ok_X6_spell li_X6_spell ls_X6_spell lm_X6_57 cls6 (sx_k40 hS) rfl rfl (Nat.le_of_ble_eq_true rfl) dX6_init_175) ?_
  have zm65 : SameSh m61 m65 := (kc_X6_spell m61 (16 : Int32) (102 : Int32) (105 : Int32) (114 : Int32) (115 : Int32) (116 : Int32) (32 : Int32) (42 : Int32) (32 : Int32) hS v64 m65 e66).1.2.2 rfl
  have hS := hS.sh zm65
  refine Cv.go (pc' := 179) (go_aload_n (i := 0) (x := 40) dX6_init_178 rfl rfl) ?_
  refine Cv.go (pc' := 181) (go_bipush dX6_init_179 ib_24) ?_
  refine Cv.go (pc' := 183) (go_bipush dX6_init_181 ib_53) ?_
  refine Cv.go (pc' := 185) (go_bipush dX6_init_183 ib_32) ?_
  refine Cv.go (pc' := 187) (go_bipush dX6_init_185 ib_59) ?_
  refine Cv.go (pc' := 189) (go_bipush dX6_init_187 ib_32) ?_
  refine Cv.go (pc' := 191) (go_bipush dX6_init_189 ib_115) ?_
  refine Cv.go (pc' := 193) (go_bipush dX6_init_191 ib_112) ?_
  refine Cv.go (pc' := 195) (go_bipush dX6_init_193 ib_111) ?_
  refine Cv.go (pc' := 197) (go_bipush dX6_init_195 ib_105) ?_
  refine Cv.bnd fun v68 m69 e70 => ?_
  have C71 := kc_X6_spell m65 (24 : Int32) (53 : Int32) (32 : Int32) (59 : Int32) (32 : Int32) (115 : Int32) (112 : Int32) (111 : Int32) (105 : Int32) hS v68 m69 e70
  have C71 := C71.wk (sp' := false) (fun z => by cases z)
  refine Cv.go (pc' := 200) (st' := []) (go_callV (As := [.int (24 : Int32), .int (53 : Int32), .int (32 : Int32), .int (59 : Int32), .int (32 : Int32), .int (115 : Int32), .int (112 : Int32), .int (111 : Int32), .int (105 : Int32)]) (st := []) C71 (by decide) ok_X6_spell li_X6_spell ls_X6_spell lm_X6_57 cls6 (sx_k40 hS) rfl rfl (Nat.le_of_ble_eq_true rfl) dX6_init_197) ?_
  have zm69 : SameSh m65 m69 := (kc_X6_spell m65 (24 : Int32) (53 : Int32) (32 : Int32) (59 : Int32) (32 : Int32) (115 : Int32) (112 : Int32) (111 : Int32) (105 : Int32) hS v68 m69 e70).1.2.2 rfl
  have hS := hS.sh zm69
  refine Cv.go (pc' := 201) (go_aload_n (i := 0) (x := 40) dX6_init_200 rfl rfl) ?_
  refine Cv.go (pc' := 203) (go_bipush dX6_init_201 ib_32) ?_
  refine Cv.go (pc' := 205) (go_bipush dX6_init_203 ib_108) ?_
  refine Cv.go (pc' := 207) (go_bipush dX6_init_205 ib_115) ?_
  refine Cv.go (pc' := 209) (go_bipush dX6_init_207 ib_32) ?_
  refine Cv.go (pc' := 211) (go_bipush dX6_init_209 ib_50) ?_
  refine Cv.go (pc' := 213) (go_bipush dX6_init_211 ib_32) ?_
  refine Cv.go (pc' := 215) (go_bipush dX6_init_213 ib_59) ?_
  refine Cv.go (pc' := 217) (go_bipush dX6_init_215 ib_32) ?_
  refine Cv.go (pc' := 219) (go_bipush dX6_init_217 ib_32) ?_
  refine Cv.bnd fun v72 m73 e74 => ?_
  have C75 := kc_X6_spell m69 (32 : Int32) (108 : Int32) (115 : Int32) (32 : Int32) (50 : Int32) (32 : Int32) (59 : Int32) (32 : Int32) (32 : Int32) hS v72 m73 e74
  have C75 := C75.wk (sp' := false) (fun z => by cases z)
  refine Cv.go (pc' := 222) (st' := []) (go_callV (As := [.int (32 : Int32), .int (108 : Int32), .int (115 : Int32), .int (32 : Int32), .int (50 : Int32), .int (32 : Int32), .int (59 : Int32), .int (32 : Int32), .int (32 : Int32)]) (st := []) C75 (by decide) ok_X6_spell li_X6_spell ls_X6_spell lm_X6_57 cls6 (sx_k40 hS) rfl rfl (Nat.le_of_ble_eq_true rfl) dX6_init_219) ?_
  have zm73 : SameSh m69 m73 := (kc_X6_spell m69 (32 : Int32) (108 : Int32) (115 : Int32) (32 : Int32) (50 : Int32) (32 : Int32) (59 : Int32) (32 : Int32) (32 : Int32) hS v72 m73 e74).1.2.2 rfl
  have hS := hS.sh zm73
  refine Cv.go (pc' := 223) (go_aload_n (i := 0) (x := 40) dX6_init_222 rfl rfl) ?_
  refine Cv.gref fun r76 e77 => ?_
  refine Cv.go (pc' := 226) (go_getR (i := 2) cls6 (sx_k40 hS) (by decide) rfl lf_X6_17 (Or.inr ⟨_, rfl⟩) e77 dX6_init_223) ?_
  refine Cv.go (pc' := 227) (go_iconst dX6_init_226 ic_0) ?_
  refine Cv.go (pc' := 229) (go_bipush dX6_init_227 ib_40) ?_
  refine Cv.gif fun g78 => ?_
  refine Cv.go (pc' := 230) (go_iastore (kA g78.1) g78.2 dX6_init_229) ?_
  refine Cv.namM fun m79 em79 => ?_
  have zm79 : SameSh m73 m79 := em79 ▸ SameSh.d
  have hS := hS.sh zm79
  refine Cv.go (pc' := 231) (go_aload_n (i := 0) (x := 40) dX6_init_230 rfl rfl) ?_
  refine Cv.go (pc' := 232) (go_iconst dX6_init_231 ic_1) ?_
  refine Cv.go (pc' := 235) (go_putI (i := 3) cls6 (sx_k40 hS) (by decide) rfl lf_X6_61 (by decide) rfl rfl rfl dX6_init_232) ?_
  refine Cv.namM fun m80 em80 => ?_
  have zm80 : SameSh m79 m80 := em80 ▸ SameSh.d
  have hS := hS.sh zm80
  exact Cv.ret dX6_init_235 rfl
theorem kc_X6_isCoin (m : Mem) (a1 : Int32) (hS : ShM m) : ∀ v mE, F_X6_isCoin m a1 = some (v, mE) → Con true kX6_isCoin 1 [.ref 40, .int a1] m (eZ v) mE := by
  refine Con.of (ini := false) (ls0 := [.ref 40, .int a1]) (ri := .ireturn) (by decide) (by intro z; cases z) rfl (Nat.le_of_ble_eq_true rfl) (fun v mE _ => RetTy.z) ?_
  show Cv true (cX6_isCoin, 2, RX6, 1, ((false, none) : IK)) .ireturn eZ (F_X6_isCoin m a1) m 0 [.ref 40, .int a1] []
  unfold F_X6_isCoin
  refine Cv.go (pc' := 1) (go_iload_n (i := 1) (x := a1) dX6_isCoin_0 rfl rfl) ?_
  refine Cv.go (pc' := 2) (go_i2l dX6_isCoin_1) ?_
  refine Cv.go (pc' := 3) (go_lconst (v := 0) dX6_isCoin_2 (by decide)) ?_
  refine Cv.go (pc' := 4) (go_aload_n (i := 0) (x := 40) dX6_isCoin_3 rfl rfl) ?_
  refine Cv.go (pc' := 7) (go_getI (i := 10) cls6 (sx_k40 hS) (by decide) rfl lf_X6_64 (by decide) dX6_isCoin_4) ?_
  refine Cv.go (pc' := 8) (go_iconst dX6_isCoin_7 ic_1) ?_
  refine Cv.go (pc' := 9) (go_isub dX6_isCoin_8) ?_
  refine Cv.go (pc' := 10) (go_i2l dX6_isCoin_9) ?_
  refine Cv.bnd fun v1 m2 e3 => ?_
  have C4 := kc_X6_in m a1.toInt64 (0 : Int64) (((mD m 40 10) - (1 : Int32)).toInt64) v1 m2 e3
  refine Cv.go (pc' := 13) (st' := [.int (bz v1)]) (go_callS (As := [.long a1.toInt64, .long (0 : Int64), .long (((mD m 40 10) - (1 : Int32)).toInt64)]) (st := []) C4 (by decide) ok_X6_in lt_X6_in lm_X6_67 rfl rfl (Nat.le_of_ble_eq_true rfl) dX6_isCoin_10) ?_
  have zm2 := C4.1.2.2 rfl
  have hS := hS.sh zm2
  exact Cv.ret dX6_isCoin_13 rfl
theorem kc_X6_isOwner (m : Mem) (a0 : Int32) : ∀ v mE, F_X6_isOwner m a0 = some (v, mE) → Con true kX6_isOwner 1 [.int a0] m (eZ v) mE := by
  refine Con.of (ini := false) (ls0 := [.int a0]) (ri := .ireturn) (by decide) (by intro z; cases z) rfl (Nat.le_of_ble_eq_true rfl) (fun v mE _ => RetTy.z) ?_
  show Cv true (cX6_isOwner, 1, RX6, 1, ((false, none) : IK)) .ireturn eZ (F_X6_isOwner m a0) m 0 [.int a0] []
  unfold F_X6_isOwner
  refine Cv.go (pc' := 1) (go_iload_n (i := 0) (x := a0) dX6_isOwner_0 rfl rfl) ?_
  refine Cv.go (pc' := 2) (go_i2l dX6_isOwner_1) ?_
  refine Cv.go (pc' := 3) (go_lconst (v := 0) dX6_isOwner_2 (by decide)) ?_
  refine Cv.go (pc' := 6) (go_ldc2 dX6_isOwner_3 ll_X6_71) ?_
  refine Cv.bnd fun v1 m2 e3 => ?_
  have C4 := kc_X6_in m a0.toInt64 (0 : Int64) (3 : Int64) v1 m2 e3
  refine Cv.go (pc' := 9) (st' := [.int (bz v1)]) (go_callS (As := [.long a0.toInt64, .long (0 : Int64), .long (3 : Int64)]) (st := []) C4 (by decide) ok_X6_in lt_X6_in lm_X6_67 rfl rfl (Nat.le_of_ble_eq_true rfl) dX6_isOwner_6) ?_
  exact Cv.ret dX6_isOwner_9 rfl
theorem kc_X6_mostOf (m : Mem) (a0 : Int32) : ∀ v mE, F_X6_mostOf m a0 = some (v, mE) → Con true kX6_mostOf 0 [.int a0] m (eI v) mE := by
  refine Con.of (ini := false) (ls0 := [.int a0]) (ri := .ireturn) (by decide) (by intro z; cases z) rfl (Nat.le_of_ble_eq_true rfl) (fun v mE _ => RetTy.i) ?_
  show Cv true (cX6_mostOf, 1, RX6, 0, ((false, none) : IK)) .ireturn eI (F_X6_mostOf m a0) m 0 [.int a0] []
  unfold F_X6_mostOf
  refine Cv.go (pc' := 1) (go_iload_n (i := 0) (x := a0) dX6_mostOf_0 rfl rfl) ?_
  refine Cv.ite (fun h1 => ?_) (fun h1 => ?_)
  · refine Cv.go (pc' := 9) (go_if_eq_t (tgt := 9) dX6_mostOf_1 rfl h1) ?_
    refine Cv.go (pc' := 12) (go_sipush dX6_mostOf_9 is_999) ?_
    refine Cv.go (pc' := 36) (go_goto (tgt := 36) dX6_mostOf_12 rfl) ?_
    exact Cv.ret dX6_mostOf_36 rfl
  · refine Cv.go (pc' := 4) (go_if_eq_f 9 dX6_mostOf_1 rfl h1) ?_
    refine Cv.go (pc' := 5) (go_iload_n (i := 0) (x := a0) dX6_mostOf_4 rfl rfl) ?_
    refine Cv.go (pc' := 6) (go_iconst dX6_mostOf_5 ic_4) ?_
    refine Cv.ite (fun h2 => ?_) (fun h2 => ?_)
    · refine Cv.go (pc' := 9) (go_icmp_ne_f 15 dX6_mostOf_6 rfl h2) ?_
      refine Cv.go (pc' := 12) (go_sipush dX6_mostOf_9 is_999) ?_
      refine Cv.go (pc' := 36) (go_goto (tgt := 36) dX6_mostOf_12 rfl) ?_
      exact Cv.ret dX6_mostOf_36 rfl
    · refine Cv.go (pc' := 15) (go_icmp_ne_t (tgt := 15) dX6_mostOf_6 rfl h2) ?_
      refine Cv.go (pc' := 16) (go_iload_n (i := 0) (x := a0) dX6_mostOf_15 rfl rfl) ?_
      refine Cv.go (pc' := 17) (go_iconst dX6_mostOf_16 ic_2) ?_
      refine Cv.ite (fun h3 => ?_) (fun h3 => ?_)
      · refine Cv.go (pc' := 20) (go_icmp_ne_f 25 dX6_mostOf_17 rfl h3) ?_
        refine Cv.go (pc' := 22) (go_bipush dX6_mostOf_20 ib_99) ?_
        refine Cv.go (pc' := 36) (go_goto (tgt := 36) dX6_mostOf_22 rfl) ?_
        exact Cv.ret dX6_mostOf_36 rfl
      · refine Cv.go (pc' := 25) (go_icmp_ne_t (tgt := 25) dX6_mostOf_17 rfl h3) ?_
        refine Cv.go (pc' := 26) (go_iload_n (i := 0) (x := a0) dX6_mostOf_25 rfl rfl) ?_
        refine Cv.go (pc' := 27) (go_iconst dX6_mostOf_26 ic_5) ?_
        refine Cv.ite (fun h4 => ?_) (fun h4 => ?_)
        · refine Cv.go (pc' := 30) (go_icmp_ne_f 34 dX6_mostOf_27 rfl h4) ?_
          refine Cv.go (pc' := 31) (go_iconst dX6_mostOf_30 ic_3) ?_
          refine Cv.go (pc' := 36) (go_goto (tgt := 36) dX6_mostOf_31 rfl) ?_
          exact Cv.ret dX6_mostOf_36 rfl
        · refine Cv.go (pc' := 34) (go_icmp_ne_t (tgt := 34) dX6_mostOf_27 rfl h4) ?_
          refine Cv.go (pc' := 36) (go_bipush dX6_mostOf_34 ib_9) ?_
          exact Cv.ret dX6_mostOf_36 rfl
theorem kc_X6_byteAt (m : Mem) (a1 : Int32) (hS : ShM m) : ∀ v mE, F_X6_byteAt m a1 = some (v, mE) → Con true kX6_byteAt 0 [.ref 40, .int a1] m (eI v) mE := by
  refine Con.of (ini := false) (ls0 := [.ref 40, .int a1]) (ri := .ireturn) (by decide) (by intro z; cases z) rfl (Nat.le_of_ble_eq_true rfl) (fun v mE _ => RetTy.i) ?_
  show Cv true (cX6_byteAt, 2, RX6, 0, ((false, none) : IK)) .ireturn eI (F_X6_byteAt m a1) m 0 [.ref 40, .int a1] []
  unfold F_X6_byteAt
  refine Cv.go (pc' := 1) (go_iload_n (i := 1) (x := a1) dX6_byteAt_0 rfl rfl) ?_
  refine Cv.go (pc' := 2) (go_aload_n (i := 0) (x := 40) dX6_byteAt_1 rfl rfl) ?_
  refine Cv.go (pc' := 5) (go_getI (i := 18) cls6 (sx_k40 hS) (by decide) rfl lf_X6_124 (by decide) dX6_byteAt_2) ?_
  refine Cv.ite (fun h1 => ?_) (fun h1 => ?_)
  · refine Cv.go (pc' := 22) (go_icmp_ge_t (tgt := 22) dX6_byteAt_5 rfl h1) ?_
    refine Cv.go (pc' := 23) (go_iconst dX6_byteAt_22 ic_n1) ?_
    exact Cv.ret dX6_byteAt_23 rfl
  · refine Cv.go (pc' := 8) (go_icmp_ge_f 22 dX6_byteAt_5 rfl h1) ?_
    refine Cv.go (pc' := 9) (go_aload_n (i := 0) (x := 40) dX6_byteAt_8 rfl rfl) ?_
    refine Cv.go (pc' := 12) (go_getR (i := 1) cls6 (sx_k40 hS) (by decide) rfl lf_X6_13 (Or.inr ⟨_, rfl⟩) (sx_r40_1 hS) dX6_byteAt_9) ?_
    refine Cv.go (pc' := 13) (go_aload_n (i := 0) (x := 40) dX6_byteAt_12 rfl rfl) ?_
    refine Cv.go (pc' := 16) (go_getI (i := 17) cls6 (sx_k40 hS) (by decide) rfl lf_X6_127 (by decide) dX6_byteAt_13) ?_
    refine Cv.go (pc' := 17) (go_iload_n (i := 1) (x := a1) dX6_byteAt_16 rfl rfl) ?_
    refine Cv.go (pc' := 18) (go_iadd dX6_byteAt_17) ?_
    refine Cv.gif fun g2 => ?_
    refine Cv.go (pc' := 19) (go_iaload (sx_k41 hS) g2 dX6_byteAt_18) ?_
    refine Cv.go (pc' := 23) (go_goto (tgt := 23) dX6_byteAt_19 rfl) ?_
    exact Cv.ret dX6_byteAt_23 rfl
