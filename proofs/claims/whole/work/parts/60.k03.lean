theorem kc_X5_pay (m : Mem) (a1 : Int32) (a2 : Int32) (hS : ShX m) : ∀ v mE, F_X5_pay m a1 a2 = some (v, mE) → Con true kX5_pay 4 [.ref 0, .int a1, .int a2] m (eI v) mE := by
  refine Con.of (ini := false) (ls0 := [.ref 0, .int a1, .int a2, .null]) (ri := .ireturn) (by decide) (by intro z; cases z) rfl (Nat.le_of_ble_eq_true rfl) (fun v mE _ => RetTy.i) ?_
  show Cv true (cX5_pay, 4, RX5, 4, ((false, none) : IK)) .ireturn eI (F_X5_pay m a1 a2) m 0 [.ref 0, .int a1, .int a2, .null] []
  unfold F_X5_pay
  refine Cv.go (pc' := 1) (go_aload_n (i := 0) (x := 0) dX5_pay_0 rfl rfl) ?_
  refine Cv.go (pc' := 2) (go_iload_n (i := 1) (x := a1) dX5_pay_1 rfl rfl) ?_
  refine Cv.bnd fun v1 m2 e3 => ?_
  have C4 := kc_X5_isCoin m a1 hS v1 m2 e3
  refine Cv.go (pc' := 5) (st' := [.int (bz v1)]) (go_callV (As := [.int a1]) (st := []) C4 (by decide) ok_X5_isCoin li_X5_isCoin ls_X5_isCoin lm_X5_87 cls5 (sx_k0 hS) rfl rfl (Nat.le_of_ble_eq_true rfl) dX5_pay_2) ?_
  have zm2 := C4.1.2.2 rfl
  have hS := hS.sh zm2
  refine Cv.ite (fun h5 => ?_) (fun h5 => ?_)
  · refine Cv.go (pc' := 16) (go_if_eq_t (tgt := 16) dX5_pay_5 rfl h5) ?_
    refine Cv.go (pc' := 18) (go_bipush dX5_pay_16 ib_n2) ?_
    exact Cv.ret dX5_pay_18 rfl
  · refine Cv.go (pc' := 8) (go_if_eq_f 16 dX5_pay_5 rfl h5) ?_
    refine Cv.go (pc' := 9) (go_iconst dX5_pay_8 ic_5) ?_
    refine Cv.go (pc' := 10) (go_iload_n (i := 2) (x := a2) dX5_pay_9 rfl rfl) ?_
    refine Cv.bnd fun v6 m7 e8 => ?_
    have C9 := kc_X5_isOf m2 (5 : Int32) a2 v6 m7 e8
    refine Cv.go (pc' := 13) (st' := [.int (bz v6)]) (go_callS (As := [.int (5 : Int32), .int a2]) (st := []) C9 (by decide) ok_X5_isOf lt_X5_isOf lm_X5_99 rfl rfl (Nat.le_of_ble_eq_true rfl) dX5_pay_10) ?_
    have zm7 := C9.1.2.2 rfl
    have hS := hS.sh zm7
    refine Cv.ite (fun h10 => ?_) (fun h10 => ?_)
    · refine Cv.go (pc' := 16) (go_if_ne_f 19 dX5_pay_13 rfl h10) ?_
      refine Cv.go (pc' := 18) (go_bipush dX5_pay_16 ib_n2) ?_
      exact Cv.ret dX5_pay_18 rfl
    · refine Cv.go (pc' := 19) (go_if_ne_t (tgt := 19) dX5_pay_13 rfl h10) ?_
      refine Cv.go (pc' := 20) (go_aload_n (i := 0) (x := 0) dX5_pay_19 rfl rfl) ?_
      refine Cv.go (pc' := 23) (go_getR (i := 1) cls5 (sx_k0 hS) (by decide) rfl lf_X5_11 (Or.inr ⟨_, rfl⟩) (sx_r0_1 hS) dX5_pay_20) ?_
      refine Cv.go (pc' := 24) (go_iload_n (i := 1) (x := a1) dX5_pay_23 rfl rfl) ?_
      refine Cv.gif fun g11 => ?_
      refine Cv.go (pc' := 25) (go_aaload (t := 9) (t0 := 2) (sx_k1 hS) (by decide) (fun _ => rfl) g11 (sx_e1 hS (vp_lt g11)).1 dX5_pay_24) ?_
      have hf12 := (sx_e1 hS (vp_lt g11)).2
      refine Cv.go (pc' := 28) (go_getI (i := 5) cls0 hf12 (by decide) rfl lf_X5_148 (by decide) dX5_pay_25) ?_
      refine Cv.namI fun x13 ex13 => ?_
      refine Cv.go (pc' := 29) (ls' := [.ref 0, .int a1, .int a2, .int x13]) (go_istore_n dX5_pay_28 rfl (by decide) rfl) ?_
      refine Cv.go (pc' := 30) (go_aload_n (i := 0) (x := 0) dX5_pay_29 rfl rfl) ?_
      refine Cv.go (pc' := 31) (go_aload_n (i := 0) (x := 0) dX5_pay_30 rfl rfl) ?_
      refine Cv.go (pc' := 34) (go_getR (i := 1) cls5 (sx_k0 hS) (by decide) rfl lf_X5_11 (Or.inr ⟨_, rfl⟩) (sx_r0_1 hS) dX5_pay_31) ?_
      refine Cv.go (pc' := 35) (go_iload_n (i := 1) (x := a1) dX5_pay_34 rfl rfl) ?_
      refine Cv.gif fun g14 => ?_
      refine Cv.go (pc' := 36) (go_aaload (t := 9) (t0 := 2) (sx_k1 hS) (by decide) (fun _ => rfl) g14 (sx_e1 hS (vp_lt g14)).1 dX5_pay_35) ?_
      have hf15 := (sx_e1 hS (vp_lt g14)).2
      refine Cv.go (pc' := 37) (go_iconst dX5_pay_36 ic_0) ?_
      refine Cv.bnd fun v16 m17 e18 => ?_
      have C19 := kc_X5_isWholeBehind m7 (20 + a1.toNatClampNeg) (0 : Int32) hS hf15 v16 m17 e18
      refine Cv.go (pc' := 40) (st' := [.int (bz v16)]) (go_callV (As := [.ref (20 + a1.toNatClampNeg), .int (0 : Int32)]) (st := []) C19 (by decide) ok_X5_isWholeBehind li_X5_isWholeBehind ls_X5_isWholeBehind lm_X5_128 cls5 (sx_k0 hS) rfl rfl (Nat.le_of_ble_eq_true rfl) dX5_pay_37) ?_
      have zm17 := C19.1.2.2 rfl
      have hS := hS.sh zm17
      have hf12 := sk zm17 hf12
      have hf15 := sk zm17 hf15
      refine Cv.ite (fun h20 => ?_) (fun h20 => ?_)
      · refine Cv.go (pc' := 48) (go_if_eq_t (tgt := 48) dX5_pay_40 rfl h20) ?_
        refine Cv.go (pc' := 50) (go_bipush dX5_pay_48 ib_n3) ?_
        exact Cv.ret dX5_pay_50 rfl
      · refine Cv.go (pc' := 43) (go_if_eq_f 48 dX5_pay_40 rfl h20) ?_
        refine Cv.go (pc' := 44) (go_iload_n (i := 3) (x := x13) dX5_pay_43 rfl rfl) ?_
        refine Cv.go (pc' := 45) (go_iload_n (i := 2) (x := a2) dX5_pay_44 rfl rfl) ?_
        refine Cv.ite (fun h21 => ?_) (fun h21 => ?_)
        · refine Cv.go (pc' := 48) (go_icmp_ne_f 51 dX5_pay_45 rfl h21) ?_
          refine Cv.go (pc' := 50) (go_bipush dX5_pay_48 ib_n3) ?_
          exact Cv.ret dX5_pay_50 rfl
        · refine Cv.go (pc' := 51) (go_icmp_ne_t (tgt := 51) dX5_pay_45 rfl h21) ?_
          refine Cv.go (pc' := 52) (go_aload_n (i := 0) (x := 0) dX5_pay_51 rfl rfl) ?_
          refine Cv.go (pc' := 55) (go_getR (i := 1) cls5 (sx_k0 hS) (by decide) rfl lf_X5_11 (Or.inr ⟨_, rfl⟩) (sx_r0_1 hS) dX5_pay_52) ?_
          refine Cv.go (pc' := 56) (go_iload_n (i := 1) (x := a1) dX5_pay_55 rfl rfl) ?_
          refine Cv.gif fun g22 => ?_
          refine Cv.go (pc' := 57) (go_aaload (t := 9) (t0 := 2) (sx_k1 hS) (by decide) (fun _ => rfl) g22 (sx_e1 hS (vp_lt g22)).1 dX5_pay_56) ?_
          have hf23 := (sx_e1 hS (vp_lt g22)).2
          refine Cv.go (pc' := 58) (go_iload_n (i := 2) (x := a2) dX5_pay_57 rfl rfl) ?_
          refine Cv.bnd fun v24 m25 e26 => ?_
          have C27 := kc_X0_goTo m17 (20 + a1.toNatClampNeg) a2 hf23 v24 m25 e26
          refine Cv.go (pc' := 61) (st' := []) (go_callV (As := [.int a2]) (st := []) C27 (by decide) ok_X0_goTo li_X0_goTo ls_X0_goTo lm_X5_151 cls0 hf23 rfl rfl (Nat.le_of_ble_eq_true rfl) dX5_pay_58) ?_
          have zm25 := C27.1.2.2 rfl
          have hS := hS.sh zm25
          have hf12 := sk zm25 hf12
          have hf15 := sk zm25 hf15
          have hf23 := sk zm25 hf23
          refine Cv.go (pc' := 62) (go_iload_n (i := 3) (x := x13) dX5_pay_61 rfl rfl) ?_
          exact Cv.ret dX5_pay_62 rfl
theorem kc_X5_areTwoOwners (m : Mem) (a0 : Int32) (a1 : Int32) : ∀ v mE, F_X5_areTwoOwners m a0 a1 = some (v, mE) → Con true kX5_areTwoOwners 1 [.int a0, .int a1] m (eZ v) mE := by
  refine Con.of (ini := false) (ls0 := [.int a0, .int a1]) (ri := .ireturn) (by decide) (by intro z; cases z) rfl (Nat.le_of_ble_eq_true rfl) (fun v mE _ => RetTy.z) ?_
  show Cv true (cX5_areTwoOwners, 2, RX5, 1, ((false, none) : IK)) .ireturn eZ (F_X5_areTwoOwners m a0 a1) m 0 [.int a0, .int a1] []
  unfold F_X5_areTwoOwners
  refine Cv.go (pc' := 1) (go_iconst dX5_areTwoOwners_0 ic_5) ?_
  refine Cv.go (pc' := 2) (go_iload_n (i := 0) (x := a0) dX5_areTwoOwners_1 rfl rfl) ?_
  refine Cv.bnd fun v1 m2 e3 => ?_
  have C4 := kc_X5_isOf m (5 : Int32) a0 v1 m2 e3
  refine Cv.go (pc' := 5) (st' := [.int (bz v1)]) (go_callS (As := [.int (5 : Int32), .int a0]) (st := []) C4 (by decide) ok_X5_isOf lt_X5_isOf lm_X5_99 rfl rfl (Nat.le_of_ble_eq_true rfl) dX5_areTwoOwners_2) ?_
  refine Cv.ite (fun h5 => ?_) (fun h5 => ?_)
  · refine Cv.go (pc' := 25) (go_if_eq_t (tgt := 25) dX5_areTwoOwners_5 rfl h5) ?_
    refine Cv.go (pc' := 26) (go_iconst dX5_areTwoOwners_25 ic_0) ?_
    exact Cv.ret dX5_areTwoOwners_26 rfl
  · refine Cv.go (pc' := 8) (go_if_eq_f 25 dX5_areTwoOwners_5 rfl h5) ?_
    refine Cv.go (pc' := 9) (go_iconst dX5_areTwoOwners_8 ic_5) ?_
    refine Cv.go (pc' := 10) (go_iload_n (i := 1) (x := a1) dX5_areTwoOwners_9 rfl rfl) ?_
    refine Cv.bnd fun v6 m7 e8 => ?_
    have C9 := kc_X5_isOf m2 (5 : Int32) a1 v6 m7 e8
    refine Cv.go (pc' := 13) (st' := [.int (bz v6)]) (go_callS (As := [.int (5 : Int32), .int a1]) (st := []) C9 (by decide) ok_X5_isOf lt_X5_isOf lm_X5_99 rfl rfl (Nat.le_of_ble_eq_true rfl) dX5_areTwoOwners_10) ?_
    refine Cv.ite (fun h10 => ?_) (fun h10 => ?_)
    · refine Cv.go (pc' := 25) (go_if_eq_t (tgt := 25) dX5_areTwoOwners_13 rfl h10) ?_
      refine Cv.go (pc' := 26) (go_iconst dX5_areTwoOwners_25 ic_0) ?_
      exact Cv.ret dX5_areTwoOwners_26 rfl
    · refine Cv.go (pc' := 16) (go_if_eq_f 25 dX5_areTwoOwners_13 rfl h10) ?_
      refine Cv.go (pc' := 17) (go_iload_n (i := 0) (x := a0) dX5_areTwoOwners_16 rfl rfl) ?_
      refine Cv.go (pc' := 18) (go_iload_n (i := 1) (x := a1) dX5_areTwoOwners_17 rfl rfl) ?_
      refine Cv.ite (fun h11 => ?_) (fun h11 => ?_)
      · refine Cv.go (pc' := 25) (go_icmp_eq_t (tgt := 25) dX5_areTwoOwners_18 rfl h11) ?_
        refine Cv.go (pc' := 26) (go_iconst dX5_areTwoOwners_25 ic_0) ?_
        exact Cv.ret dX5_areTwoOwners_26 rfl
      · refine Cv.go (pc' := 21) (go_icmp_eq_f 25 dX5_areTwoOwners_18 rfl h11) ?_
        refine Cv.go (pc' := 22) (go_iconst dX5_areTwoOwners_21 ic_1) ?_
        refine Cv.go (pc' := 26) (go_goto (tgt := 26) dX5_areTwoOwners_22 rfl) ?_
        exact Cv.ret dX5_areTwoOwners_26 rfl
theorem c_X5_purseBehind_50 (K5 : Mem → Int32 → Int32 → Int32 → Int32 → Option (Int32 × Mem)) (hK5 : ∀ (m : Mem) (a1 : Int32) (a2 : Int32) (a3 : Int32) (a4 : Int32) (hS : ShX m), Cv true (cX5_purseBehind, 5, RX5, 4, ((false, none) : IK)) .ireturn eI (K5 m a1 a2 a3 a4) m 5 [.ref 0, .int a1, .int a2, .int a3, .int a4] []) : ∀ (m : Mem) (a1 : Int32) (a2 : Int32) (a3 : Int32) (a4 : Int32) (hS : ShX m), Cv true (cX5_purseBehind, 5, RX5, 4, ((false, none) : IK)) .ireturn eI (F_X5_purseBehind_50 K5 m a1 a2 a3 a4) m 50 [.ref 0, .int a1, .int a2, .int a3, .int a4] [] := by
  intro m a1 a2 a3 a4 hS
  unfold F_X5_purseBehind_50
  refine Cv.go (pc' := 53) (ls' := [.ref 0, .int a1, .int a2, .int a3, .int (a4 + (1 : Int32))]) (go_iinc (x := a4) (v := a4 + (1 : Int32)) dX5_purseBehind_50 rfl rfl (by decide) rfl) ?_
  refine Cv.go (pc' := 5) (go_goto (tgt := 5) dX5_purseBehind_53 rfl) ?_
  exact hK5 m a1 a2 a3 (a4 + (1 : Int32)) hS
theorem c_X5_purseBehind_5 : ∀ n, ∀ (m : Mem) (a1 : Int32) (a2 : Int32) (a3 : Int32) (a4 : Int32) (hS : ShX m), Cv true (cX5_purseBehind, 5, RX5, 4, ((false, none) : IK)) .ireturn eI (F_X5_purseBehind_5 n m a1 a2 a3 a4) m 5 [.ref 0, .int a1, .int a2, .int a3, .int a4] [] := by
  intro n
  induction n with
  | zero => intro m a1 a2 a3 a4 hS; exact Cv.no
  | succ n ih =>
    intro m a1 a2 a3 a4 hS
    unfold F_X5_purseBehind_5
    refine Cv.go (pc' := 7) (go_iload (i := 4) (x := a4) dX5_purseBehind_5 rfl) ?_
    refine Cv.go (pc' := 8) (go_aload_n (i := 0) (x := 0) dX5_purseBehind_7 rfl rfl) ?_
    refine Cv.go (pc' := 11) (go_getI (i := 2) cls5 (sx_k0 hS) (by decide) rfl lf_X5_103 (by decide) dX5_purseBehind_8) ?_
    refine Cv.ite (fun h1 => ?_) (fun h1 => ?_)
    · refine Cv.go (pc' := 56) (go_icmp_ge_t (tgt := 56) dX5_purseBehind_11 rfl h1) ?_
      refine Cv.go (pc' := 57) (go_iload_n (i := 3) (x := a3) dX5_purseBehind_56 rfl rfl) ?_
      exact Cv.ret dX5_purseBehind_57 rfl
    · refine Cv.go (pc' := 14) (go_icmp_ge_f 56 dX5_purseBehind_11 rfl h1) ?_
      refine Cv.go (pc' := 15) (go_aload_n (i := 0) (x := 0) dX5_purseBehind_14 rfl rfl) ?_
      refine Cv.go (pc' := 18) (go_getR (i := 1) cls5 (sx_k0 hS) (by decide) rfl lf_X5_11 (Or.inr ⟨_, rfl⟩) (sx_r0_1 hS) dX5_purseBehind_15) ?_
      refine Cv.go (pc' := 20) (go_iload (i := 4) (x := a4) dX5_purseBehind_18 rfl) ?_
      refine Cv.gif fun g2 => ?_
      refine Cv.go (pc' := 21) (go_aaload (t := 9) (t0 := 2) (sx_k1 hS) (by decide) (fun _ => rfl) g2 (sx_e1 hS (vp_lt g2)).1 dX5_purseBehind_20) ?_
      have hf3 := (sx_e1 hS (vp_lt g2)).2
      refine Cv.go (pc' := 24) (go_getI (i := 5) cls0 hf3 (by decide) rfl lf_X5_148 (by decide) dX5_purseBehind_21) ?_
      refine Cv.go (pc' := 25) (go_iload_n (i := 1) (x := a1) dX5_purseBehind_24 rfl rfl) ?_
      refine Cv.ite (fun h4 => ?_) (fun h4 => ?_)
      · refine Cv.go (pc' := 28) (go_icmp_ne_f 50 dX5_purseBehind_25 rfl h4) ?_
        refine Cv.go (pc' := 29) (go_aload_n (i := 0) (x := 0) dX5_purseBehind_28 rfl rfl) ?_
        refine Cv.go (pc' := 30) (go_aload_n (i := 0) (x := 0) dX5_purseBehind_29 rfl rfl) ?_
        refine Cv.go (pc' := 33) (go_getR (i := 1) cls5 (sx_k0 hS) (by decide) rfl lf_X5_11 (Or.inr ⟨_, rfl⟩) (sx_r0_1 hS) dX5_purseBehind_30) ?_
        refine Cv.go (pc' := 35) (go_iload (i := 4) (x := a4) dX5_purseBehind_33 rfl) ?_
        refine Cv.gif fun g5 => ?_
        refine Cv.go (pc' := 36) (go_aaload (t := 9) (t0 := 2) (sx_k1 hS) (by decide) (fun _ => rfl) g5 (sx_e1 hS (vp_lt g5)).1 dX5_purseBehind_35) ?_
        have hf6 := (sx_e1 hS (vp_lt g5)).2
        refine Cv.go (pc' := 37) (go_iload_n (i := 2) (x := a2) dX5_purseBehind_36 rfl rfl) ?_
        refine Cv.bnd fun v7 m8 e9 => ?_
        have C10 := kc_X5_isWholeBehind m (20 + a4.toNatClampNeg) a2 hS hf6 v7 m8 e9
        refine Cv.go (pc' := 40) (st' := [.int (bz v7)]) (go_callV (As := [.ref (20 + a4.toNatClampNeg), .int a2]) (st := []) C10 (by decide) ok_X5_isWholeBehind li_X5_isWholeBehind ls_X5_isWholeBehind lm_X5_128 cls5 (sx_k0 hS) rfl rfl (Nat.le_of_ble_eq_true rfl) dX5_purseBehind_37) ?_
        have zm8 := C10.1.2.2 rfl
        have hS := hS.sh zm8
        have hf3 := sk zm8 hf3
        have hf6 := sk zm8 hf6
        refine Cv.ite (fun h11 => ?_) (fun h11 => ?_)
        · refine Cv.go (pc' := 50) (go_if_eq_t (tgt := 50) dX5_purseBehind_40 rfl h11) ?_
          exact c_X5_purseBehind_50 (F_X5_purseBehind_5 n) ih m8 a1 a2 a3 a4 hS
        · refine Cv.go (pc' := 43) (go_if_eq_f 50 dX5_purseBehind_40 rfl h11) ?_
          refine Cv.go (pc' := 44) (go_iload_n (i := 3) (x := a3) dX5_purseBehind_43 rfl rfl) ?_
          refine Cv.go (pc' := 45) (go_iconst dX5_purseBehind_44 ic_1) ?_
          refine Cv.go (pc' := 47) (go_iload (i := 4) (x := a4) dX5_purseBehind_45 rfl) ?_
          refine Cv.go (pc' := 48) (go_ishl dX5_purseBehind_47) ?_
          refine Cv.go (pc' := 49) (go_ior dX5_purseBehind_48) ?_
          refine Cv.namI fun x12 ex12 => ?_
          refine Cv.go (pc' := 50) (ls' := [.ref 0, .int a1, .int a2, .int x12, .int a4]) (go_istore_n dX5_purseBehind_49 rfl (by decide) rfl) ?_
          exact c_X5_purseBehind_50 (F_X5_purseBehind_5 n) ih m8 a1 a2 x12 a4 hS
      · refine Cv.go (pc' := 50) (go_icmp_ne_t (tgt := 50) dX5_purseBehind_25 rfl h4) ?_
        exact c_X5_purseBehind_50 (F_X5_purseBehind_5 n) ih m a1 a2 a3 a4 hS
theorem kc_X5_purseBehind (m : Mem) (a1 : Int32) (a2 : Int32) (hS : ShX m) : ∀ v mE, F_X5_purseBehind m a1 a2 = some (v, mE) → Con true kX5_purseBehind 4 [.ref 0, .int a1, .int a2] m (eI v) mE := by
  refine Con.of (ini := false) (ls0 := [.ref 0, .int a1, .int a2, .null, .null]) (ri := .ireturn) (by decide) (by intro z; cases z) rfl (Nat.le_of_ble_eq_true rfl) (fun v mE _ => RetTy.i) ?_
  show Cv true (cX5_purseBehind, 5, RX5, 4, ((false, none) : IK)) .ireturn eI (F_X5_purseBehind m a1 a2) m 0 [.ref 0, .int a1, .int a2, .null, .null] []
  unfold F_X5_purseBehind
  refine Cv.go (pc' := 1) (go_iconst dX5_purseBehind_0 ic_0) ?_
  refine Cv.go (pc' := 2) (ls' := [.ref 0, .int a1, .int a2, .int (0 : Int32), .null]) (go_istore_n dX5_purseBehind_1 rfl (by decide) rfl) ?_
  refine Cv.go (pc' := 3) (go_iconst dX5_purseBehind_2 ic_0) ?_
  refine Cv.go (pc' := 5) (ls' := [.ref 0, .int a1, .int a2, .int (0 : Int32), .int (0 : Int32)]) (go_istore dX5_purseBehind_3 (by decide) rfl) ?_
  exact c_X5_purseBehind_5 FU m a1 a2 (0 : Int32) (0 : Int32) hS
theorem kc_X5_holds (m : Mem) (a0 : Int32) (a1 : Int32) : ∀ v mE, F_X5_holds m a0 a1 = some (v, mE) → Con true kX5_holds 0 [.int a0, .int a1] m (eZ v) mE := by
  refine Con.of (ini := false) (ls0 := [.int a0, .int a1]) (ri := .ireturn) (by decide) (by intro z; cases z) rfl (Nat.le_of_ble_eq_true rfl) (fun v mE _ => RetTy.z) ?_
  show Cv true (cX5_holds, 2, RX5, 0, ((false, none) : IK)) .ireturn eZ (F_X5_holds m a0 a1) m 0 [.int a0, .int a1] []
  unfold F_X5_holds
  refine Cv.go (pc' := 1) (go_iload_n (i := 0) (x := a0) dX5_holds_0 rfl rfl) ?_
  refine Cv.go (pc' := 2) (go_iload_n (i := 1) (x := a1) dX5_holds_1 rfl rfl) ?_
  refine Cv.go (pc' := 3) (go_ishr dX5_holds_2) ?_
  refine Cv.go (pc' := 4) (go_iconst dX5_holds_3 ic_1) ?_
  refine Cv.go (pc' := 5) (go_iand dX5_holds_4) ?_
  refine Cv.go (pc' := 6) (go_iconst dX5_holds_5 ic_1) ?_
  refine Cv.ite (fun h1 => ?_) (fun h1 => ?_)
  · refine Cv.go (pc' := 9) (go_icmp_ne_f 13 dX5_holds_6 rfl h1) ?_
    refine Cv.go (pc' := 10) (go_iconst dX5_holds_9 ic_1) ?_
    refine Cv.go (pc' := 14) (go_goto (tgt := 14) dX5_holds_10 rfl) ?_
    exact Cv.ret dX5_holds_14 rfl
  · refine Cv.go (pc' := 13) (go_icmp_ne_t (tgt := 13) dX5_holds_6 rfl h1) ?_
    refine Cv.go (pc' := 14) (go_iconst dX5_holds_13 ic_0) ?_
    exact Cv.ret dX5_holds_14 rfl
theorem c_X5_valuesOf_32 (K4 : Mem → Int32 → Int32 → Int32 → Option (Int32 × Mem)) (hK4 : ∀ (m : Mem) (a1 : Int32) (a2 : Int32) (a3 : Int32) (hS : ShX m), Cv true (cX5_valuesOf, 4, RX5, 1, ((false, none) : IK)) .ireturn eI (K4 m a1 a2 a3) m 4 [.ref 0, .int a1, .int a2, .int a3] []) : ∀ (m : Mem) (a1 : Int32) (a2 : Int32) (a3 : Int32) (hS : ShX m), Cv true (cX5_valuesOf, 4, RX5, 1, ((false, none) : IK)) .ireturn eI (F_X5_valuesOf_32 K4 m a1 a2 a3) m 32 [.ref 0, .int a1, .int a2, .int a3] [] := by
  intro m a1 a2 a3 hS
  unfold F_X5_valuesOf_32
  refine Cv.go (pc' := 35) (ls' := [.ref 0, .int a1, .int a2, .int (a3 + (1 : Int32))]) (go_iinc (x := a3) (v := a3 + (1 : Int32)) dX5_valuesOf_32 rfl rfl (by decide) rfl) ?_
  refine Cv.go (pc' := 4) (go_goto (tgt := 4) dX5_valuesOf_35 rfl) ?_
  exact hK4 m a1 a2 (a3 + (1 : Int32)) hS
theorem c_X5_valuesOf_4 : ∀ n, ∀ (m : Mem) (a1 : Int32) (a2 : Int32) (a3 : Int32) (hS : ShX m), Cv true (cX5_valuesOf, 4, RX5, 1, ((false, none) : IK)) .ireturn eI (F_X5_valuesOf_4 n m a1 a2 a3) m 4 [.ref 0, .int a1, .int a2, .int a3] [] := by
  intro n
  induction n with
  | zero => intro m a1 a2 a3 hS; exact Cv.no
  | succ n ih =>
    intro m a1 a2 a3 hS
    unfold F_X5_valuesOf_4
    refine Cv.go (pc' := 5) (go_iload_n (i := 3) (x := a3) dX5_valuesOf_4 rfl rfl) ?_
    refine Cv.go (pc' := 6) (go_aload_n (i := 0) (x := 0) dX5_valuesOf_5 rfl rfl) ?_
    refine Cv.go (pc' := 9) (go_getI (i := 2) cls5 (sx_k0 hS) (by decide) rfl lf_X5_103 (by decide) dX5_valuesOf_6) ?_
    refine Cv.ite (fun h1 => ?_) (fun h1 => ?_)
    · refine Cv.go (pc' := 38) (go_icmp_ge_t (tgt := 38) dX5_valuesOf_9 rfl h1) ?_
      refine Cv.go (pc' := 39) (go_iload_n (i := 2) (x := a2) dX5_valuesOf_38 rfl rfl) ?_
      exact Cv.ret dX5_valuesOf_39 rfl
    · refine Cv.go (pc' := 12) (go_icmp_ge_f 38 dX5_valuesOf_9 rfl h1) ?_
      refine Cv.go (pc' := 13) (go_iload_n (i := 1) (x := a1) dX5_valuesOf_12 rfl rfl) ?_
      refine Cv.go (pc' := 14) (go_iload_n (i := 3) (x := a3) dX5_valuesOf_13 rfl rfl) ?_
      refine Cv.bnd fun v2 m3 e4 => ?_
      have C5 := kc_X5_holds m a1 a3 v2 m3 e4
      refine Cv.go (pc' := 17) (st' := [.int (bz v2)]) (go_callS (As := [.int a1, .int a3]) (st := []) C5 (by decide) ok_X5_holds lt_X5_holds lm_X5_161 rfl rfl (Nat.le_of_ble_eq_true rfl) dX5_valuesOf_14) ?_
      have zm3 := C5.1.2.2 rfl
      have hS := hS.sh zm3
      refine Cv.ite (fun h6 => ?_) (fun h6 => ?_)
      · refine Cv.go (pc' := 32) (go_if_eq_t (tgt := 32) dX5_valuesOf_17 rfl h6) ?_
        exact c_X5_valuesOf_32 (F_X5_valuesOf_4 n) ih m3 a1 a2 a3 hS
      · refine Cv.go (pc' := 20) (go_if_eq_f 32 dX5_valuesOf_17 rfl h6) ?_
        refine Cv.go (pc' := 21) (go_iload_n (i := 2) (x := a2) dX5_valuesOf_20 rfl rfl) ?_
        refine Cv.go (pc' := 22) (go_aload_n (i := 0) (x := 0) dX5_valuesOf_21 rfl rfl) ?_
        refine Cv.go (pc' := 25) (go_getR (i := 1) cls5 (sx_k0 hS) (by decide) rfl lf_X5_11 (Or.inr ⟨_, rfl⟩) (sx_r0_1 hS) dX5_valuesOf_22) ?_
        refine Cv.go (pc' := 26) (go_iload_n (i := 3) (x := a3) dX5_valuesOf_25 rfl rfl) ?_
        refine Cv.gif fun g7 => ?_
        refine Cv.go (pc' := 27) (go_aaload (t := 9) (t0 := 2) (sx_k1 hS) (by decide) (fun _ => rfl) g7 (sx_e1 hS (vp_lt g7)).1 dX5_valuesOf_26) ?_
        have hf8 := (sx_e1 hS (vp_lt g7)).2
        refine Cv.go (pc' := 30) (go_getI (i := 2) cls0 hf8 (by decide) rfl lf_X5_314 (by decide) dX5_valuesOf_27) ?_
        refine Cv.go (pc' := 31) (go_iadd dX5_valuesOf_30) ?_
        refine Cv.namI fun x9 ex9 => ?_
        refine Cv.go (pc' := 32) (ls' := [.ref 0, .int a1, .int x9, .int a3]) (go_istore_n dX5_valuesOf_31 rfl (by decide) rfl) ?_
        exact c_X5_valuesOf_32 (F_X5_valuesOf_4 n) ih m3 a1 x9 a3 hS
theorem kc_X5_valuesOf (m : Mem) (a1 : Int32) (hS : ShX m) : ∀ v mE, F_X5_valuesOf m a1 = some (v, mE) → Con true kX5_valuesOf 1 [.ref 0, .int a1] m (eI v) mE := by
  refine Con.of (ini := false) (ls0 := [.ref 0, .int a1, .null, .null]) (ri := .ireturn) (by decide) (by intro z; cases z) rfl (Nat.le_of_ble_eq_true rfl) (fun v mE _ => RetTy.i) ?_
  show Cv true (cX5_valuesOf, 4, RX5, 1, ((false, none) : IK)) .ireturn eI (F_X5_valuesOf m a1) m 0 [.ref 0, .int a1, .null, .null] []
  unfold F_X5_valuesOf
  refine Cv.go (pc' := 1) (go_iconst dX5_valuesOf_0 ic_0) ?_
  refine Cv.go (pc' := 2) (ls' := [.ref 0, .int a1, .int (0 : Int32), .null]) (go_istore_n dX5_valuesOf_1 rfl (by decide) rfl) ?_
  refine Cv.go (pc' := 3) (go_iconst dX5_valuesOf_2 ic_0) ?_
  refine Cv.go (pc' := 4) (ls' := [.ref 0, .int a1, .int (0 : Int32), .int (0 : Int32)]) (go_istore_n dX5_valuesOf_3 rfl (by decide) rfl) ?_
  exact c_X5_valuesOf_4 FU m a1 (0 : Int32) (0 : Int32) hS
theorem kc_J6_bitCount_0f7a4 (m : Mem) (a0 : Int32) : ∀ v mE, F_J6_bitCount_0f7a4 m a0 = some (v, mE) → Con true kJ6_bitCount_0f7a4 0 [.int a0] m (eI v) mE := by
  refine Con.of (ini := false) (ls0 := [.int a0]) (ri := .ireturn) (by decide) (by intro z; cases z) rfl (Nat.le_of_ble_eq_true rfl) (fun v mE _ => RetTy.i) ?_
  show Cv true (cJ6_bitCount_0f7a4, 1, RJ6, 0, ((false, none) : IK)) .ireturn eI (F_J6_bitCount_0f7a4 m a0) m 0 [.int a0] []
  unfold F_J6_bitCount_0f7a4
  refine Cv.go (pc' := 1) (go_iload_n (i := 0) (x := a0) dJ6_bitCount_0f7a4_0 rfl rfl) ?_
  refine Cv.go (pc' := 2) (go_iload_n (i := 0) (x := a0) dJ6_bitCount_0f7a4_1 rfl rfl) ?_
  refine Cv.go (pc' := 3) (go_iconst dJ6_bitCount_0f7a4_2 ic_1) ?_
  refine Cv.go (pc' := 4) (go_iushr dJ6_bitCount_0f7a4_3) ?_
  refine Cv.go (pc' := 7) (go_ldcw dJ6_bitCount_0f7a4_4 lc_J6_265) ?_
  refine Cv.go (pc' := 8) (go_iand dJ6_bitCount_0f7a4_7) ?_
  refine Cv.go (pc' := 9) (go_isub dJ6_bitCount_0f7a4_8) ?_
  refine Cv.namI fun x1 ex1 => ?_
  refine Cv.go (pc' := 10) (ls' := [.int x1]) (go_istore_n dJ6_bitCount_0f7a4_9 rfl (by decide) rfl) ?_
  refine Cv.go (pc' := 11) (go_iload_n (i := 0) (x := x1) dJ6_bitCount_0f7a4_10 rfl rfl) ?_
  refine Cv.go (pc' := 14) (go_ldcw dJ6_bitCount_0f7a4_11 lc_J6_266) ?_
  refine Cv.go (pc' := 15) (go_iand dJ6_bitCount_0f7a4_14) ?_
  refine Cv.go (pc' := 16) (go_iload_n (i := 0) (x := x1) dJ6_bitCount_0f7a4_15 rfl rfl) ?_
  refine Cv.go (pc' := 17) (go_iconst dJ6_bitCount_0f7a4_16 ic_2) ?_
  refine Cv.go (pc' := 18) (go_iushr dJ6_bitCount_0f7a4_17) ?_
  refine Cv.go (pc' := 21) (go_ldcw dJ6_bitCount_0f7a4_18 lc_J6_266) ?_
  refine Cv.go (pc' := 22) (go_iand dJ6_bitCount_0f7a4_21) ?_
  refine Cv.go (pc' := 23) (go_iadd dJ6_bitCount_0f7a4_22) ?_
  refine Cv.namI fun x2 ex2 => ?_
  refine Cv.go (pc' := 24) (ls' := [.int x2]) (go_istore_n dJ6_bitCount_0f7a4_23 rfl (by decide) rfl) ?_
  refine Cv.go (pc' := 25) (go_iload_n (i := 0) (x := x2) dJ6_bitCount_0f7a4_24 rfl rfl) ?_
  refine Cv.go (pc' := 26) (go_iload_n (i := 0) (x := x2) dJ6_bitCount_0f7a4_25 rfl rfl) ?_
  refine Cv.go (pc' := 27) (go_iconst dJ6_bitCount_0f7a4_26 ic_4) ?_
  refine Cv.go (pc' := 28) (go_iushr dJ6_bitCount_0f7a4_27) ?_
  refine Cv.go (pc' := 29) (go_iadd dJ6_bitCount_0f7a4_28) ?_
  refine Cv.go (pc' := 32) (go_ldcw dJ6_bitCount_0f7a4_29 lc_J6_267) ?_
  refine Cv.go (pc' := 33) (go_iand dJ6_bitCount_0f7a4_32) ?_
  refine Cv.namI fun x3 ex3 => ?_
  refine Cv.go (pc' := 34) (ls' := [.int x3]) (go_istore_n dJ6_bitCount_0f7a4_33 rfl (by decide) rfl) ?_
  refine Cv.go (pc' := 35) (go_iload_n (i := 0) (x := x3) dJ6_bitCount_0f7a4_34 rfl rfl) ?_
  refine Cv.go (pc' := 36) (go_iload_n (i := 0) (x := x3) dJ6_bitCount_0f7a4_35 rfl rfl) ?_
  refine Cv.go (pc' := 38) (go_bipush dJ6_bitCount_0f7a4_36 ib_8) ?_
  refine Cv.go (pc' := 39) (go_iushr dJ6_bitCount_0f7a4_38) ?_
  refine Cv.go (pc' := 40) (go_iadd dJ6_bitCount_0f7a4_39) ?_
  refine Cv.namI fun x4 ex4 => ?_
  refine Cv.go (pc' := 41) (ls' := [.int x4]) (go_istore_n dJ6_bitCount_0f7a4_40 rfl (by decide) rfl) ?_
  refine Cv.go (pc' := 42) (go_iload_n (i := 0) (x := x4) dJ6_bitCount_0f7a4_41 rfl rfl) ?_
  refine Cv.go (pc' := 43) (go_iload_n (i := 0) (x := x4) dJ6_bitCount_0f7a4_42 rfl rfl) ?_
  refine Cv.go (pc' := 45) (go_bipush dJ6_bitCount_0f7a4_43 ib_16) ?_
  refine Cv.go (pc' := 46) (go_iushr dJ6_bitCount_0f7a4_45) ?_
  refine Cv.go (pc' := 47) (go_iadd dJ6_bitCount_0f7a4_46) ?_
  refine Cv.namI fun x5 ex5 => ?_
  refine Cv.go (pc' := 48) (ls' := [.int x5]) (go_istore_n dJ6_bitCount_0f7a4_47 rfl (by decide) rfl) ?_
  refine Cv.go (pc' := 49) (go_iload_n (i := 0) (x := x5) dJ6_bitCount_0f7a4_48 rfl rfl) ?_
  refine Cv.go (pc' := 51) (go_bipush dJ6_bitCount_0f7a4_49 ib_63) ?_
  refine Cv.go (pc' := 52) (go_iand dJ6_bitCount_0f7a4_51) ?_
  exact Cv.ret dJ6_bitCount_0f7a4_52 rfl
theorem c_X5_exactSet_63 (K13 : Mem → Int32 → Int32 → Int32 → Int32 → Option (Int32 × Mem)) (hK13 : ∀ (m : Mem) (a2 : Int32) (a3 : Int32) (a4 : Int32) (a5 : Int32) (hS : ShX m), Cv true (cX5_exactSet, 6, RX5, 5, ((false, none) : IK)) .ireturn eI (K13 m a2 a3 a4 a5) m 13 [.ref 0, .null, .int a2, .int a3, .int a4, .int a5] []) : ∀ (m : Mem) (a2 : Int32) (a3 : Int32) (a4 : Int32) (a5 : Int32) (hS : ShX m), Cv true (cX5_exactSet, 6, RX5, 5, ((false, none) : IK)) .ireturn eI (F_X5_exactSet_63 K13 m a2 a3 a4 a5) m 63 [.ref 0, .null, .int a2, .int a3, .int a4, .int a5] [] := by
  intro m a2 a3 a4 a5 hS
  unfold F_X5_exactSet_63
  refine Cv.go (pc' := 66) (ls' := [.ref 0, .null, .int a2, .int a3, .int a4, .int (a5 + (1 : Int32))]) (go_iinc (x := a5) (v := a5 + (1 : Int32)) dX5_exactSet_63 rfl rfl (by decide) rfl) ?_
  refine Cv.go (pc' := 13) (go_goto (tgt := 13) dX5_exactSet_66 rfl) ?_
  exact hK13 m a2 a3 a4 (a5 + (1 : Int32)) hS
theorem c_X5_exactSet_59 (K13 : Mem → Int32 → Int32 → Int32 → Int32 → Option (Int32 × Mem)) (hK13 : ∀ (m : Mem) (a2 : Int32) (a3 : Int32) (a4 : Int32) (a5 : Int32) (hS : ShX m), Cv true (cX5_exactSet, 6, RX5, 5, ((false, none) : IK)) .ireturn eI (K13 m a2 a3 a4 a5) m 13 [.ref 0, .null, .int a2, .int a3, .int a4, .int a5] []) : ∀ (m : Mem) (a2 : Int32) (a3 : Int32) (a5 : Int32) (hS : ShX m), Cv true (cX5_exactSet, 6, RX5, 5, ((false, none) : IK)) .ireturn eI (F_X5_exactSet_59 K13 m a2 a3 a5) m 59 [.ref 0, .null, .int a2, .int a3, .null, .int a5] [] := by
  intro m a2 a3 a5 hS
  unfold F_X5_exactSet_59
  refine Cv.go (pc' := 61) (go_iload (i := 5) (x := a5) dX5_exactSet_59 rfl) ?_
  refine Cv.go (pc' := 63) (ls' := [.ref 0, .null, .int a2, .int a3, .int a5, .int a5]) (go_istore dX5_exactSet_61 (by decide) rfl) ?_
  exact c_X5_exactSet_63 K13 hK13 m a2 a3 a5 a5 hS
theorem c_X5_exactSet_13 : ∀ n, ∀ (m : Mem) (a2 : Int32) (a3 : Int32) (a4 : Int32) (a5 : Int32) (hS : ShX m), Cv true (cX5_exactSet, 6, RX5, 5, ((false, none) : IK)) .ireturn eI (F_X5_exactSet_13 n m a2 a3 a4 a5) m 13 [.ref 0, .null, .int a2, .int a3, .int a4, .int a5] [] := by
  intro n
  induction n with
  | zero => intro m a2 a3 a4 a5 hS; exact Cv.no
  | succ n ih =>
    intro m a2 a3 a4 a5 hS
    unfold F_X5_exactSet_13
    refine Cv.go (pc' := 15) (go_iload (i := 5) (x := a5) dX5_exactSet_13 rfl) ?_
    refine Cv.go (pc' := 18) (go_sipush dX5_exactSet_15 is_256) ?_
    refine Cv.ite (fun h5 => ?_) (fun h5 => ?_)
    · refine Cv.go (pc' := 69) (go_icmp_ge_t (tgt := 69) dX5_exactSet_18 rfl h5) ?_
      refine Cv.go (pc' := 71) (go_iload (i := 4) (x := a4) dX5_exactSet_69 rfl) ?_
      exact Cv.ret dX5_exactSet_71 rfl
    · refine Cv.go (pc' := 21) (go_icmp_ge_f 69 dX5_exactSet_18 rfl h5) ?_
      refine Cv.go (pc' := 23) (go_iload (i := 5) (x := a5) dX5_exactSet_21 rfl) ?_
      refine Cv.go (pc' := 24) (go_iload_n (i := 3) (x := a3) dX5_exactSet_23 rfl rfl) ?_
      refine Cv.go (pc' := 25) (go_iconst dX5_exactSet_24 ic_n1) ?_
      refine Cv.go (pc' := 26) (go_ixor dX5_exactSet_25) ?_
      refine Cv.go (pc' := 27) (go_iand dX5_exactSet_26) ?_
      refine Cv.ite (fun h6 => ?_) (fun h6 => ?_)
      · refine Cv.go (pc' := 30) (go_if_ne_f 63 dX5_exactSet_27 rfl h6) ?_
        refine Cv.go (pc' := 31) (go_aload_n (i := 0) (x := 0) dX5_exactSet_30 rfl rfl) ?_
        refine Cv.go (pc' := 33) (go_iload (i := 5) (x := a5) dX5_exactSet_31 rfl) ?_
        refine Cv.bnd fun v7 m8 e9 => ?_
        have C10 := kc_X5_valuesOf m a5 hS v7 m8 e9
        refine Cv.go (pc' := 36) (st' := [.int v7]) (go_callV (As := [.int a5]) (st := []) C10 (by decide) ok_X5_valuesOf li_X5_valuesOf ls_X5_valuesOf lm_X5_175 cls5 (sx_k0 hS) rfl rfl (Nat.le_of_ble_eq_true rfl) dX5_exactSet_33) ?_
        have zm8 := C10.1.2.2 rfl
        have hS := hS.sh zm8
        refine Cv.go (pc' := 37) (go_iload_n (i := 2) (x := a2) dX5_exactSet_36 rfl rfl) ?_
        refine Cv.ite (fun h11 => ?_) (fun h11 => ?_)
        · refine Cv.go (pc' := 40) (go_icmp_ne_f 63 dX5_exactSet_37 rfl h11) ?_
          refine Cv.go (pc' := 42) (go_iload (i := 4) (x := a4) dX5_exactSet_40 rfl) ?_
          refine Cv.go (pc' := 43) (go_iconst dX5_exactSet_42 ic_n1) ?_
          refine Cv.ite (fun h12 => ?_) (fun h12 => ?_)
          · refine Cv.go (pc' := 59) (go_icmp_eq_t (tgt := 59) dX5_exactSet_43 rfl h12) ?_
            refine Cv.weak (ls' := [.ref 0, .null, .int a2, .int a3, .null, .int a5]) (⟨Or.inr rfl, ⟨Or.inr rfl, ⟨Or.inr rfl, ⟨Or.inr rfl, ⟨Or.inl rfl, ⟨Or.inr rfl, True.intro⟩⟩⟩⟩⟩⟩) ?_
            exact c_X5_exactSet_59 (F_X5_exactSet_13 n) ih m8 a2 a3 a5 hS
          · refine Cv.go (pc' := 46) (go_icmp_eq_f 59 dX5_exactSet_43 rfl h12) ?_
            refine Cv.go (pc' := 48) (go_iload (i := 5) (x := a5) dX5_exactSet_46 rfl) ?_
            refine Cv.bnd fun v13 m14 e15 => ?_
            have C16 := kc_J6_bitCount_0f7a4 m8 a5 v13 m14 e15
            refine Cv.go (pc' := 51) (st' := [.int v13]) (go_callS (As := [.int a5]) (st := []) C16 (by decide) ok_J6_bitCount_0f7a4 lt_J6_bitCount_0f7a4 lm_X5_164 rfl rfl (Nat.le_of_ble_eq_true rfl) dX5_exactSet_48) ?_
            have zm14 := C16.1.2.2 rfl
            have hS := hS.sh zm14
            refine Cv.go (pc' := 53) (go_iload (i := 4) (x := a4) dX5_exactSet_51 rfl) ?_
            refine Cv.bnd fun v17 m18 e19 => ?_
            have C20 := kc_J6_bitCount_0f7a4 m14 a4 v17 m18 e19
            refine Cv.go (pc' := 56) (st' := [.int v17, .int v13]) (go_callS (As := [.int a4]) (st := [.int v13]) C20 (by decide) ok_J6_bitCount_0f7a4 lt_J6_bitCount_0f7a4 lm_X5_164 rfl rfl (Nat.le_of_ble_eq_true rfl) dX5_exactSet_53) ?_
            have zm18 := C20.1.2.2 rfl
            have hS := hS.sh zm18
            refine Cv.ite (fun h21 => ?_) (fun h21 => ?_)
            · refine Cv.go (pc' := 63) (go_icmp_ge_t (tgt := 63) dX5_exactSet_56 rfl h21) ?_
              exact c_X5_exactSet_63 (F_X5_exactSet_13 n) ih m18 a2 a3 a4 a5 hS
            · refine Cv.go (pc' := 59) (go_icmp_ge_f 63 dX5_exactSet_56 rfl h21) ?_
              refine Cv.weak (ls' := [.ref 0, .null, .int a2, .int a3, .null, .int a5]) (⟨Or.inr rfl, ⟨Or.inr rfl, ⟨Or.inr rfl, ⟨Or.inr rfl, ⟨Or.inl rfl, ⟨Or.inr rfl, True.intro⟩⟩⟩⟩⟩⟩) ?_
              exact c_X5_exactSet_59 (F_X5_exactSet_13 n) ih m18 a2 a3 a5 hS
        · refine Cv.go (pc' := 63) (go_icmp_ne_t (tgt := 63) dX5_exactSet_37 rfl h11) ?_
          exact c_X5_exactSet_63 (F_X5_exactSet_13 n) ih m8 a2 a3 a4 a5 hS
      · refine Cv.go (pc' := 63) (go_if_ne_t (tgt := 63) dX5_exactSet_27 rfl h6) ?_
        exact c_X5_exactSet_63 (F_X5_exactSet_13 n) ih m a2 a3 a4 a5 hS
theorem kc_X5_exactSet (m : Mem) (a1 : Int32) (a2 : Int32) (hS : ShX m) : ∀ v mE, F_X5_exactSet m a1 a2 = some (v, mE) → Con true kX5_exactSet 5 [.ref 0, .int a1, .int a2] m (eI v) mE := by
  refine Con.of (ini := false) (ls0 := [.ref 0, .int a1, .int a2, .null, .null, .null]) (ri := .ireturn) (by decide) (by intro z; cases z) rfl (Nat.le_of_ble_eq_true rfl) (fun v mE _ => RetTy.i) ?_
  show Cv true (cX5_exactSet, 6, RX5, 5, ((false, none) : IK)) .ireturn eI (F_X5_exactSet m a1 a2) m 0 [.ref 0, .int a1, .int a2, .null, .null, .null] []
  unfold F_X5_exactSet
  refine Cv.go (pc' := 1) (go_aload_n (i := 0) (x := 0) dX5_exactSet_0 rfl rfl) ?_
  refine Cv.go (pc' := 2) (go_iload_n (i := 1) (x := a1) dX5_exactSet_1 rfl rfl) ?_
  refine Cv.go (pc' := 3) (go_iconst dX5_exactSet_2 ic_0) ?_
  refine Cv.bnd fun v1 m2 e3 => ?_
  have C4 := kc_X5_purseBehind m a1 (0 : Int32) hS v1 m2 e3
  refine Cv.go (pc' := 6) (st' := [.int v1]) (go_callV (As := [.int a1, .int (0 : Int32)]) (st := []) C4 (by decide) ok_X5_purseBehind li_X5_purseBehind ls_X5_purseBehind lm_X5_172 cls5 (sx_k0 hS) rfl rfl (Nat.le_of_ble_eq_true rfl) dX5_exactSet_3) ?_
  have zm2 := C4.1.2.2 rfl
  have hS := hS.sh zm2
  refine Cv.go (pc' := 7) (ls' := [.ref 0, .int a1, .int a2, .int v1, .null, .null]) (go_istore_n dX5_exactSet_6 rfl (by decide) rfl) ?_
  refine Cv.go (pc' := 8) (go_iconst dX5_exactSet_7 ic_n1) ?_
  refine Cv.go (pc' := 10) (ls' := [.ref 0, .int a1, .int a2, .int v1, .int (-1 : Int32), .null]) (go_istore dX5_exactSet_8 (by decide) rfl) ?_
  refine Cv.go (pc' := 11) (go_iconst dX5_exactSet_10 ic_0) ?_
  refine Cv.go (pc' := 13) (ls' := [.ref 0, .int a1, .int a2, .int v1, .int (-1 : Int32), .int (0 : Int32)]) (go_istore dX5_exactSet_11 (by decide) rfl) ?_
  refine Cv.weak (ls' := [.ref 0, .null, .int a2, .int v1, .int (-1 : Int32), .int (0 : Int32)]) (⟨Or.inr rfl, ⟨Or.inl rfl, ⟨Or.inr rfl, ⟨Or.inr rfl, ⟨Or.inr rfl, ⟨Or.inr rfl, True.intro⟩⟩⟩⟩⟩⟩) ?_
  exact c_X5_exactSet_13 FU m2 a2 v1 (-1 : Int32) (0 : Int32) hS
theorem c_X5_buy_72 (K42 : Mem → Int32 → Int32 → Int32 → Option (Int32 × Mem)) (hK42 : ∀ (m : Mem) (a2 : Int32) (a4 : Int32) (a5 : Int32) (hS : ShX m), Cv true (cX5_buy, 6, RX5, 6, ((false, none) : IK)) .ireturn eI (K42 m a2 a4 a5) m 42 [.ref 0, .null, .int a2, .null, .int a4, .int a5] []) : ∀ (m : Mem) (a2 : Int32) (a4 : Int32) (a5 : Int32) (hS : ShX m), Cv true (cX5_buy, 6, RX5, 6, ((false, none) : IK)) .ireturn eI (F_X5_buy_72 K42 m a2 a4 a5) m 72 [.ref 0, .null, .int a2, .null, .int a4, .int a5] [] := by
  intro m a2 a4 a5 hS
  unfold F_X5_buy_72
  refine Cv.go (pc' := 75) (ls' := [.ref 0, .null, .int a2, .null, .int a4, .int (a5 + (1 : Int32))]) (go_iinc (x := a5) (v := a5 + (1 : Int32)) dX5_buy_72 rfl rfl (by decide) rfl) ?_
  refine Cv.go (pc' := 42) (go_goto (tgt := 42) dX5_buy_75 rfl) ?_
  exact hK42 m a2 a4 (a5 + (1 : Int32)) hS
theorem c_X5_buy_42 : ∀ n, ∀ (m : Mem) (a2 : Int32) (a4 : Int32) (a5 : Int32) (hS : ShX m), Cv true (cX5_buy, 6, RX5, 6, ((false, none) : IK)) .ireturn eI (F_X5_buy_42 n m a2 a4 a5) m 42 [.ref 0, .null, .int a2, .null, .int a4, .int a5] [] := by
  intro n
  induction n with
  | zero => intro m a2 a4 a5 hS; exact Cv.no
  | succ n ih =>
    intro m a2 a4 a5 hS
    unfold F_X5_buy_42
    refine Cv.go (pc' := 44) (go_iload (i := 5) (x := a5) dX5_buy_42 rfl) ?_
    refine Cv.go (pc' := 45) (go_aload_n (i := 0) (x := 0) dX5_buy_44 rfl rfl) ?_
    refine Cv.go (pc' := 48) (go_getI (i := 2) cls5 (sx_k0 hS) (by decide) rfl lf_X5_103 (by decide) dX5_buy_45) ?_
    refine Cv.ite (fun h16 => ?_) (fun h16 => ?_)
    · refine Cv.go (pc' := 78) (go_icmp_ge_t (tgt := 78) dX5_buy_48 rfl h16) ?_
      refine Cv.go (pc' := 80) (go_iload (i := 4) (x := a4) dX5_buy_78 rfl) ?_
      refine Cv.bnd fun v17 m18 e19 => ?_
      have C20 := kc_J6_bitCount_0f7a4 m a4 v17 m18 e19
      refine Cv.go (pc' := 83) (st' := [.int v17]) (go_callS (As := [.int a4]) (st := []) C20 (by decide) ok_J6_bitCount_0f7a4 lt_J6_bitCount_0f7a4 lm_X5_164 rfl rfl (Nat.le_of_ble_eq_true rfl) dX5_buy_80) ?_
      have zm18 := C20.1.2.2 rfl
      have hS := hS.sh zm18
      exact Cv.ret dX5_buy_83 rfl
    · refine Cv.go (pc' := 51) (go_icmp_ge_f 78 dX5_buy_48 rfl h16) ?_
      refine Cv.go (pc' := 53) (go_iload (i := 4) (x := a4) dX5_buy_51 rfl) ?_
      refine Cv.go (pc' := 55) (go_iload (i := 5) (x := a5) dX5_buy_53 rfl) ?_
      refine Cv.bnd fun v21 m22 e23 => ?_
      have C24 := kc_X5_holds m a4 a5 v21 m22 e23
      refine Cv.go (pc' := 58) (st' := [.int (bz v21)]) (go_callS (As := [.int a4, .int a5]) (st := []) C24 (by decide) ok_X5_holds lt_X5_holds lm_X5_161 rfl rfl (Nat.le_of_ble_eq_true rfl) dX5_buy_55) ?_
      have zm22 := C24.1.2.2 rfl
      have hS := hS.sh zm22
      refine Cv.ite (fun h25 => ?_) (fun h25 => ?_)
      · refine Cv.go (pc' := 72) (go_if_eq_t (tgt := 72) dX5_buy_58 rfl h25) ?_
        exact c_X5_buy_72 (F_X5_buy_42 n) ih m22 a2 a4 a5 hS
      · refine Cv.go (pc' := 61) (go_if_eq_f 72 dX5_buy_58 rfl h25) ?_
        refine Cv.go (pc' := 62) (go_aload_n (i := 0) (x := 0) dX5_buy_61 rfl rfl) ?_
        refine Cv.go (pc' := 65) (go_getR (i := 1) cls5 (sx_k0 hS) (by decide) rfl lf_X5_11 (Or.inr ⟨_, rfl⟩) (sx_r0_1 hS) dX5_buy_62) ?_
        refine Cv.go (pc' := 67) (go_iload (i := 5) (x := a5) dX5_buy_65 rfl) ?_
        refine Cv.gif fun g26 => ?_
        refine Cv.go (pc' := 68) (go_aaload (t := 9) (t0 := 2) (sx_k1 hS) (by decide) (fun _ => rfl) g26 (sx_e1 hS (vp_lt g26)).1 dX5_buy_67) ?_
        have hf27 := (sx_e1 hS (vp_lt g26)).2
        refine Cv.go (pc' := 69) (go_iload_n (i := 2) (x := a2) dX5_buy_68 rfl rfl) ?_
        refine Cv.bnd fun v28 m29 e30 => ?_
        have C31 := kc_X0_goTo m22 (20 + a5.toNatClampNeg) a2 hf27 v28 m29 e30
        refine Cv.go (pc' := 72) (st' := []) (go_callV (As := [.int a2]) (st := []) C31 (by decide) ok_X0_goTo li_X0_goTo ls_X0_goTo lm_X5_151 cls0 hf27 rfl rfl (Nat.le_of_ble_eq_true rfl) dX5_buy_69) ?_
        have zm29 := C31.1.2.2 rfl
        have hS := hS.sh zm29
        have hf27 := sk zm29 hf27
        exact c_X5_buy_72 (F_X5_buy_42 n) ih m29 a2 a4 a5 hS
theorem kc_X5_buy (m : Mem) (a1 : Int32) (a2 : Int32) (a3 : Int32) (hS : ShX m) : ∀ v mE, F_X5_buy m a1 a2 a3 = some (v, mE) → Con true kX5_buy 6 [.ref 0, .int a1, .int a2, .int a3] m (eI v) mE := by
  refine Con.of (ini := false) (ls0 := [.ref 0, .int a1, .int a2, .int a3, .null, .null]) (ri := .ireturn) (by decide) (by intro z; cases z) rfl (Nat.le_of_ble_eq_true rfl) (fun v mE _ => RetTy.i) ?_
  show Cv true (cX5_buy, 6, RX5, 6, ((false, none) : IK)) .ireturn eI (F_X5_buy m a1 a2 a3) m 0 [.ref 0, .int a1, .int a2, .int a3, .null, .null] []
  unfold F_X5_buy
  refine Cv.go (pc' := 1) (go_iload_n (i := 1) (x := a1) dX5_buy_0 rfl rfl) ?_
  refine Cv.go (pc' := 2) (go_iload_n (i := 2) (x := a2) dX5_buy_1 rfl rfl) ?_
  refine Cv.bnd fun v1 m2 e3 => ?_
  have C4 := kc_X5_areTwoOwners m a1 a2 v1 m2 e3
  refine Cv.go (pc' := 5) (st' := [.int (bz v1)]) (go_callS (As := [.int a1, .int a2]) (st := []) C4 (by decide) ok_X5_areTwoOwners lt_X5_areTwoOwners lm_X5_154 rfl rfl (Nat.le_of_ble_eq_true rfl) dX5_buy_2) ?_
  have zm2 := C4.1.2.2 rfl
  have hS := hS.sh zm2
  refine Cv.ite (fun h5 => ?_) (fun h5 => ?_)
  · refine Cv.go (pc' := 19) (go_if_eq_t (tgt := 19) dX5_buy_5 rfl h5) ?_
    refine Cv.go (pc' := 21) (go_bipush dX5_buy_19 ib_n2) ?_
    exact Cv.ret dX5_buy_21 rfl
  · refine Cv.go (pc' := 8) (go_if_eq_f 19 dX5_buy_5 rfl h5) ?_
    refine Cv.go (pc' := 9) (go_iload_n (i := 3) (x := a3) dX5_buy_8 rfl rfl) ?_
    refine Cv.go (pc' := 10) (go_iconst dX5_buy_9 ic_0) ?_
    refine Cv.go (pc' := 13) (go_sipush dX5_buy_10 is_999) ?_
    refine Cv.bnd fun v6 m7 e8 => ?_
    have C9 := kc_X5_isBetween m2 a3 (0 : Int32) (999 : Int32) v6 m7 e8
    refine Cv.go (pc' := 16) (st' := [.int (bz v6)]) (go_callS (As := [.int a3, .int (0 : Int32), .int (999 : Int32)]) (st := []) C9 (by decide) ok_X5_isBetween lt_X5_isBetween lm_X5_73 rfl rfl (Nat.le_of_ble_eq_true rfl) dX5_buy_13) ?_
    have zm7 := C9.1.2.2 rfl
    have hS := hS.sh zm7
    refine Cv.ite (fun h10 => ?_) (fun h10 => ?_)
    · refine Cv.go (pc' := 19) (go_if_ne_f 22 dX5_buy_16 rfl h10) ?_
      refine Cv.go (pc' := 21) (go_bipush dX5_buy_19 ib_n2) ?_
      exact Cv.ret dX5_buy_21 rfl
    · refine Cv.go (pc' := 22) (go_if_ne_t (tgt := 22) dX5_buy_16 rfl h10) ?_
      refine Cv.go (pc' := 23) (go_aload_n (i := 0) (x := 0) dX5_buy_22 rfl rfl) ?_
      refine Cv.go (pc' := 24) (go_iload_n (i := 1) (x := a1) dX5_buy_23 rfl rfl) ?_
      refine Cv.go (pc' := 25) (go_iload_n (i := 3) (x := a3) dX5_buy_24 rfl rfl) ?_
      refine Cv.bnd fun v11 m12 e13 => ?_
      have C14 := kc_X5_exactSet m7 a1 a3 hS v11 m12 e13
      refine Cv.go (pc' := 28) (st' := [.int v11]) (go_callV (As := [.int a1, .int a3]) (st := []) C14 (by decide) ok_X5_exactSet li_X5_exactSet ls_X5_exactSet lm_X5_157 cls5 (sx_k0 hS) rfl rfl (Nat.le_of_ble_eq_true rfl) dX5_buy_25) ?_
      have zm12 := C14.1.2.2 rfl
      have hS := hS.sh zm12
      refine Cv.go (pc' := 30) (ls' := [.ref 0, .int a1, .int a2, .int a3, .int v11, .null]) (go_istore dX5_buy_28 (by decide) rfl) ?_
      refine Cv.go (pc' := 32) (go_iload (i := 4) (x := v11) dX5_buy_30 rfl) ?_
      refine Cv.go (pc' := 33) (go_iconst dX5_buy_32 ic_n1) ?_
      refine Cv.ite (fun h15 => ?_) (fun h15 => ?_)
      · refine Cv.go (pc' := 36) (go_icmp_ne_f 39 dX5_buy_33 rfl h15) ?_
        refine Cv.go (pc' := 38) (go_bipush dX5_buy_36 ib_n3) ?_
        exact Cv.ret dX5_buy_38 rfl
      · refine Cv.go (pc' := 39) (go_icmp_ne_t (tgt := 39) dX5_buy_33 rfl h15) ?_
        refine Cv.go (pc' := 40) (go_iconst dX5_buy_39 ic_0) ?_
        refine Cv.go (pc' := 42) (ls' := [.ref 0, .int a1, .int a2, .int a3, .int v11, .int (0 : Int32)]) (go_istore dX5_buy_40 (by decide) rfl) ?_
        refine Cv.weak (ls' := [.ref 0, .null, .int a2, .null, .int v11, .int (0 : Int32)]) (⟨Or.inr rfl, ⟨Or.inl rfl, ⟨Or.inr rfl, ⟨Or.inl rfl, ⟨Or.inr rfl, ⟨Or.inr rfl, True.intro⟩⟩⟩⟩⟩⟩) ?_
        exact c_X5_buy_42 FU m12 a2 v11 (0 : Int32) hS
theorem c_X5_richBehind_43 (K5 : Mem → Int32 → Int32 → Int32 → Int32 → Option (Int32 × Mem)) (hK5 : ∀ (m : Mem) (a1 : Int32) (a2 : Int32) (a3 : Int32) (a4 : Int32) (hS : ShX m), Cv true (cX5_richBehind, 5, RX5, 5, ((false, none) : IK)) .ireturn eI (K5 m a1 a2 a3 a4) m 5 [.ref 0, .int a1, .int a2, .int a3, .int a4] []) : ∀ (m : Mem) (a1 : Int32) (a2 : Int32) (a3 : Int32) (a4 : Int32) (hS : ShX m), Cv true (cX5_richBehind, 5, RX5, 5, ((false, none) : IK)) .ireturn eI (F_X5_richBehind_43 K5 m a1 a2 a3 a4) m 43 [.ref 0, .int a1, .int a2, .int a3, .int a4] [] := by
  intro m a1 a2 a3 a4 hS
  unfold F_X5_richBehind_43
  refine Cv.go (pc' := 46) (ls' := [.ref 0, .int a1, .int a2, .int a3, .int (a4 + (1 : Int32))]) (go_iinc (x := a4) (v := a4 + (1 : Int32)) dX5_richBehind_43 rfl rfl (by decide) rfl) ?_
  refine Cv.go (pc' := 5) (go_goto (tgt := 5) dX5_richBehind_46 rfl) ?_
  exact hK5 m a1 a2 a3 (a4 + (1 : Int32)) hS
theorem c_X5_richBehind_5 : ∀ n, ∀ (m : Mem) (a1 : Int32) (a2 : Int32) (a3 : Int32) (a4 : Int32) (hS : ShX m), Cv true (cX5_richBehind, 5, RX5, 5, ((false, none) : IK)) .ireturn eI (F_X5_richBehind_5 n m a1 a2 a3 a4) m 5 [.ref 0, .int a1, .int a2, .int a3, .int a4] [] := by
  intro n
  induction n with
  | zero => intro m a1 a2 a3 a4 hS; exact Cv.no
  | succ n ih =>
    intro m a1 a2 a3 a4 hS
    unfold F_X5_richBehind_5
    refine Cv.go (pc' := 7) (go_iload (i := 4) (x := a4) dX5_richBehind_5 rfl) ?_
    refine Cv.go (pc' := 8) (go_aload_n (i := 0) (x := 0) dX5_richBehind_7 rfl rfl) ?_
    refine Cv.go (pc' := 11) (go_getI (i := 2) cls5 (sx_k0 hS) (by decide) rfl lf_X5_103 (by decide) dX5_richBehind_8) ?_
    refine Cv.ite (fun h1 => ?_) (fun h1 => ?_)
    · refine Cv.go (pc' := 49) (go_icmp_ge_t (tgt := 49) dX5_richBehind_11 rfl h1) ?_
      refine Cv.go (pc' := 50) (go_iload_n (i := 3) (x := a3) dX5_richBehind_49 rfl rfl) ?_
      exact Cv.ret dX5_richBehind_50 rfl
    · refine Cv.go (pc' := 14) (go_icmp_ge_f 49 dX5_richBehind_11 rfl h1) ?_
      refine Cv.go (pc' := 15) (go_aload_n (i := 0) (x := 0) dX5_richBehind_14 rfl rfl) ?_
      refine Cv.go (pc' := 18) (go_getR (i := 1) cls5 (sx_k0 hS) (by decide) rfl lf_X5_11 (Or.inr ⟨_, rfl⟩) (sx_r0_1 hS) dX5_richBehind_15) ?_
      refine Cv.go (pc' := 20) (go_iload (i := 4) (x := a4) dX5_richBehind_18 rfl) ?_
      refine Cv.gif fun g2 => ?_
      refine Cv.go (pc' := 21) (go_aaload (t := 9) (t0 := 2) (sx_k1 hS) (by decide) (fun _ => rfl) g2 (sx_e1 hS (vp_lt g2)).1 dX5_richBehind_20) ?_
      have hf3 := (sx_e1 hS (vp_lt g2)).2
      refine Cv.go (pc' := 24) (go_getI (i := 5) cls0 hf3 (by decide) rfl lf_X5_148 (by decide) dX5_richBehind_21) ?_
      refine Cv.go (pc' := 25) (go_iload_n (i := 1) (x := a1) dX5_richBehind_24 rfl rfl) ?_
      refine Cv.ite (fun h4 => ?_) (fun h4 => ?_)
      · refine Cv.go (pc' := 28) (go_icmp_ne_f 43 dX5_richBehind_25 rfl h4) ?_
        refine Cv.go (pc' := 29) (go_iload_n (i := 3) (x := a3) dX5_richBehind_28 rfl rfl) ?_
        refine Cv.go (pc' := 30) (go_aload_n (i := 0) (x := 0) dX5_richBehind_29 rfl rfl) ?_
        refine Cv.go (pc' := 31) (go_aload_n (i := 0) (x := 0) dX5_richBehind_30 rfl rfl) ?_
        refine Cv.go (pc' := 34) (go_getR (i := 1) cls5 (sx_k0 hS) (by decide) rfl lf_X5_11 (Or.inr ⟨_, rfl⟩) (sx_r0_1 hS) dX5_richBehind_31) ?_
        refine Cv.go (pc' := 36) (go_iload (i := 4) (x := a4) dX5_richBehind_34 rfl) ?_
        refine Cv.gif fun g5 => ?_
        refine Cv.go (pc' := 37) (go_aaload (t := 9) (t0 := 2) (sx_k1 hS) (by decide) (fun _ => rfl) g5 (sx_e1 hS (vp_lt g5)).1 dX5_richBehind_36) ?_
        have hf6 := (sx_e1 hS (vp_lt g5)).2
        refine Cv.go (pc' := 38) (go_iload_n (i := 2) (x := a2) dX5_richBehind_37 rfl rfl) ?_
        refine Cv.bnd fun v7 m8 e9 => ?_
        have C10 := kc_X5_worthBehind m (20 + a4.toNatClampNeg) a2 hS hf6 v7 m8 e9
        refine Cv.go (pc' := 41) (st' := [.int v7, .int a3]) (go_callV (As := [.ref (20 + a4.toNatClampNeg), .int a2]) (st := [.int a3]) C10 (by decide) ok_X5_worthBehind li_X5_worthBehind ls_X5_worthBehind lm_X5_132 cls5 (sx_k0 hS) rfl rfl (Nat.le_of_ble_eq_true rfl) dX5_richBehind_38) ?_
        have zm8 := C10.1.2.2 rfl
        have hS := hS.sh zm8
        have hf3 := sk zm8 hf3
        have hf6 := sk zm8 hf6
        refine Cv.go (pc' := 42) (go_iadd dX5_richBehind_41) ?_
        refine Cv.namI fun x11 ex11 => ?_
        refine Cv.go (pc' := 43) (ls' := [.ref 0, .int a1, .int a2, .int x11, .int a4]) (go_istore_n dX5_richBehind_42 rfl (by decide) rfl) ?_
        exact c_X5_richBehind_43 (F_X5_richBehind_5 n) ih m8 a1 a2 x11 a4 hS
      · refine Cv.go (pc' := 43) (go_icmp_ne_t (tgt := 43) dX5_richBehind_25 rfl h4) ?_
        exact c_X5_richBehind_43 (F_X5_richBehind_5 n) ih m a1 a2 a3 a4 hS
theorem kc_X5_richBehind (m : Mem) (a1 : Int32) (a2 : Int32) (hS : ShX m) : ∀ v mE, F_X5_richBehind m a1 a2 = some (v, mE) → Con true kX5_richBehind 5 [.ref 0, .int a1, .int a2] m (eI v) mE := by
  refine Con.of (ini := false) (ls0 := [.ref 0, .int a1, .int a2, .null, .null]) (ri := .ireturn) (by decide) (by intro z; cases z) rfl (Nat.le_of_ble_eq_true rfl) (fun v mE _ => RetTy.i) ?_
  show Cv true (cX5_richBehind, 5, RX5, 5, ((false, none) : IK)) .ireturn eI (F_X5_richBehind m a1 a2) m 0 [.ref 0, .int a1, .int a2, .null, .null] []
  unfold F_X5_richBehind
  refine Cv.go (pc' := 1) (go_iconst dX5_richBehind_0 ic_0) ?_
  refine Cv.go (pc' := 2) (ls' := [.ref 0, .int a1, .int a2, .int (0 : Int32), .null]) (go_istore_n dX5_richBehind_1 rfl (by decide) rfl) ?_
  refine Cv.go (pc' := 3) (go_iconst dX5_richBehind_2 ic_0) ?_
  refine Cv.go (pc' := 5) (ls' := [.ref 0, .int a1, .int a2, .int (0 : Int32), .int (0 : Int32)]) (go_istore dX5_richBehind_3 (by decide) rfl) ?_
  exact c_X5_richBehind_5 FU m a1 a2 (0 : Int32) (0 : Int32) hS
theorem c_X5_coinsOf_31 (K4 : Mem → Int32 → Int32 → Int32 → Option (Int32 × Mem)) (hK4 : ∀ (m : Mem) (a1 : Int32) (a2 : Int32) (a3 : Int32) (hS : ShX m), Cv true (cX5_coinsOf, 4, RX5, 0, ((false, none) : IK)) .ireturn eI (K4 m a1 a2 a3) m 4 [.ref 0, .int a1, .int a2, .int a3] []) : ∀ (m : Mem) (a1 : Int32) (a2 : Int32) (a3 : Int32) (hS : ShX m), Cv true (cX5_coinsOf, 4, RX5, 0, ((false, none) : IK)) .ireturn eI (F_X5_coinsOf_31 K4 m a1 a2 a3) m 31 [.ref 0, .int a1, .int a2, .int a3] [] := by
  intro m a1 a2 a3 hS
  unfold F_X5_coinsOf_31
  refine Cv.go (pc' := 34) (ls' := [.ref 0, .int a1, .int a2, .int (a3 + (1 : Int32))]) (go_iinc (x := a3) (v := a3 + (1 : Int32)) dX5_coinsOf_31 rfl rfl (by decide) rfl) ?_
  refine Cv.go (pc' := 4) (go_goto (tgt := 4) dX5_coinsOf_34 rfl) ?_
  exact hK4 m a1 a2 (a3 + (1 : Int32)) hS
theorem c_X5_coinsOf_4 : ∀ n, ∀ (m : Mem) (a1 : Int32) (a2 : Int32) (a3 : Int32) (hS : ShX m), Cv true (cX5_coinsOf, 4, RX5, 0, ((false, none) : IK)) .ireturn eI (F_X5_coinsOf_4 n m a1 a2 a3) m 4 [.ref 0, .int a1, .int a2, .int a3] [] := by
  intro n
  induction n with
  | zero => intro m a1 a2 a3 hS; exact Cv.no
  | succ n ih =>
    intro m a1 a2 a3 hS
    unfold F_X5_coinsOf_4
    refine Cv.go (pc' := 5) (go_iload_n (i := 3) (x := a3) dX5_coinsOf_4 rfl rfl) ?_
    refine Cv.go (pc' := 6) (go_aload_n (i := 0) (x := 0) dX5_coinsOf_5 rfl rfl) ?_
    refine Cv.go (pc' := 9) (go_getI (i := 2) cls5 (sx_k0 hS) (by decide) rfl lf_X5_103 (by decide) dX5_coinsOf_6) ?_
    refine Cv.ite (fun h1 => ?_) (fun h1 => ?_)
    · refine Cv.go (pc' := 37) (go_icmp_ge_t (tgt := 37) dX5_coinsOf_9 rfl h1) ?_
      refine Cv.go (pc' := 38) (go_iload_n (i := 2) (x := a2) dX5_coinsOf_37 rfl rfl) ?_
      exact Cv.ret dX5_coinsOf_38 rfl
    · refine Cv.go (pc' := 12) (go_icmp_ge_f 37 dX5_coinsOf_9 rfl h1) ?_
      refine Cv.go (pc' := 13) (go_aload_n (i := 0) (x := 0) dX5_coinsOf_12 rfl rfl) ?_
      refine Cv.go (pc' := 16) (go_getR (i := 1) cls5 (sx_k0 hS) (by decide) rfl lf_X5_11 (Or.inr ⟨_, rfl⟩) (sx_r0_1 hS) dX5_coinsOf_13) ?_
      refine Cv.go (pc' := 17) (go_iload_n (i := 3) (x := a3) dX5_coinsOf_16 rfl rfl) ?_
      refine Cv.gif fun g2 => ?_
      refine Cv.go (pc' := 18) (go_aaload (t := 9) (t0 := 2) (sx_k1 hS) (by decide) (fun _ => rfl) g2 (sx_e1 hS (vp_lt g2)).1 dX5_coinsOf_17) ?_
      have hf3 := (sx_e1 hS (vp_lt g2)).2
      refine Cv.go (pc' := 21) (go_getI (i := 5) cls0 hf3 (by decide) rfl lf_X5_148 (by decide) dX5_coinsOf_18) ?_
      refine Cv.go (pc' := 22) (go_iload_n (i := 1) (x := a1) dX5_coinsOf_21 rfl rfl) ?_
      refine Cv.ite (fun h4 => ?_) (fun h4 => ?_)
      · refine Cv.go (pc' := 25) (go_icmp_ne_f 31 dX5_coinsOf_22 rfl h4) ?_
        refine Cv.go (pc' := 26) (go_iload_n (i := 2) (x := a2) dX5_coinsOf_25 rfl rfl) ?_
        refine Cv.go (pc' := 27) (go_iconst dX5_coinsOf_26 ic_1) ?_
        refine Cv.go (pc' := 28) (go_iload_n (i := 3) (x := a3) dX5_coinsOf_27 rfl rfl) ?_
        refine Cv.go (pc' := 29) (go_ishl dX5_coinsOf_28) ?_
        refine Cv.go (pc' := 30) (go_ior dX5_coinsOf_29) ?_
        refine Cv.namI fun x5 ex5 => ?_
        refine Cv.go (pc' := 31) (ls' := [.ref 0, .int a1, .int x5, .int a3]) (go_istore_n dX5_coinsOf_30 rfl (by decide) rfl) ?_
        exact c_X5_coinsOf_31 (F_X5_coinsOf_4 n) ih m a1 x5 a3 hS
      · refine Cv.go (pc' := 31) (go_icmp_ne_t (tgt := 31) dX5_coinsOf_22 rfl h4) ?_
        exact c_X5_coinsOf_31 (F_X5_coinsOf_4 n) ih m a1 a2 a3 hS
theorem kc_X5_coinsOf (m : Mem) (a1 : Int32) (hS : ShX m) : ∀ v mE, F_X5_coinsOf m a1 = some (v, mE) → Con true kX5_coinsOf 0 [.ref 0, .int a1] m (eI v) mE := by
  refine Con.of (ini := false) (ls0 := [.ref 0, .int a1, .null, .null]) (ri := .ireturn) (by decide) (by intro z; cases z) rfl (Nat.le_of_ble_eq_true rfl) (fun v mE _ => RetTy.i) ?_
  show Cv true (cX5_coinsOf, 4, RX5, 0, ((false, none) : IK)) .ireturn eI (F_X5_coinsOf m a1) m 0 [.ref 0, .int a1, .null, .null] []
  unfold F_X5_coinsOf
  refine Cv.go (pc' := 1) (go_iconst dX5_coinsOf_0 ic_0) ?_
  refine Cv.go (pc' := 2) (ls' := [.ref 0, .int a1, .int (0 : Int32), .null]) (go_istore_n dX5_coinsOf_1 rfl (by decide) rfl) ?_
  refine Cv.go (pc' := 3) (go_iconst dX5_coinsOf_2 ic_0) ?_
  refine Cv.go (pc' := 4) (ls' := [.ref 0, .int a1, .int (0 : Int32), .int (0 : Int32)]) (go_istore_n dX5_coinsOf_3 rfl (by decide) rfl) ?_
  exact c_X5_coinsOf_4 FU m a1 (0 : Int32) (0 : Int32) hS
theorem c_X5_toSpend_93 (K15 : Mem → Int32 → Int32 → Int32 → Int32 → Option (Int32 × Mem)) (hK15 : ∀ (m : Mem) (a2 : Int32) (a3 : Int32) (a4 : Int32) (a5 : Int32) (hS : ShX m), Cv true (cX5_toSpend, 7, RX5, 5, ((false, none) : IK)) .ireturn eI (K15 m a2 a3 a4 a5) m 15 [.ref 0, .null, .int a2, .int a3, .int a4, .int a5, .null] []) : ∀ (m : Mem) (a2 : Int32) (a3 : Int32) (a4 : Int32) (a5 : Int32) (hS : ShX m), Cv true (cX5_toSpend, 7, RX5, 5, ((false, none) : IK)) .ireturn eI (F_X5_toSpend_93 K15 m a2 a3 a4 a5) m 93 [.ref 0, .null, .int a2, .int a3, .int a4, .int a5, .null] [] := by
  intro m a2 a3 a4 a5 hS
  unfold F_X5_toSpend_93
  refine Cv.go (pc' := 96) (ls' := [.ref 0, .null, .int a2, .int a3, .int a4, .int (a5 + (1 : Int32)), .null]) (go_iinc (x := a5) (v := a5 + (1 : Int32)) dX5_toSpend_93 rfl rfl (by decide) rfl) ?_
  refine Cv.go (pc' := 15) (go_goto (tgt := 15) dX5_toSpend_96 rfl) ?_
  exact hK15 m a2 a3 a4 (a5 + (1 : Int32)) hS
theorem c_X5_toSpend_86 (K15 : Mem → Int32 → Int32 → Int32 → Int32 → Option (Int32 × Mem)) (hK15 : ∀ (m : Mem) (a2 : Int32) (a3 : Int32) (a4 : Int32) (a5 : Int32) (hS : ShX m), Cv true (cX5_toSpend, 7, RX5, 5, ((false, none) : IK)) .ireturn eI (K15 m a2 a3 a4 a5) m 15 [.ref 0, .null, .int a2, .int a3, .int a4, .int a5, .null] []) : ∀ (m : Mem) (a2 : Int32) (a5 : Int32) (a6 : Int32) (hS : ShX m), Cv true (cX5_toSpend, 7, RX5, 5, ((false, none) : IK)) .ireturn eI (F_X5_toSpend_86 K15 m a2 a5 a6) m 86 [.ref 0, .null, .int a2, .null, .null, .int a5, .int a6] [] := by
  intro m a2 a5 a6 hS
  unfold F_X5_toSpend_86
  refine Cv.go (pc' := 88) (go_iload (i := 5) (x := a5) dX5_toSpend_86 rfl) ?_
  refine Cv.go (pc' := 89) (ls' := [.ref 0, .null, .int a2, .int a5, .null, .int a5, .int a6]) (go_istore_n dX5_toSpend_88 rfl (by decide) rfl) ?_
  refine Cv.go (pc' := 91) (go_iload (i := 6) (x := a6) dX5_toSpend_89 rfl) ?_
  refine Cv.go (pc' := 93) (ls' := [.ref 0, .null, .int a2, .int a5, .int a6, .int a5, .int a6]) (go_istore dX5_toSpend_91 (by decide) rfl) ?_
  refine Cv.weak (ls' := [.ref 0, .null, .int a2, .int a5, .int a6, .int a5, .null]) (⟨Or.inr rfl, ⟨Or.inr rfl, ⟨Or.inr rfl, ⟨Or.inr rfl, ⟨Or.inr rfl, ⟨Or.inr rfl, ⟨Or.inl rfl, True.intro⟩⟩⟩⟩⟩⟩⟩) ?_
  exact c_X5_toSpend_93 K15 hK15 m a2 a5 a6 a5 hS
theorem c_X5_toSpend_15 : ∀ n, ∀ (m : Mem) (a2 : Int32) (a3 : Int32) (a4 : Int32) (a5 : Int32) (hS : ShX m), Cv true (cX5_toSpend, 7, RX5, 5, ((false, none) : IK)) .ireturn eI (F_X5_toSpend_15 n m a2 a3 a4 a5) m 15 [.ref 0, .null, .int a2, .int a3, .int a4, .int a5, .null] [] := by
  intro n
  induction n with
  | zero => intro m a2 a3 a4 a5 hS; exact Cv.no
  | succ n ih =>
    intro m a2 a3 a4 a5 hS
    unfold F_X5_toSpend_15
    refine Cv.go (pc' := 17) (go_iload (i := 5) (x := a5) dX5_toSpend_15 rfl) ?_
    refine Cv.go (pc' := 18) (go_aload_n (i := 0) (x := 0) dX5_toSpend_17 rfl rfl) ?_
    refine Cv.go (pc' := 21) (go_getI (i := 2) cls5 (sx_k0 hS) (by decide) rfl lf_X5_103 (by decide) dX5_toSpend_18) ?_
    refine Cv.ite (fun h5 => ?_) (fun h5 => ?_)
    · refine Cv.go (pc' := 99) (go_icmp_ge_t (tgt := 99) dX5_toSpend_21 rfl h5) ?_
      refine Cv.go (pc' := 100) (go_iload_n (i := 3) (x := a3) dX5_toSpend_99 rfl rfl) ?_
      exact Cv.ret dX5_toSpend_100 rfl
    · refine Cv.go (pc' := 24) (go_icmp_ge_f 99 dX5_toSpend_21 rfl h5) ?_
      refine Cv.go (pc' := 25) (go_iload_n (i := 2) (x := a2) dX5_toSpend_24 rfl rfl) ?_
      refine Cv.go (pc' := 27) (go_iload (i := 5) (x := a5) dX5_toSpend_25 rfl) ?_
      refine Cv.bnd fun v6 m7 e8 => ?_
      have C9 := kc_X5_holds m a2 a5 v6 m7 e8
      refine Cv.go (pc' := 30) (st' := [.int (bz v6)]) (go_callS (As := [.int a2, .int a5]) (st := []) C9 (by decide) ok_X5_holds lt_X5_holds lm_X5_161 rfl rfl (Nat.le_of_ble_eq_true rfl) dX5_toSpend_27) ?_
      have zm7 := C9.1.2.2 rfl
      have hS := hS.sh zm7
      refine Cv.ite (fun h10 => ?_) (fun h10 => ?_)
      · refine Cv.go (pc' := 93) (go_if_eq_t (tgt := 93) dX5_toSpend_30 rfl h10) ?_
        exact c_X5_toSpend_93 (F_X5_toSpend_15 n) ih m7 a2 a3 a4 a5 hS
      · refine Cv.go (pc' := 33) (go_if_eq_f 93 dX5_toSpend_30 rfl h10) ?_
        refine Cv.go (pc' := 34) (go_aload_n (i := 0) (x := 0) dX5_toSpend_33 rfl rfl) ?_
        refine Cv.bnd fun v11 m12 e13 => ?_
        have C14 := kc_X5_theRule m7 hS v11 m12 e13
        refine Cv.go (pc' := 37) (st' := [.ref v11]) (go_callV (As := []) (st := []) C14 (by decide) ok_X5_theRule li_X5_theRule ls_X5_theRule lm_X5_111 cls5 (sx_k0 hS) rfl rfl (Nat.le_of_ble_eq_true rfl) dX5_toSpend_34) ?_
        have zm12 := C14.1.2.2 rfl
        have hS := hS.sh zm12
        have hf15 := theRule_isT (zm12) e13 hS
        refine Cv.go (pc' := 38) (go_aload_n (i := 0) (x := 0) dX5_toSpend_37 rfl rfl) ?_
        refine Cv.go (pc' := 41) (go_getR (i := 1) cls5 (sx_k0 hS) (by decide) rfl lf_X5_11 (Or.inr ⟨_, rfl⟩) (sx_r0_1 hS) dX5_toSpend_38) ?_
        refine Cv.go (pc' := 43) (go_iload (i := 5) (x := a5) dX5_toSpend_41 rfl) ?_
        refine Cv.gif fun g16 => ?_
        refine Cv.go (pc' := 44) (go_aaload (t := 9) (t0 := 2) (sx_k1 hS) (by decide) (fun _ => rfl) g16 (sx_e1 hS (vp_lt g16)).1 dX5_toSpend_43) ?_
        have hf17 := (sx_e1 hS (vp_lt g16)).2
        refine Cv.go (pc' := 45) (go_aload_n (i := 0) (x := 0) dX5_toSpend_44 rfl rfl) ?_
        refine Cv.go (pc' := 48) (go_getR (i := 1) cls5 (sx_k0 hS) (by decide) rfl lf_X5_11 (Or.inr ⟨_, rfl⟩) (sx_r0_1 hS) dX5_toSpend_45) ?_
        refine Cv.go (pc' := 50) (go_iload (i := 5) (x := a5) dX5_toSpend_48 rfl) ?_
        refine Cv.gif fun g18 => ?_
        refine Cv.go (pc' := 51) (go_aaload (t := 9) (t0 := 2) (sx_k1 hS) (by decide) (fun _ => rfl) g18 (sx_e1 hS (vp_lt g18)).1 dX5_toSpend_50) ?_
        have hf19 := (sx_e1 hS (vp_lt g18)).2
        refine Cv.go (pc' := 54) (go_getI (i := 4) cls0 hf19 (by decide) rfl lf_X5_115 (by decide) dX5_toSpend_51) ?_
        refine Cv.go (pc' := 55) (go_aload_n (i := 0) (x := 0) dX5_toSpend_54 rfl rfl) ?_
        refine Cv.go (pc' := 58) (go_getI (i := 0) cls5 (sx_k0 hS) (by decide) rfl lf_X5_83 (by decide) dX5_toSpend_55) ?_
        refine Cv.bnd fun v20 m21 e22 => ?_
        have C23 := kc_X4_turnsOf m12 v11 (20 + a5.toNatClampNeg) (mD m12 (20 + a5.toNatClampNeg) 4) (mD m12 0 0) hf15 hf17 v20 m21 e22
        refine Cv.go (pc' := 61) (st' := [.int v20]) (go_callV (As := [.ref (20 + a5.toNatClampNeg), .int (mD m12 (20 + a5.toNatClampNeg) 4), .int (mD m12 0 0)]) (st := []) C23 (by decide) ok_X4_turnsOf li_X4_turnsOf ls_X4_turnsOf lm_X5_118 cls4 hf15.1 rfl rfl (Nat.le_of_ble_eq_true rfl) dX5_toSpend_58) ?_
        have zm21 := C23.1.2.2 rfl
        have hS := hS.sh zm21
        have hf15 := hf15.sh zm21
        have hf17 := sk zm21 hf17
        have hf19 := sk zm21 hf19
        refine Cv.go (pc' := 62) (go_aload_n (i := 0) (x := 0) dX5_toSpend_61 rfl rfl) ?_
        refine Cv.go (pc' := 65) (go_getR (i := 1) cls5 (sx_k0 hS) (by decide) rfl lf_X5_11 (Or.inr ⟨_, rfl⟩) (sx_r0_1 hS) dX5_toSpend_62) ?_
        refine Cv.go (pc' := 67) (go_iload (i := 5) (x := a5) dX5_toSpend_65 rfl) ?_
        refine Cv.gif fun g24 => ?_
        refine Cv.go (pc' := 68) (go_aaload (t := 9) (t0 := 2) (sx_k1 hS) (by decide) (fun _ => rfl) g24 (sx_e1 hS (vp_lt g24)).1 dX5_toSpend_67) ?_
        have hf25 := (sx_e1 hS (vp_lt g24)).2
        refine Cv.go (pc' := 71) (go_getI (i := 4) cls0 hf25 (by decide) rfl lf_X5_115 (by decide) dX5_toSpend_68) ?_
        refine Cv.go (pc' := 72) (go_isub dX5_toSpend_71) ?_
        refine Cv.namI fun x26 ex26 => ?_
        refine Cv.go (pc' := 74) (ls' := [.ref 0, .null, .int a2, .int a3, .int a4, .int a5, .int x26]) (go_istore dX5_toSpend_72 (by decide) rfl) ?_
        refine Cv.go (pc' := 75) (go_iload_n (i := 3) (x := a3) dX5_toSpend_74 rfl rfl) ?_
        refine Cv.go (pc' := 76) (go_iconst dX5_toSpend_75 ic_n1) ?_
        refine Cv.ite (fun h27 => ?_) (fun h27 => ?_)
        · refine Cv.go (pc' := 86) (go_icmp_eq_t (tgt := 86) dX5_toSpend_76 rfl h27) ?_
          refine Cv.weak (ls' := [.ref 0, .null, .int a2, .null, .null, .int a5, .int x26]) (⟨Or.inr rfl, ⟨Or.inr rfl, ⟨Or.inr rfl, ⟨Or.inl rfl, ⟨Or.inl rfl, ⟨Or.inr rfl, ⟨Or.inr rfl, True.intro⟩⟩⟩⟩⟩⟩⟩) ?_
          exact c_X5_toSpend_86 (F_X5_toSpend_15 n) ih m21 a2 a5 x26 hS
        · refine Cv.go (pc' := 79) (go_icmp_eq_f 86 dX5_toSpend_76 rfl h27) ?_
          refine Cv.go (pc' := 81) (go_iload (i := 6) (x := x26) dX5_toSpend_79 rfl) ?_
          refine Cv.go (pc' := 83) (go_iload (i := 4) (x := a4) dX5_toSpend_81 rfl) ?_
          refine Cv.ite (fun h28 => ?_) (fun h28 => ?_)
          · refine Cv.go (pc' := 93) (go_icmp_ge_t (tgt := 93) dX5_toSpend_83 rfl h28) ?_
            refine Cv.weak (ls' := [.ref 0, .null, .int a2, .int a3, .int a4, .int a5, .null]) (⟨Or.inr rfl, ⟨Or.inr rfl, ⟨Or.inr rfl, ⟨Or.inr rfl, ⟨Or.inr rfl, ⟨Or.inr rfl, ⟨Or.inl rfl, True.intro⟩⟩⟩⟩⟩⟩⟩) ?_
            exact c_X5_toSpend_93 (F_X5_toSpend_15 n) ih m21 a2 a3 a4 a5 hS
          · refine Cv.go (pc' := 86) (go_icmp_ge_f 93 dX5_toSpend_83 rfl h28) ?_
            refine Cv.weak (ls' := [.ref 0, .null, .int a2, .null, .null, .int a5, .int x26]) (⟨Or.inr rfl, ⟨Or.inr rfl, ⟨Or.inr rfl, ⟨Or.inl rfl, ⟨Or.inl rfl, ⟨Or.inr rfl, ⟨Or.inr rfl, True.intro⟩⟩⟩⟩⟩⟩⟩) ?_
            exact c_X5_toSpend_86 (F_X5_toSpend_15 n) ih m21 a2 a5 x26 hS
theorem kc_X5_toSpend (m : Mem) (a1 : Int32) (hS : ShX m) : ∀ v mE, F_X5_toSpend m a1 = some (v, mE) → Con true kX5_toSpend 5 [.ref 0, .int a1] m (eI v) mE := by
  refine Con.of (ini := false) (ls0 := [.ref 0, .int a1, .null, .null, .null, .null, .null]) (ri := .ireturn) (by decide) (by intro z; cases z) rfl (Nat.le_of_ble_eq_true rfl) (fun v mE _ => RetTy.i) ?_
  show Cv true (cX5_toSpend, 7, RX5, 5, ((false, none) : IK)) .ireturn eI (F_X5_toSpend m a1) m 0 [.ref 0, .int a1, .null, .null, .null, .null, .null] []
  unfold F_X5_toSpend
  refine Cv.go (pc' := 1) (go_aload_n (i := 0) (x := 0) dX5_toSpend_0 rfl rfl) ?_
  refine Cv.go (pc' := 2) (go_iload_n (i := 1) (x := a1) dX5_toSpend_1 rfl rfl) ?_
  refine Cv.go (pc' := 3) (go_iconst dX5_toSpend_2 ic_0) ?_
  refine Cv.bnd fun v1 m2 e3 => ?_
  have C4 := kc_X5_purseBehind m a1 (0 : Int32) hS v1 m2 e3
  refine Cv.go (pc' := 6) (st' := [.int v1]) (go_callV (As := [.int a1, .int (0 : Int32)]) (st := []) C4 (by decide) ok_X5_purseBehind li_X5_purseBehind ls_X5_purseBehind lm_X5_172 cls5 (sx_k0 hS) rfl rfl (Nat.le_of_ble_eq_true rfl) dX5_toSpend_3) ?_
  have zm2 := C4.1.2.2 rfl
  have hS := hS.sh zm2
  refine Cv.go (pc' := 7) (ls' := [.ref 0, .int a1, .int v1, .null, .null, .null, .null]) (go_istore_n dX5_toSpend_6 rfl (by decide) rfl) ?_
  refine Cv.go (pc' := 8) (go_iconst dX5_toSpend_7 ic_n1) ?_
  refine Cv.go (pc' := 9) (ls' := [.ref 0, .int a1, .int v1, .int (-1 : Int32), .null, .null, .null]) (go_istore_n dX5_toSpend_8 rfl (by decide) rfl) ?_
  refine Cv.go (pc' := 10) (go_iconst dX5_toSpend_9 ic_0) ?_
  refine Cv.go (pc' := 12) (ls' := [.ref 0, .int a1, .int v1, .int (-1 : Int32), .int (0 : Int32), .null, .null]) (go_istore dX5_toSpend_10 (by decide) rfl) ?_
  refine Cv.go (pc' := 13) (go_iconst dX5_toSpend_12 ic_0) ?_
  refine Cv.go (pc' := 15) (ls' := [.ref 0, .int a1, .int v1, .int (-1 : Int32), .int (0 : Int32), .int (0 : Int32), .null]) (go_istore dX5_toSpend_13 (by decide) rfl) ?_
  refine Cv.weak (ls' := [.ref 0, .null, .int v1, .int (-1 : Int32), .int (0 : Int32), .int (0 : Int32), .null]) (⟨Or.inr rfl, ⟨Or.inl rfl, ⟨Or.inr rfl, ⟨Or.inr rfl, ⟨Or.inr rfl, ⟨Or.inr rfl, ⟨Or.inr rfl, True.intro⟩⟩⟩⟩⟩⟩⟩) ?_
  exact c_X5_toSpend_15 FU m2 v1 (-1 : Int32) (0 : Int32) (0 : Int32) hS
theorem c_X5_goneBehind_2 : ∀ n, ∀ (m : Mem) (a1 : Int32) (a2 : Int32) (hS : ShX m), Cv true (cX5_goneBehind, 3, RX5, 5, ((false, none) : IK)) .ireturn eI (F_X5_goneBehind_2 n m a1 a2) m 2 [.ref 0, .int a1, .int a2] [] := by
  intro n
  induction n with
  | zero => intro m a1 a2 hS; exact Cv.no
  | succ n ih =>
    intro m a1 a2 hS
    unfold F_X5_goneBehind_2
    refine Cv.go (pc' := 3) (go_iload_n (i := 2) (x := a2) dX5_goneBehind_2 rfl rfl) ?_
    refine Cv.go (pc' := 5) (go_bipush dX5_goneBehind_3 ib_40) ?_
    refine Cv.ite (fun h1 => ?_) (fun h1 => ?_)
    · refine Cv.go (pc' := 25) (go_icmp_gt_t (tgt := 25) dX5_goneBehind_5 rfl h1) ?_
      refine Cv.go (pc' := 26) (go_iconst dX5_goneBehind_25 ic_n1) ?_
      exact Cv.ret dX5_goneBehind_26 rfl
    · refine Cv.go (pc' := 8) (go_icmp_gt_f 25 dX5_goneBehind_5 rfl h1) ?_
      refine Cv.go (pc' := 9) (go_aload_n (i := 0) (x := 0) dX5_goneBehind_8 rfl rfl) ?_
      refine Cv.go (pc' := 10) (go_iload_n (i := 1) (x := a1) dX5_goneBehind_9 rfl rfl) ?_
      refine Cv.go (pc' := 11) (go_iload_n (i := 2) (x := a2) dX5_goneBehind_10 rfl rfl) ?_
      refine Cv.bnd fun v2 m3 e4 => ?_
      have C5 := kc_X5_purseBehind m a1 a2 hS v2 m3 e4
      refine Cv.go (pc' := 14) (st' := [.int v2]) (go_callV (As := [.int a1, .int a2]) (st := []) C5 (by decide) ok_X5_purseBehind li_X5_purseBehind ls_X5_purseBehind lm_X5_172 cls5 (sx_k0 hS) rfl rfl (Nat.le_of_ble_eq_true rfl) dX5_goneBehind_11) ?_
      have zm3 := C5.1.2.2 rfl
      have hS := hS.sh zm3
      refine Cv.ite (fun h6 => ?_) (fun h6 => ?_)
      · refine Cv.go (pc' := 17) (go_if_ne_f 19 dX5_goneBehind_14 rfl h6) ?_
        refine Cv.go (pc' := 18) (go_iload_n (i := 2) (x := a2) dX5_goneBehind_17 rfl rfl) ?_
        exact Cv.ret dX5_goneBehind_18 rfl
      · refine Cv.go (pc' := 19) (go_if_ne_t (tgt := 19) dX5_goneBehind_14 rfl h6) ?_
        refine Cv.go (pc' := 22) (ls' := [.ref 0, .int a1, .int (a2 + (1 : Int32))]) (go_iinc (x := a2) (v := a2 + (1 : Int32)) dX5_goneBehind_19 rfl rfl (by decide) rfl) ?_
        refine Cv.go (pc' := 2) (go_goto (tgt := 2) dX5_goneBehind_22 rfl) ?_
        exact ih m3 a1 (a2 + (1 : Int32)) hS
theorem kc_X5_goneBehind (m : Mem) (a1 : Int32) (hS : ShX m) : ∀ v mE, F_X5_goneBehind m a1 = some (v, mE) → Con true kX5_goneBehind 5 [.ref 0, .int a1] m (eI v) mE := by
  refine Con.of (ini := false) (ls0 := [.ref 0, .int a1, .null]) (ri := .ireturn) (by decide) (by intro z; cases z) rfl (Nat.le_of_ble_eq_true rfl) (fun v mE _ => RetTy.i) ?_
  show Cv true (cX5_goneBehind, 3, RX5, 5, ((false, none) : IK)) .ireturn eI (F_X5_goneBehind m a1) m 0 [.ref 0, .int a1, .null] []
  unfold F_X5_goneBehind
  refine Cv.go (pc' := 1) (go_iconst dX5_goneBehind_0 ic_0) ?_
  refine Cv.go (pc' := 2) (ls' := [.ref 0, .int a1, .int (0 : Int32)]) (go_istore_n dX5_goneBehind_1 rfl (by decide) rfl) ?_
  exact c_X5_goneBehind_2 FU m a1 (0 : Int32) hS
theorem c_X5_layWorths_43 (K2 : Mem → Int32 → Int32 → Int32 → Option (Unit × Mem)) (hK2 : ∀ (m : Mem) (a1 : Int32) (a2 : Int32) (a3 : Int32) (hS : ShX m), Cv true (cX5_layWorths, 4, RX5, 5, ((false, none) : IK)) .return_ eV (K2 m a1 a2 a3) m 2 [.ref 0, .int a1, .int a2, .int a3] []) : ∀ (m : Mem) (a1 : Int32) (a2 : Int32) (a3 : Int32) (s0 : Int32) (s1 : Int32) (hS : ShX m), Cv true (cX5_layWorths, 4, RX5, 5, ((false, none) : IK)) .return_ eV (F_X5_layWorths_43 K2 m a1 a2 a3 s0 s1) m 43 [.ref 0, .int a1, .int a2, .int a3] [.int s0, .int s1, .ref 19] := by
  intro m a1 a2 a3 s0 s1 hS
  unfold F_X5_layWorths_43
  refine Cv.gif fun g11 => ?_
  refine Cv.go (pc' := 44) (go_iastore (sx_k19 hS) g11 dX5_layWorths_43) ?_
  refine Cv.namM fun m12 em12 => ?_
  have zm12 : SameSh m m12 := em12 ▸ SameSh.d
  have hS := hS.sh zm12
  refine Cv.go (pc' := 47) (ls' := [.ref 0, .int a1, .int a2, .int (a3 + (1 : Int32))]) (go_iinc (x := a3) (v := a3 + (1 : Int32)) dX5_layWorths_44 rfl rfl (by decide) rfl) ?_
  refine Cv.go (pc' := 2) (go_goto (tgt := 2) dX5_layWorths_47 rfl) ?_
  exact hK2 m12 a1 a2 (a3 + (1 : Int32)) hS
theorem c_X5_layWorths_2 : ∀ n, ∀ (m : Mem) (a1 : Int32) (a2 : Int32) (a3 : Int32) (hS : ShX m), Cv true (cX5_layWorths, 4, RX5, 5, ((false, none) : IK)) .return_ eV (F_X5_layWorths_2 n m a1 a2 a3) m 2 [.ref 0, .int a1, .int a2, .int a3] [] := by
  intro n
  induction n with
  | zero => intro m a1 a2 a3 hS; exact Cv.no
  | succ n ih =>
    intro m a1 a2 a3 hS
    unfold F_X5_layWorths_2
    refine Cv.go (pc' := 3) (go_iload_n (i := 3) (x := a3) dX5_layWorths_2 rfl rfl) ?_
    refine Cv.go (pc' := 4) (go_aload_n (i := 0) (x := 0) dX5_layWorths_3 rfl rfl) ?_
    refine Cv.go (pc' := 7) (go_getI (i := 2) cls5 (sx_k0 hS) (by decide) rfl lf_X5_103 (by decide) dX5_layWorths_4) ?_
    refine Cv.ite (fun h1 => ?_) (fun h1 => ?_)
    · refine Cv.go (pc' := 50) (go_icmp_ge_t (tgt := 50) dX5_layWorths_7 rfl h1) ?_
      exact Cv.ret dX5_layWorths_50 rfl
    · refine Cv.go (pc' := 10) (go_icmp_ge_f 50 dX5_layWorths_7 rfl h1) ?_
      refine Cv.go (pc' := 11) (go_aload_n (i := 0) (x := 0) dX5_layWorths_10 rfl rfl) ?_
      refine Cv.go (pc' := 14) (go_getR (i := 10) cls5 (sx_k0 hS) (by decide) rfl lf_X5_46 (Or.inr ⟨_, rfl⟩) (sx_r0_10 hS) dX5_layWorths_11) ?_
      refine Cv.go (pc' := 15) (go_iload_n (i := 3) (x := a3) dX5_layWorths_14 rfl rfl) ?_
      refine Cv.go (pc' := 16) (go_aload_n (i := 0) (x := 0) dX5_layWorths_15 rfl rfl) ?_
      refine Cv.go (pc' := 19) (go_getR (i := 1) cls5 (sx_k0 hS) (by decide) rfl lf_X5_11 (Or.inr ⟨_, rfl⟩) (sx_r0_1 hS) dX5_layWorths_16) ?_
      refine Cv.go (pc' := 20) (go_iload_n (i := 3) (x := a3) dX5_layWorths_19 rfl rfl) ?_
      refine Cv.gif fun g2 => ?_
      refine Cv.go (pc' := 21) (go_aaload (t := 9) (t0 := 2) (sx_k1 hS) (by decide) (fun _ => rfl) g2 (sx_e1 hS (vp_lt g2)).1 dX5_layWorths_20) ?_
      have hf3 := (sx_e1 hS (vp_lt g2)).2
      refine Cv.go (pc' := 24) (go_getI (i := 5) cls0 hf3 (by decide) rfl lf_X5_148 (by decide) dX5_layWorths_21) ?_
      refine Cv.go (pc' := 25) (go_iload_n (i := 1) (x := a1) dX5_layWorths_24 rfl rfl) ?_
      refine Cv.ite (fun h4 => ?_) (fun h4 => ?_)
      · refine Cv.go (pc' := 28) (go_icmp_ne_f 42 dX5_layWorths_25 rfl h4) ?_
        refine Cv.go (pc' := 29) (go_aload_n (i := 0) (x := 0) dX5_layWorths_28 rfl rfl) ?_
        refine Cv.go (pc' := 30) (go_aload_n (i := 0) (x := 0) dX5_layWorths_29 rfl rfl) ?_
        refine Cv.go (pc' := 33) (go_getR (i := 1) cls5 (sx_k0 hS) (by decide) rfl lf_X5_11 (Or.inr ⟨_, rfl⟩) (sx_r0_1 hS) dX5_layWorths_30) ?_
        refine Cv.go (pc' := 34) (go_iload_n (i := 3) (x := a3) dX5_layWorths_33 rfl rfl) ?_
        refine Cv.gif fun g5 => ?_
        refine Cv.go (pc' := 35) (go_aaload (t := 9) (t0 := 2) (sx_k1 hS) (by decide) (fun _ => rfl) g5 (sx_e1 hS (vp_lt g5)).1 dX5_layWorths_34) ?_
        have hf6 := (sx_e1 hS (vp_lt g5)).2
        refine Cv.go (pc' := 36) (go_iload_n (i := 2) (x := a2) dX5_layWorths_35 rfl rfl) ?_
        refine Cv.bnd fun v7 m8 e9 => ?_
        have C10 := kc_X5_worthBehind m (20 + a3.toNatClampNeg) a2 hS hf6 v7 m8 e9
        refine Cv.go (pc' := 39) (st' := [.int v7, .int a3, .ref 19]) (go_callV (As := [.ref (20 + a3.toNatClampNeg), .int a2]) (st := [.int a3, .ref 19]) C10 (by decide) ok_X5_worthBehind li_X5_worthBehind ls_X5_worthBehind lm_X5_132 cls5 (sx_k0 hS) rfl rfl (Nat.le_of_ble_eq_true rfl) dX5_layWorths_36) ?_
        have zm8 := C10.1.2.2 rfl
        have hS := hS.sh zm8
        have hf3 := sk zm8 hf3
        have hf6 := sk zm8 hf6
        refine Cv.go (pc' := 43) (go_goto (tgt := 43) dX5_layWorths_39 rfl) ?_
        exact c_X5_layWorths_43 (F_X5_layWorths_2 n) ih m8 a1 a2 a3 v7 a3 hS
      · refine Cv.go (pc' := 42) (go_icmp_ne_t (tgt := 42) dX5_layWorths_25 rfl h4) ?_
        refine Cv.go (pc' := 43) (go_iconst dX5_layWorths_42 ic_0) ?_
        exact c_X5_layWorths_43 (F_X5_layWorths_2 n) ih m a1 a2 a3 (0 : Int32) a3 hS
theorem kc_X5_layWorths (m : Mem) (a1 : Int32) (a2 : Int32) (hS : ShX m) : ∀ v mE, F_X5_layWorths m a1 a2 = some (v, mE) → Con true kX5_layWorths 5 [.ref 0, .int a1, .int a2] m (eV v) mE := by
  refine Con.of (ini := false) (ls0 := [.ref 0, .int a1, .int a2, .null]) (ri := .return_) (by decide) (by intro z; cases z) rfl (Nat.le_of_ble_eq_true rfl) (fun v mE _ => RetTy.v) ?_
  show Cv true (cX5_layWorths, 4, RX5, 5, ((false, none) : IK)) .return_ eV (F_X5_layWorths m a1 a2) m 0 [.ref 0, .int a1, .int a2, .null] []
  unfold F_X5_layWorths
  refine Cv.go (pc' := 1) (go_iconst dX5_layWorths_0 ic_0) ?_
  refine Cv.go (pc' := 2) (ls' := [.ref 0, .int a1, .int a2, .int (0 : Int32)]) (go_istore_n dX5_layWorths_1 rfl (by decide) rfl) ?_
  exact c_X5_layWorths_2 FU m a1 a2 (0 : Int32) hS
theorem c_X5_mostWorth_42 (K4 : Mem → Int32 → Int32 → Int32 → Option (Int32 × Mem)) (hK4 : ∀ (m : Mem) (a1 : Int32) (a2 : Int32) (a3 : Int32) (hS : ShX m), Cv true (cX5_mostWorth, 4, RX5, 1, ((false, none) : IK)) .ireturn eI (K4 m a1 a2 a3) m 4 [.ref 0, .int a1, .int a2, .int a3] []) : ∀ (m : Mem) (a1 : Int32) (a2 : Int32) (a3 : Int32) (hS : ShX m), Cv true (cX5_mostWorth, 4, RX5, 1, ((false, none) : IK)) .ireturn eI (F_X5_mostWorth_42 K4 m a1 a2 a3) m 42 [.ref 0, .int a1, .int a2, .int a3] [] := by
  intro m a1 a2 a3 hS
  unfold F_X5_mostWorth_42
  refine Cv.go (pc' := 45) (ls' := [.ref 0, .int a1, .int a2, .int (a3 + (1 : Int32))]) (go_iinc (x := a3) (v := a3 + (1 : Int32)) dX5_mostWorth_42 rfl rfl (by decide) rfl) ?_
  refine Cv.go (pc' := 4) (go_goto (tgt := 4) dX5_mostWorth_45 rfl) ?_
  exact hK4 m a1 a2 (a3 + (1 : Int32)) hS
theorem c_X5_mostWorth_40 (K4 : Mem → Int32 → Int32 → Int32 → Option (Int32 × Mem)) (hK4 : ∀ (m : Mem) (a1 : Int32) (a2 : Int32) (a3 : Int32) (hS : ShX m), Cv true (cX5_mostWorth, 4, RX5, 1, ((false, none) : IK)) .ireturn eI (K4 m a1 a2 a3) m 4 [.ref 0, .int a1, .int a2, .int a3] []) : ∀ (m : Mem) (a1 : Int32) (a3 : Int32) (hS : ShX m), Cv true (cX5_mostWorth, 4, RX5, 1, ((false, none) : IK)) .ireturn eI (F_X5_mostWorth_40 K4 m a1 a3) m 40 [.ref 0, .int a1, .null, .int a3] [] := by
  intro m a1 a3 hS
  unfold F_X5_mostWorth_40
  refine Cv.go (pc' := 41) (go_iload_n (i := 3) (x := a3) dX5_mostWorth_40 rfl rfl) ?_
  refine Cv.go (pc' := 42) (ls' := [.ref 0, .int a1, .int a3, .int a3]) (go_istore_n dX5_mostWorth_41 rfl (by decide) rfl) ?_
  exact c_X5_mostWorth_42 K4 hK4 m a1 a3 a3 hS
theorem c_X5_mostWorth_4 : ∀ n, ∀ (m : Mem) (a1 : Int32) (a2 : Int32) (a3 : Int32) (hS : ShX m), Cv true (cX5_mostWorth, 4, RX5, 1, ((false, none) : IK)) .ireturn eI (F_X5_mostWorth_4 n m a1 a2 a3) m 4 [.ref 0, .int a1, .int a2, .int a3] [] := by
  intro n
  induction n with
  | zero => intro m a1 a2 a3 hS; exact Cv.no
  | succ n ih =>
    intro m a1 a2 a3 hS
    unfold F_X5_mostWorth_4
    refine Cv.go (pc' := 5) (go_iload_n (i := 3) (x := a3) dX5_mostWorth_4 rfl rfl) ?_
    refine Cv.go (pc' := 6) (go_aload_n (i := 0) (x := 0) dX5_mostWorth_5 rfl rfl) ?_
    refine Cv.go (pc' := 9) (go_getI (i := 2) cls5 (sx_k0 hS) (by decide) rfl lf_X5_103 (by decide) dX5_mostWorth_6) ?_
    refine Cv.ite (fun h1 => ?_) (fun h1 => ?_)
    · refine Cv.go (pc' := 48) (go_icmp_ge_t (tgt := 48) dX5_mostWorth_9 rfl h1) ?_
      refine Cv.go (pc' := 49) (go_iload_n (i := 2) (x := a2) dX5_mostWorth_48 rfl rfl) ?_
      exact Cv.ret dX5_mostWorth_49 rfl
    · refine Cv.go (pc' := 12) (go_icmp_ge_f 48 dX5_mostWorth_9 rfl h1) ?_
      refine Cv.go (pc' := 13) (go_iload_n (i := 1) (x := a1) dX5_mostWorth_12 rfl rfl) ?_
      refine Cv.go (pc' := 14) (go_iload_n (i := 3) (x := a3) dX5_mostWorth_13 rfl rfl) ?_
      refine Cv.bnd fun v2 m3 e4 => ?_
      have C5 := kc_X5_holds m a1 a3 v2 m3 e4
      refine Cv.go (pc' := 17) (st' := [.int (bz v2)]) (go_callS (As := [.int a1, .int a3]) (st := []) C5 (by decide) ok_X5_holds lt_X5_holds lm_X5_161 rfl rfl (Nat.le_of_ble_eq_true rfl) dX5_mostWorth_14) ?_
      have zm3 := C5.1.2.2 rfl
      have hS := hS.sh zm3
      refine Cv.ite (fun h6 => ?_) (fun h6 => ?_)
      · refine Cv.go (pc' := 42) (go_if_eq_t (tgt := 42) dX5_mostWorth_17 rfl h6) ?_
        exact c_X5_mostWorth_42 (F_X5_mostWorth_4 n) ih m3 a1 a2 a3 hS
      · refine Cv.go (pc' := 20) (go_if_eq_f 42 dX5_mostWorth_17 rfl h6) ?_
        refine Cv.go (pc' := 21) (go_iload_n (i := 2) (x := a2) dX5_mostWorth_20 rfl rfl) ?_
        refine Cv.go (pc' := 22) (go_iconst dX5_mostWorth_21 ic_n1) ?_
        refine Cv.ite (fun h7 => ?_) (fun h7 => ?_)
        · refine Cv.go (pc' := 40) (go_icmp_eq_t (tgt := 40) dX5_mostWorth_22 rfl h7) ?_
          refine Cv.weak (ls' := [.ref 0, .int a1, .null, .int a3]) (⟨Or.inr rfl, ⟨Or.inr rfl, ⟨Or.inl rfl, ⟨Or.inr rfl, True.intro⟩⟩⟩⟩) ?_
          exact c_X5_mostWorth_40 (F_X5_mostWorth_4 n) ih m3 a1 a3 hS
        · refine Cv.go (pc' := 25) (go_icmp_eq_f 40 dX5_mostWorth_22 rfl h7) ?_
          refine Cv.go (pc' := 26) (go_aload_n (i := 0) (x := 0) dX5_mostWorth_25 rfl rfl) ?_
          refine Cv.go (pc' := 29) (go_getR (i := 10) cls5 (sx_k0 hS) (by decide) rfl lf_X5_46 (Or.inr ⟨_, rfl⟩) (sx_r0_10 hS) dX5_mostWorth_26) ?_
          refine Cv.go (pc' := 30) (go_iload_n (i := 3) (x := a3) dX5_mostWorth_29 rfl rfl) ?_
          refine Cv.gif fun g8 => ?_
          refine Cv.go (pc' := 31) (go_iaload (sx_k19 hS) g8 dX5_mostWorth_30) ?_
          refine Cv.go (pc' := 32) (go_aload_n (i := 0) (x := 0) dX5_mostWorth_31 rfl rfl) ?_
          refine Cv.go (pc' := 35) (go_getR (i := 10) cls5 (sx_k0 hS) (by decide) rfl lf_X5_46 (Or.inr ⟨_, rfl⟩) (sx_r0_10 hS) dX5_mostWorth_32) ?_
          refine Cv.go (pc' := 36) (go_iload_n (i := 2) (x := a2) dX5_mostWorth_35 rfl rfl) ?_
          refine Cv.gif fun g9 => ?_
          refine Cv.go (pc' := 37) (go_iaload (sx_k19 hS) g9 dX5_mostWorth_36) ?_
          refine Cv.ite (fun h10 => ?_) (fun h10 => ?_)
          · refine Cv.go (pc' := 42) (go_icmp_le_t (tgt := 42) dX5_mostWorth_37 rfl h10) ?_
            exact c_X5_mostWorth_42 (F_X5_mostWorth_4 n) ih m3 a1 a2 a3 hS
          · refine Cv.go (pc' := 40) (go_icmp_le_f 42 dX5_mostWorth_37 rfl h10) ?_
            refine Cv.weak (ls' := [.ref 0, .int a1, .null, .int a3]) (⟨Or.inr rfl, ⟨Or.inr rfl, ⟨Or.inl rfl, ⟨Or.inr rfl, True.intro⟩⟩⟩⟩) ?_
            exact c_X5_mostWorth_40 (F_X5_mostWorth_4 n) ih m3 a1 a3 hS
theorem kc_X5_mostWorth (m : Mem) (a1 : Int32) (hS : ShX m) : ∀ v mE, F_X5_mostWorth m a1 = some (v, mE) → Con true kX5_mostWorth 1 [.ref 0, .int a1] m (eI v) mE := by
  refine Con.of (ini := false) (ls0 := [.ref 0, .int a1, .null, .null]) (ri := .ireturn) (by decide) (by intro z; cases z) rfl (Nat.le_of_ble_eq_true rfl) (fun v mE _ => RetTy.i) ?_
  show Cv true (cX5_mostWorth, 4, RX5, 1, ((false, none) : IK)) .ireturn eI (F_X5_mostWorth m a1) m 0 [.ref 0, .int a1, .null, .null] []
  unfold F_X5_mostWorth
  refine Cv.go (pc' := 1) (go_iconst dX5_mostWorth_0 ic_n1) ?_
  refine Cv.go (pc' := 2) (ls' := [.ref 0, .int a1, .int (-1 : Int32), .null]) (go_istore_n dX5_mostWorth_1 rfl (by decide) rfl) ?_
  refine Cv.go (pc' := 3) (go_iconst dX5_mostWorth_2 ic_0) ?_
  refine Cv.go (pc' := 4) (ls' := [.ref 0, .int a1, .int (-1 : Int32), .int (0 : Int32)]) (go_istore_n dX5_mostWorth_3 rfl (by decide) rfl) ?_
  exact c_X5_mostWorth_4 FU m a1 (-1 : Int32) (0 : Int32) hS
theorem c_X5_taxOf_65 (K25 : Mem → Int32 → Int32 → Int32 → Int32 → Option (Int32 × Mem)) (hK25 : ∀ (m : Mem) (a2 : Int32) (a3 : Int32) (a4 : Int32) (a5 : Int32) (hS : ShX m), Cv true (cX5_taxOf, 7, RX5, 6, ((false, none) : IK)) .ireturn eI (K25 m a2 a3 a4 a5) m 25 [.ref 0, .null, .int a2, .int a3, .int a4, .int a5, .null] []) : ∀ (m : Mem) (a2 : Int32) (a3 : Int32) (a4 : Int32) (a5 : Int32) (hS : ShX m), Cv true (cX5_taxOf, 7, RX5, 6, ((false, none) : IK)) .ireturn eI (F_X5_taxOf_65 K25 m a2 a3 a4 a5) m 65 [.ref 0, .null, .int a2, .int a3, .int a4, .int a5, .null] [] := by
  intro m a2 a3 a4 a5 hS
  unfold F_X5_taxOf_65
  refine Cv.go (pc' := 68) (ls' := [.ref 0, .null, .int a2, .int a3, .int a4, .int (a5 + (1 : Int32)), .null]) (go_iinc (x := a5) (v := a5 + (1 : Int32)) dX5_taxOf_65 rfl rfl (by decide) rfl) ?_
  refine Cv.go (pc' := 25) (go_goto (tgt := 25) dX5_taxOf_68 rfl) ?_
  exact hK25 m a2 a3 a4 (a5 + (1 : Int32)) hS
theorem c_X5_taxOf_25 : ∀ n, ∀ (m : Mem) (a2 : Int32) (a3 : Int32) (a4 : Int32) (a5 : Int32) (hS : ShX m), Cv true (cX5_taxOf, 7, RX5, 6, ((false, none) : IK)) .ireturn eI (F_X5_taxOf_25 n m a2 a3 a4 a5) m 25 [.ref 0, .null, .int a2, .int a3, .int a4, .int a5, .null] [] := by
  intro n
  induction n with
  | zero => intro m a2 a3 a4 a5 hS; exact Cv.no
  | succ n ih =>
    intro m a2 a3 a4 a5 hS
    unfold F_X5_taxOf_25
    refine Cv.go (pc' := 27) (go_iload (i := 5) (x := a5) dX5_taxOf_25 rfl) ?_
    refine Cv.go (pc' := 28) (go_iload_n (i := 3) (x := a3) dX5_taxOf_27 rfl rfl) ?_
    refine Cv.ite (fun h14 => ?_) (fun h14 => ?_)
    · refine Cv.go (pc' := 71) (go_icmp_ge_t (tgt := 71) dX5_taxOf_28 rfl h14) ?_
      refine Cv.go (pc' := 73) (go_iload (i := 4) (x := a4) dX5_taxOf_71 rfl) ?_
      exact Cv.ret dX5_taxOf_73 rfl
    · refine Cv.go (pc' := 31) (go_icmp_ge_f 71 dX5_taxOf_28 rfl h14) ?_
      refine Cv.go (pc' := 32) (go_aload_n (i := 0) (x := 0) dX5_taxOf_31 rfl rfl) ?_
      refine Cv.go (pc' := 33) (go_iload_n (i := 2) (x := a2) dX5_taxOf_32 rfl rfl) ?_
      refine Cv.bnd fun v15 m16 e17 => ?_
      have C18 := kc_X5_mostWorth m a2 hS v15 m16 e17
      refine Cv.go (pc' := 36) (st' := [.int v15]) (go_callV (As := [.int a2]) (st := []) C18 (by decide) ok_X5_mostWorth li_X5_mostWorth ls_X5_mostWorth lm_X5_317 cls5 (sx_k0 hS) rfl rfl (Nat.le_of_ble_eq_true rfl) dX5_taxOf_33) ?_
      have zm16 := C18.1.2.2 rfl
      have hS := hS.sh zm16
      refine Cv.go (pc' := 38) (ls' := [.ref 0, .null, .int a2, .int a3, .int a4, .int a5, .int v15]) (go_istore dX5_taxOf_36 (by decide) rfl) ?_
      refine Cv.go (pc' := 40) (go_iload (i := 6) (x := v15) dX5_taxOf_38 rfl) ?_
      refine Cv.go (pc' := 41) (go_iconst dX5_taxOf_40 ic_n1) ?_
      refine Cv.ite (fun h19 => ?_) (fun h19 => ?_)
      · refine Cv.go (pc' := 65) (go_icmp_eq_t (tgt := 65) dX5_taxOf_41 rfl h19) ?_
        refine Cv.weak (ls' := [.ref 0, .null, .int a2, .int a3, .int a4, .int a5, .null]) (⟨Or.inr rfl, ⟨Or.inr rfl, ⟨Or.inr rfl, ⟨Or.inr rfl, ⟨Or.inr rfl, ⟨Or.inr rfl, ⟨Or.inl rfl, True.intro⟩⟩⟩⟩⟩⟩⟩) ?_
        exact c_X5_taxOf_65 (F_X5_taxOf_25 n) ih m16 a2 a3 a4 a5 hS
      · refine Cv.go (pc' := 44) (go_icmp_eq_f 65 dX5_taxOf_41 rfl h19) ?_
        refine Cv.go (pc' := 46) (go_iload (i := 4) (x := a4) dX5_taxOf_44 rfl) ?_
        refine Cv.go (pc' := 47) (go_aload_n (i := 0) (x := 0) dX5_taxOf_46 rfl rfl) ?_
        refine Cv.go (pc' := 50) (go_getR (i := 10) cls5 (sx_k0 hS) (by decide) rfl lf_X5_46 (Or.inr ⟨_, rfl⟩) (sx_r0_10 hS) dX5_taxOf_47) ?_
        refine Cv.go (pc' := 52) (go_iload (i := 6) (x := v15) dX5_taxOf_50 rfl) ?_
        refine Cv.gif fun g20 => ?_
        refine Cv.go (pc' := 53) (go_iaload (sx_k19 hS) g20 dX5_taxOf_52) ?_
        refine Cv.go (pc' := 54) (go_iadd dX5_taxOf_53) ?_
        refine Cv.namI fun x21 ex21 => ?_
        refine Cv.go (pc' := 56) (ls' := [.ref 0, .null, .int a2, .int a3, .int x21, .int a5, .int v15]) (go_istore dX5_taxOf_54 (by decide) rfl) ?_
        refine Cv.go (pc' := 57) (go_iload_n (i := 2) (x := a2) dX5_taxOf_56 rfl rfl) ?_
        refine Cv.go (pc' := 58) (go_iconst dX5_taxOf_57 ic_1) ?_
        refine Cv.go (pc' := 60) (go_iload (i := 6) (x := v15) dX5_taxOf_58 rfl) ?_
        refine Cv.go (pc' := 61) (go_ishl dX5_taxOf_60) ?_
        refine Cv.go (pc' := 62) (go_iconst dX5_taxOf_61 ic_n1) ?_
        refine Cv.go (pc' := 63) (go_ixor dX5_taxOf_62) ?_
        refine Cv.go (pc' := 64) (go_iand dX5_taxOf_63) ?_
        refine Cv.namI fun x22 ex22 => ?_
        refine Cv.go (pc' := 65) (ls' := [.ref 0, .null, .int x22, .int a3, .int x21, .int a5, .int v15]) (go_istore_n dX5_taxOf_64 rfl (by decide) rfl) ?_
        refine Cv.weak (ls' := [.ref 0, .null, .int x22, .int a3, .int x21, .int a5, .null]) (⟨Or.inr rfl, ⟨Or.inr rfl, ⟨Or.inr rfl, ⟨Or.inr rfl, ⟨Or.inr rfl, ⟨Or.inr rfl, ⟨Or.inl rfl, True.intro⟩⟩⟩⟩⟩⟩⟩) ?_
        exact c_X5_taxOf_65 (F_X5_taxOf_25 n) ih m16 x22 a3 x21 a5 hS
theorem kc_X5_taxOf (m : Mem) (a1 : Int32) (hS : ShX m) : ∀ v mE, F_X5_taxOf m a1 = some (v, mE) → Con true kX5_taxOf 6 [.ref 0, .int a1] m (eI v) mE := by
  refine Con.of (ini := false) (ls0 := [.ref 0, .int a1, .null, .null, .null, .null, .null]) (ri := .ireturn) (by decide) (by intro z; cases z) rfl (Nat.le_of_ble_eq_true rfl) (fun v mE _ => RetTy.i) ?_
  show Cv true (cX5_taxOf, 7, RX5, 6, ((false, none) : IK)) .ireturn eI (F_X5_taxOf m a1) m 0 [.ref 0, .int a1, .null, .null, .null, .null, .null] []
  unfold F_X5_taxOf
  refine Cv.go (pc' := 1) (go_aload_n (i := 0) (x := 0) dX5_taxOf_0 rfl rfl) ?_
  refine Cv.go (pc' := 2) (go_iload_n (i := 1) (x := a1) dX5_taxOf_1 rfl rfl) ?_
  refine Cv.go (pc' := 3) (go_iconst dX5_taxOf_2 ic_0) ?_
  refine Cv.bnd fun v1 m2 e3 => ?_
  have C4 := kc_X5_layWorths m a1 (0 : Int32) hS v1 m2 e3
  refine Cv.go (pc' := 6) (st' := []) (go_callV (As := [.int a1, .int (0 : Int32)]) (st := []) C4 (by decide) ok_X5_layWorths li_X5_layWorths ls_X5_layWorths lm_X5_193 cls5 (sx_k0 hS) rfl rfl (Nat.le_of_ble_eq_true rfl) dX5_taxOf_3) ?_
  have zm2 := C4.1.2.2 rfl
  have hS := hS.sh zm2
  refine Cv.go (pc' := 7) (go_aload_n (i := 0) (x := 0) dX5_taxOf_6 rfl rfl) ?_
  refine Cv.go (pc' := 8) (go_iload_n (i := 1) (x := a1) dX5_taxOf_7 rfl rfl) ?_
  refine Cv.bnd fun v5 m6 e7 => ?_
  have C8 := kc_X5_coinsOf m2 a1 hS v5 m6 e7
  refine Cv.go (pc' := 11) (st' := [.int v5]) (go_callV (As := [.int a1]) (st := []) C8 (by decide) ok_X5_coinsOf li_X5_coinsOf ls_X5_coinsOf lm_X5_178 cls5 (sx_k0 hS) rfl rfl (Nat.le_of_ble_eq_true rfl) dX5_taxOf_8) ?_
  have zm6 := C8.1.2.2 rfl
  have hS := hS.sh zm6
  refine Cv.go (pc' := 12) (ls' := [.ref 0, .int a1, .int v5, .null, .null, .null, .null]) (go_istore_n dX5_taxOf_11 rfl (by decide) rfl) ?_
  refine Cv.go (pc' := 13) (go_iload_n (i := 2) (x := v5) dX5_taxOf_12 rfl rfl) ?_
  refine Cv.bnd fun v9 m10 e11 => ?_
  have C12 := kc_J6_bitCount_0f7a4 m6 v5 v9 m10 e11
  refine Cv.go (pc' := 16) (st' := [.int v9]) (go_callS (As := [.int v5]) (st := []) C12 (by decide) ok_J6_bitCount_0f7a4 lt_J6_bitCount_0f7a4 lm_X5_164 rfl rfl (Nat.le_of_ble_eq_true rfl) dX5_taxOf_13) ?_
  have zm10 := C12.1.2.2 rfl
  have hS := hS.sh zm10
  refine Cv.go (pc' := 17) (go_iconst dX5_taxOf_16 ic_2) ?_
  refine Cv.go (pc' := 18) (go_idiv dX5_taxOf_17 (by decide)) ?_
  refine Cv.namI fun x13 ex13 => ?_
  refine Cv.go (pc' := 19) (ls' := [.ref 0, .int a1, .int v5, .int x13, .null, .null, .null]) (go_istore_n dX5_taxOf_18 rfl (by decide) rfl) ?_
  refine Cv.go (pc' := 20) (go_iconst dX5_taxOf_19 ic_0) ?_
  refine Cv.go (pc' := 22) (ls' := [.ref 0, .int a1, .int v5, .int x13, .int (0 : Int32), .null, .null]) (go_istore dX5_taxOf_20 (by decide) rfl) ?_
  refine Cv.go (pc' := 23) (go_iconst dX5_taxOf_22 ic_0) ?_
  refine Cv.go (pc' := 25) (ls' := [.ref 0, .int a1, .int v5, .int x13, .int (0 : Int32), .int (0 : Int32), .null]) (go_istore dX5_taxOf_23 (by decide) rfl) ?_
  refine Cv.weak (ls' := [.ref 0, .null, .int v5, .int x13, .int (0 : Int32), .int (0 : Int32), .null]) (⟨Or.inr rfl, ⟨Or.inl rfl, ⟨Or.inr rfl, ⟨Or.inr rfl, ⟨Or.inr rfl, ⟨Or.inr rfl, ⟨Or.inr rfl, True.intro⟩⟩⟩⟩⟩⟩⟩) ?_
  exact c_X5_taxOf_25 FU m10 v5 x13 (0 : Int32) (0 : Int32) hS
theorem kc_X5_has (m : Mem) (a1 : Int32) (a2 : Int32) (hS : ShX m) : ∀ v mE, F_X5_has m a1 a2 = some (v, mE) → Con true kX5_has 7 [.ref 0, .int a1, .int a2] m (eI v) mE := by
  refine Con.of (ini := false) (ls0 := [.ref 0, .int a1, .int a2]) (ri := .ireturn) (by decide) (by intro z; cases z) rfl (Nat.le_of_ble_eq_true rfl) (fun v mE _ => RetTy.i) ?_
  show Cv true (cX5_has, 3, RX5, 7, ((false, none) : IK)) .ireturn eI (F_X5_has m a1 a2) m 0 [.ref 0, .int a1, .int a2] []
  unfold F_X5_has
  refine Cv.go (pc' := 1) (go_iconst dX5_has_0 ic_5) ?_
  refine Cv.go (pc' := 2) (go_iload_n (i := 1) (x := a1) dX5_has_1 rfl rfl) ?_
  refine Cv.bnd fun v1 m2 e3 => ?_
  have C4 := kc_X5_isOf m (5 : Int32) a1 v1 m2 e3
  refine Cv.go (pc' := 5) (st' := [.int (bz v1)]) (go_callS (As := [.int (5 : Int32), .int a1]) (st := []) C4 (by decide) ok_X5_isOf lt_X5_isOf lm_X5_99 rfl rfl (Nat.le_of_ble_eq_true rfl) dX5_has_2) ?_
  have zm2 := C4.1.2.2 rfl
  have hS := hS.sh zm2
  refine Cv.ite (fun h5 => ?_) (fun h5 => ?_)
  · refine Cv.go (pc' := 8) (go_if_ne_f 11 dX5_has_5 rfl h5) ?_
    refine Cv.go (pc' := 10) (go_ldc dX5_has_8 lc_X5_110) ?_
    exact Cv.ret dX5_has_10 rfl
  · refine Cv.go (pc' := 11) (go_if_ne_t (tgt := 11) dX5_has_5 rfl h5) ?_
    refine Cv.go (pc' := 12) (go_iload_n (i := 2) (x := a2) dX5_has_11 rfl rfl) ?_
    refine Cv.ite (fun h6 => ?_) (fun h6 => ?_)
    · refine Cv.go (pc' := 56) (go_tsIn (off := 44) (tgt := 56) dX5_has_12 (by rw [h6]; decide) (by rw [h6]; decide) (by rw [h6]; rfl) rfl) ?_
      refine Cv.go (pc' := 57) (go_aload_n (i := 0) (x := 0) dX5_has_56 rfl rfl) ?_
      refine Cv.go (pc' := 58) (go_iload_n (i := 1) (x := a1) dX5_has_57 rfl rfl) ?_
      refine Cv.go (pc' := 59) (go_iconst dX5_has_58 ic_0) ?_
      refine Cv.bnd fun v7 m8 e9 => ?_
      have C10 := kc_X5_richBehind m2 a1 (0 : Int32) hS v7 m8 e9
      refine Cv.go (pc' := 62) (st' := [.int v7]) (go_callV (As := [.int a1, .int (0 : Int32)]) (st := []) C10 (by decide) ok_X5_richBehind li_X5_richBehind ls_X5_richBehind lm_X5_169 cls5 (sx_k0 hS) rfl rfl (Nat.le_of_ble_eq_true rfl) dX5_has_59) ?_
      have zm8 := C10.1.2.2 rfl
      have hS := hS.sh zm8
      exact Cv.ret dX5_has_62 rfl
    · refine Cv.ite (fun h11 => ?_) (fun h11 => ?_)
      · refine Cv.go (pc' := 63) (go_tsIn (off := 51) (tgt := 63) dX5_has_12 (by rw [h11]; decide) (by rw [h11]; decide) (by rw [h11]; rfl) rfl) ?_
        refine Cv.go (pc' := 64) (go_aload_n (i := 0) (x := 0) dX5_has_63 rfl rfl) ?_
        refine Cv.go (pc' := 65) (go_iload_n (i := 1) (x := a1) dX5_has_64 rfl rfl) ?_
        refine Cv.go (pc' := 66) (go_iconst dX5_has_65 ic_0) ?_
        refine Cv.bnd fun v12 m13 e14 => ?_
        have C15 := kc_X5_purseBehind m2 a1 (0 : Int32) hS v12 m13 e14
        refine Cv.go (pc' := 69) (st' := [.int v12]) (go_callV (As := [.int a1, .int (0 : Int32)]) (st := []) C15 (by decide) ok_X5_purseBehind li_X5_purseBehind ls_X5_purseBehind lm_X5_172 cls5 (sx_k0 hS) rfl rfl (Nat.le_of_ble_eq_true rfl) dX5_has_66) ?_
        have zm13 := C15.1.2.2 rfl
        have hS := hS.sh zm13
        exact Cv.ret dX5_has_69 rfl
      · refine Cv.ite (fun h16 => ?_) (fun h16 => ?_)
        · refine Cv.go (pc' := 70) (go_tsIn (off := 58) (tgt := 70) dX5_has_12 (by rw [h16]; decide) (by rw [h16]; decide) (by rw [h16]; rfl) rfl) ?_
          refine Cv.go (pc' := 71) (go_aload_n (i := 0) (x := 0) dX5_has_70 rfl rfl) ?_
          refine Cv.go (pc' := 72) (go_aload_n (i := 0) (x := 0) dX5_has_71 rfl rfl) ?_
          refine Cv.go (pc' := 73) (go_iload_n (i := 1) (x := a1) dX5_has_72 rfl rfl) ?_
          refine Cv.go (pc' := 74) (go_iconst dX5_has_73 ic_0) ?_
          refine Cv.bnd fun v17 m18 e19 => ?_
          have C20 := kc_X5_purseBehind m2 a1 (0 : Int32) hS v17 m18 e19
          refine Cv.go (pc' := 77) (st' := [.int v17, .ref 0]) (go_callV (As := [.int a1, .int (0 : Int32)]) (st := [.ref 0]) C20 (by decide) ok_X5_purseBehind li_X5_purseBehind ls_X5_purseBehind lm_X5_172 cls5 (sx_k0 hS) rfl rfl (Nat.le_of_ble_eq_true rfl) dX5_has_74) ?_
          have zm18 := C20.1.2.2 rfl
          have hS := hS.sh zm18
          refine Cv.bnd fun v21 m22 e23 => ?_
          have C24 := kc_X5_valuesOf m18 v17 hS v21 m22 e23
          refine Cv.go (pc' := 80) (st' := [.int v21]) (go_callV (As := [.int v17]) (st := []) C24 (by decide) ok_X5_valuesOf li_X5_valuesOf ls_X5_valuesOf lm_X5_175 cls5 (sx_k0 hS) rfl rfl (Nat.le_of_ble_eq_true rfl) dX5_has_77) ?_
          have zm22 := C24.1.2.2 rfl
          have hS := hS.sh zm22
          exact Cv.ret dX5_has_80 rfl
        · refine Cv.ite (fun h25 => ?_) (fun h25 => ?_)
          · refine Cv.go (pc' := 81) (go_tsIn (off := 69) (tgt := 81) dX5_has_12 (by rw [h25]; decide) (by rw [h25]; decide) (by rw [h25]; rfl) rfl) ?_
            refine Cv.go (pc' := 82) (go_aload_n (i := 0) (x := 0) dX5_has_81 rfl rfl) ?_
            refine Cv.go (pc' := 83) (go_iload_n (i := 1) (x := a1) dX5_has_82 rfl rfl) ?_
            refine Cv.bnd fun v26 m27 e28 => ?_
            have C29 := kc_X5_coinsOf m2 a1 hS v26 m27 e28
            refine Cv.go (pc' := 86) (st' := [.int v26]) (go_callV (As := [.int a1]) (st := []) C29 (by decide) ok_X5_coinsOf li_X5_coinsOf ls_X5_coinsOf lm_X5_178 cls5 (sx_k0 hS) rfl rfl (Nat.le_of_ble_eq_true rfl) dX5_has_83) ?_
            have zm27 := C29.1.2.2 rfl
            have hS := hS.sh zm27
            refine Cv.go (pc' := 87) (go_aload_n (i := 0) (x := 0) dX5_has_86 rfl rfl) ?_
            refine Cv.go (pc' := 88) (go_iload_n (i := 1) (x := a1) dX5_has_87 rfl rfl) ?_
            refine Cv.go (pc' := 89) (go_iconst dX5_has_88 ic_0) ?_
            refine Cv.bnd fun v30 m31 e32 => ?_
            have C33 := kc_X5_purseBehind m27 a1 (0 : Int32) hS v30 m31 e32
            refine Cv.go (pc' := 92) (st' := [.int v30, .int v26]) (go_callV (As := [.int a1, .int (0 : Int32)]) (st := [.int v26]) C33 (by decide) ok_X5_purseBehind li_X5_purseBehind ls_X5_purseBehind lm_X5_172 cls5 (sx_k0 hS) rfl rfl (Nat.le_of_ble_eq_true rfl) dX5_has_89) ?_
            have zm31 := C33.1.2.2 rfl
            have hS := hS.sh zm31
            refine Cv.go (pc' := 93) (go_iconst dX5_has_92 ic_n1) ?_
            refine Cv.go (pc' := 94) (go_ixor dX5_has_93) ?_
            refine Cv.go (pc' := 95) (go_iand dX5_has_94) ?_
            exact Cv.ret dX5_has_95 rfl
          · refine Cv.ite (fun h34 => ?_) (fun h34 => ?_)
            · refine Cv.go (pc' := 96) (go_tsIn (off := 84) (tgt := 96) dX5_has_12 (by rw [h34]; decide) (by rw [h34]; decide) (by rw [h34]; rfl) rfl) ?_
              refine Cv.go (pc' := 97) (go_aload_n (i := 0) (x := 0) dX5_has_96 rfl rfl) ?_
              refine Cv.go (pc' := 98) (go_iload_n (i := 1) (x := a1) dX5_has_97 rfl rfl) ?_
              refine Cv.bnd fun v35 m36 e37 => ?_
              have C38 := kc_X5_toSpend m2 a1 hS v35 m36 e37
              refine Cv.go (pc' := 101) (st' := [.int v35]) (go_callV (As := [.int a1]) (st := []) C38 (by decide) ok_X5_toSpend li_X5_toSpend ls_X5_toSpend lm_X5_181 cls5 (sx_k0 hS) rfl rfl (Nat.le_of_ble_eq_true rfl) dX5_has_98) ?_
              have zm36 := C38.1.2.2 rfl
              have hS := hS.sh zm36
              exact Cv.ret dX5_has_101 rfl
            · refine Cv.ite (fun h39 => ?_) (fun h39 => ?_)
              · refine Cv.go (pc' := 102) (go_tsIn (off := 90) (tgt := 102) dX5_has_12 (by rw [h39]; decide) (by rw [h39]; decide) (by rw [h39]; rfl) rfl) ?_
                refine Cv.go (pc' := 103) (go_aload_n (i := 0) (x := 0) dX5_has_102 rfl rfl) ?_
                refine Cv.go (pc' := 104) (go_iload_n (i := 1) (x := a1) dX5_has_103 rfl rfl) ?_
                refine Cv.bnd fun v40 m41 e42 => ?_
                have C43 := kc_X5_goneBehind m2 a1 hS v40 m41 e42
                refine Cv.go (pc' := 107) (st' := [.int v40]) (go_callV (As := [.int a1]) (st := []) C43 (by decide) ok_X5_goneBehind li_X5_goneBehind ls_X5_goneBehind lm_X5_184 cls5 (sx_k0 hS) rfl rfl (Nat.le_of_ble_eq_true rfl) dX5_has_104) ?_
                have zm41 := C43.1.2.2 rfl
                have hS := hS.sh zm41
                exact Cv.ret dX5_has_107 rfl
              · refine Cv.ite (fun h44 => ?_) (fun h44 => ?_)
                · refine Cv.go (pc' := 108) (go_tsIn (off := 96) (tgt := 108) dX5_has_12 (by rw [h44]; decide) (by rw [h44]; decide) (by rw [h44]; rfl) rfl) ?_
                  refine Cv.go (pc' := 109) (go_aload_n (i := 0) (x := 0) dX5_has_108 rfl rfl) ?_
                  refine Cv.go (pc' := 110) (go_iload_n (i := 1) (x := a1) dX5_has_109 rfl rfl) ?_
                  refine Cv.bnd fun v45 m46 e47 => ?_
                  have C48 := kc_X5_taxOf m2 a1 hS v45 m46 e47
                  refine Cv.go (pc' := 113) (st' := [.int v45]) (go_callV (As := [.int a1]) (st := []) C48 (by decide) ok_X5_taxOf li_X5_taxOf ls_X5_taxOf lm_X5_187 cls5 (sx_k0 hS) rfl rfl (Nat.le_of_ble_eq_true rfl) dX5_has_110) ?_
                  have zm46 := C48.1.2.2 rfl
                  have hS := hS.sh zm46
                  exact Cv.ret dX5_has_113 rfl
                · refine Cv.go (pc' := 114) (go_tsOut (tgt := 114) dX5_has_12 (by have n0 : (a2).toInt ≠ 0 := fun z => h6 (Int32.toInt_inj.mp (z.trans (by decide))); have n1 : (a2).toInt ≠ 1 := fun z => h11 (Int32.toInt_inj.mp (z.trans (by decide))); have n2 : (a2).toInt ≠ 2 := fun z => h16 (Int32.toInt_inj.mp (z.trans (by decide))); have n3 : (a2).toInt ≠ 3 := fun z => h25 (Int32.toInt_inj.mp (z.trans (by decide))); have n4 : (a2).toInt ≠ 4 := fun z => h34 (Int32.toInt_inj.mp (z.trans (by decide))); have n5 : (a2).toInt ≠ 5 := fun z => h39 (Int32.toInt_inj.mp (z.trans (by decide))); have n6 : (a2).toInt ≠ 6 := fun z => h44 (Int32.toInt_inj.mp (z.trans (by decide))); omega) rfl) ?_
                  refine Cv.go (pc' := 116) (go_ldc dX5_has_114 lc_X5_110) ?_
                  exact Cv.ret dX5_has_116 rfl
