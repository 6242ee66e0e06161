theorem kc_X3_put (m : Mem) (a1 : Int32) (hS : ShX m) : ∀ v mE, F_X3_put m a1 = some (v, mE) → Con true kX3_put 0 [.ref 2, .int a1] m (eZ v) mE := by
  refine Con.of (ini := false) (ls0 := [.ref 2, .int a1]) (ri := .ireturn) (by decide) (by intro z; cases z) rfl (Nat.le_of_ble_eq_true rfl) (fun v mE _ => RetTy.z) ?_
  show Cv true (cX3_put, 2, RX3, 0, ((false, none) : IK)) .ireturn eZ (F_X3_put m a1) m 0 [.ref 2, .int a1] []
  unfold F_X3_put
  refine Cv.go (pc' := 1) (go_aload_n (i := 0) (x := 2) dX3_put_0 rfl rfl) ?_
  refine Cv.go (pc' := 4) (go_getI (i := 6) cls3 (sx_k2 hS) (by decide) rfl lf_X3_27 (by decide) dX3_put_1) ?_
  refine Cv.go (pc' := 5) (go_aload_n (i := 0) (x := 2) dX3_put_4 rfl rfl) ?_
  refine Cv.go (pc' := 8) (go_getR (i := 5) cls3 (sx_k2 hS) (by decide) rfl lf_X3_15 (Or.inr ⟨_, rfl⟩) (sx_r2_5 hS) dX3_put_5) ?_
  refine Cv.go (pc' := 9) (go_alen (t := 7) (t0 := 0) (sx_k4 hS) (by decide) (fun _ => rfl) dX3_put_8) ?_
  refine Cv.ite (fun h1 => ?_) (fun h1 => ?_)
  · refine Cv.go (pc' := 32) (go_icmp_ge_t (tgt := 32) dX3_put_9 rfl h1) ?_
    refine Cv.go (pc' := 33) (go_iconst dX3_put_32 ic_1) ?_
    exact Cv.ret dX3_put_33 rfl
  · refine Cv.go (pc' := 12) (go_icmp_ge_f 32 dX3_put_9 rfl h1) ?_
    refine Cv.go (pc' := 13) (go_aload_n (i := 0) (x := 2) dX3_put_12 rfl rfl) ?_
    refine Cv.go (pc' := 16) (go_getR (i := 5) cls3 (sx_k2 hS) (by decide) rfl lf_X3_15 (Or.inr ⟨_, rfl⟩) (sx_r2_5 hS) dX3_put_13) ?_
    refine Cv.go (pc' := 17) (go_aload_n (i := 0) (x := 2) dX3_put_16 rfl rfl) ?_
    refine Cv.go (pc' := 20) (go_getI (i := 6) cls3 (sx_k2 hS) (by decide) rfl lf_X3_27 (by decide) dX3_put_17) ?_
    refine Cv.go (pc' := 21) (go_iload_n (i := 1) (x := a1) dX3_put_20 rfl rfl) ?_
    refine Cv.gif fun g2 => ?_
    refine Cv.go (pc' := 22) (go_iastore (sx_k4 hS) g2 dX3_put_21) ?_
    refine Cv.namM fun m3 em3 => ?_
    have zm3 : SameSh m m3 := em3 ▸ SameSh.d
    have hS := hS.sh zm3
    refine Cv.go (pc' := 23) (go_aload_n (i := 0) (x := 2) dX3_put_22 rfl rfl) ?_
    refine Cv.go (pc' := 24) (go_dup_a dX3_put_23) ?_
    refine Cv.go (pc' := 27) (go_getI (i := 6) cls3 (sx_k2 hS) (by decide) rfl lf_X3_27 (by decide) dX3_put_24) ?_
    refine Cv.go (pc' := 28) (go_iconst dX3_put_27 ic_1) ?_
    refine Cv.go (pc' := 29) (go_iadd dX3_put_28) ?_
    refine Cv.go (pc' := 32) (go_putI (i := 6) cls3 (sx_k2 hS) (by decide) rfl lf_X3_27 (by decide) rfl rfl rfl dX3_put_29) ?_
    refine Cv.namM fun m4 em4 => ?_
    have zm4 : SameSh m3 m4 := em4 ▸ SameSh.d
    have hS := hS.sh zm4
    refine Cv.go (pc' := 33) (go_iconst dX3_put_32 ic_1) ?_
    exact Cv.ret dX3_put_33 rfl
theorem kc_X3_levelOf (m : Mem) (a0 : Int32) : ∀ v mE, F_X3_levelOf m a0 = some (v, mE) → Con true kX3_levelOf 0 [.int a0] m (eI v) mE := by
  refine Con.of (ini := false) (ls0 := [.int a0]) (ri := .ireturn) (by decide) (by intro z; cases z) rfl (Nat.le_of_ble_eq_true rfl) (fun v mE _ => RetTy.i) ?_
  show Cv true (cX3_levelOf, 1, RX3, 0, ((false, none) : IK)) .ireturn eI (F_X3_levelOf m a0) m 0 [.int a0] []
  unfold F_X3_levelOf
  refine Cv.go (pc' := 1) (go_iload_n (i := 0) (x := a0) dX3_levelOf_0 rfl rfl) ?_
  refine Cv.ite (fun h1 => ?_) (fun h1 => ?_)
  · refine Cv.go (pc' := 56) (go_tsIn (off := 55) (tgt := 56) dX3_levelOf_1 (by rw [h1]; decide) (by rw [h1]; decide) (by rw [h1]; rfl) rfl) ?_
    refine Cv.go (pc' := 57) (go_iconst dX3_levelOf_56 ic_4) ?_
    exact Cv.ret dX3_levelOf_57 rfl
  · refine Cv.ite (fun h2 => ?_) (fun h2 => ?_)
    · refine Cv.go (pc' := 54) (go_tsIn (off := 53) (tgt := 54) dX3_levelOf_1 (by rw [h2]; decide) (by rw [h2]; decide) (by rw [h2]; rfl) rfl) ?_
      refine Cv.go (pc' := 55) (go_iconst dX3_levelOf_54 ic_3) ?_
      exact Cv.ret dX3_levelOf_55 rfl
    · refine Cv.ite (fun h3 => ?_) (fun h3 => ?_)
      · refine Cv.go (pc' := 54) (go_tsIn (off := 53) (tgt := 54) dX3_levelOf_1 (by rw [h3]; decide) (by rw [h3]; decide) (by rw [h3]; rfl) rfl) ?_
        refine Cv.go (pc' := 55) (go_iconst dX3_levelOf_54 ic_3) ?_
        exact Cv.ret dX3_levelOf_55 rfl
      · refine Cv.ite (fun h4 => ?_) (fun h4 => ?_)
        · refine Cv.go (pc' := 52) (go_tsIn (off := 51) (tgt := 52) dX3_levelOf_1 (by rw [h4]; decide) (by rw [h4]; decide) (by rw [h4]; rfl) rfl) ?_
          refine Cv.go (pc' := 53) (go_iconst dX3_levelOf_52 ic_2) ?_
          exact Cv.ret dX3_levelOf_53 rfl
        · refine Cv.ite (fun h5 => ?_) (fun h5 => ?_)
          · refine Cv.go (pc' := 52) (go_tsIn (off := 51) (tgt := 52) dX3_levelOf_1 (by rw [h5]; decide) (by rw [h5]; decide) (by rw [h5]; rfl) rfl) ?_
            refine Cv.go (pc' := 53) (go_iconst dX3_levelOf_52 ic_2) ?_
            exact Cv.ret dX3_levelOf_53 rfl
          · refine Cv.ite (fun h6 => ?_) (fun h6 => ?_)
            · refine Cv.go (pc' := 58) (go_tsIn (off := 57) (tgt := 58) dX3_levelOf_1 (by rw [h6]; decide) (by rw [h6]; decide) (by rw [h6]; rfl) rfl) ?_
              refine Cv.go (pc' := 59) (go_iconst dX3_levelOf_58 ic_n1) ?_
              exact Cv.ret dX3_levelOf_59 rfl
            · refine Cv.ite (fun h7 => ?_) (fun h7 => ?_)
              · refine Cv.go (pc' := 50) (go_tsIn (off := 49) (tgt := 50) dX3_levelOf_1 (by rw [h7]; decide) (by rw [h7]; decide) (by rw [h7]; rfl) rfl) ?_
                refine Cv.go (pc' := 51) (go_iconst dX3_levelOf_50 ic_1) ?_
                exact Cv.ret dX3_levelOf_51 rfl
              · refine Cv.ite (fun h8 => ?_) (fun h8 => ?_)
                · refine Cv.go (pc' := 48) (go_tsIn (off := 47) (tgt := 48) dX3_levelOf_1 (by rw [h8]; decide) (by rw [h8]; decide) (by rw [h8]; rfl) rfl) ?_
                  refine Cv.go (pc' := 49) (go_iconst dX3_levelOf_48 ic_0) ?_
                  exact Cv.ret dX3_levelOf_49 rfl
                · refine Cv.go (pc' := 58) (go_tsOut (tgt := 58) dX3_levelOf_1 (by have n0 : (a0).toInt ≠ -17 := fun z => h1 (Int32.toInt_inj.mp (z.trans (by decide))); have n1 : (a0).toInt ≠ -16 := fun z => h2 (Int32.toInt_inj.mp (z.trans (by decide))); have n2 : (a0).toInt ≠ -15 := fun z => h3 (Int32.toInt_inj.mp (z.trans (by decide))); have n3 : (a0).toInt ≠ -14 := fun z => h4 (Int32.toInt_inj.mp (z.trans (by decide))); have n4 : (a0).toInt ≠ -13 := fun z => h5 (Int32.toInt_inj.mp (z.trans (by decide))); have n5 : (a0).toInt ≠ -12 := fun z => h6 (Int32.toInt_inj.mp (z.trans (by decide))); have n6 : (a0).toInt ≠ -11 := fun z => h7 (Int32.toInt_inj.mp (z.trans (by decide))); have n7 : (a0).toInt ≠ -10 := fun z => h8 (Int32.toInt_inj.mp (z.trans (by decide))); omega) rfl) ?_
                  refine Cv.go (pc' := 59) (go_iconst dX3_levelOf_58 ic_n1) ?_
                  exact Cv.ret dX3_levelOf_59 rfl
theorem kc_X5_isBetween (m : Mem) (a0 : Int32) (a1 : Int32) (a2 : Int32) : ∀ v mE, F_X5_isBetween m a0 a1 a2 = some (v, mE) → Con true kX5_isBetween 0 [.int a0, .int a1, .int a2] m (eZ v) mE := by
  refine Con.of (ini := false) (ls0 := [.int a0, .int a1, .int a2]) (ri := .ireturn) (by decide) (by intro z; cases z) rfl (Nat.le_of_ble_eq_true rfl) (fun v mE _ => RetTy.z) ?_
  show Cv true (cX5_isBetween, 3, RX5, 0, ((false, none) : IK)) .ireturn eZ (F_X5_isBetween m a0 a1 a2) m 0 [.int a0, .int a1, .int a2] []
  unfold F_X5_isBetween
  refine Cv.go (pc' := 1) (go_iload_n (i := 0) (x := a0) dX5_isBetween_0 rfl rfl) ?_
  refine Cv.go (pc' := 2) (go_iload_n (i := 1) (x := a1) dX5_isBetween_1 rfl rfl) ?_
  refine Cv.ite (fun h1 => ?_) (fun h1 => ?_)
  · refine Cv.go (pc' := 14) (go_icmp_lt_t (tgt := 14) dX5_isBetween_2 rfl h1) ?_
    refine Cv.go (pc' := 15) (go_iconst dX5_isBetween_14 ic_0) ?_
    exact Cv.ret dX5_isBetween_15 rfl
  · refine Cv.go (pc' := 5) (go_icmp_lt_f 14 dX5_isBetween_2 rfl h1) ?_
    refine Cv.go (pc' := 6) (go_iload_n (i := 0) (x := a0) dX5_isBetween_5 rfl rfl) ?_
    refine Cv.go (pc' := 7) (go_iload_n (i := 2) (x := a2) dX5_isBetween_6 rfl rfl) ?_
    refine Cv.ite (fun h2 => ?_) (fun h2 => ?_)
    · refine Cv.go (pc' := 14) (go_icmp_gt_t (tgt := 14) dX5_isBetween_7 rfl h2) ?_
      refine Cv.go (pc' := 15) (go_iconst dX5_isBetween_14 ic_0) ?_
      exact Cv.ret dX5_isBetween_15 rfl
    · refine Cv.go (pc' := 10) (go_icmp_gt_f 14 dX5_isBetween_7 rfl h2) ?_
      refine Cv.go (pc' := 11) (go_iconst dX5_isBetween_10 ic_1) ?_
      refine Cv.go (pc' := 15) (go_goto (tgt := 15) dX5_isBetween_11 rfl) ?_
      exact Cv.ret dX5_isBetween_15 rfl
theorem kc_X3_sign (m : Mem) (a0 : Int32) : ∀ v mE, F_X3_sign m a0 = some (v, mE) → Con true kX3_sign 0 [.int a0] m (eI v) mE := by
  refine Con.of (ini := false) (ls0 := [.int a0]) (ri := .ireturn) (by decide) (by intro z; cases z) rfl (Nat.le_of_ble_eq_true rfl) (fun v mE _ => RetTy.i) ?_
  show Cv true (cX3_sign, 1, RX3, 0, ((false, none) : IK)) .ireturn eI (F_X3_sign m a0) m 0 [.int a0] []
  unfold F_X3_sign
  refine Cv.go (pc' := 1) (go_iload_n (i := 0) (x := a0) dX3_sign_0 rfl rfl) ?_
  refine Cv.ite (fun h1 => ?_) (fun h1 => ?_)
  · refine Cv.go (pc' := 104) (go_tsIn (off := 103) (tgt := 104) dX3_sign_1 (by rw [h1]; decide) (by rw [h1]; decide) (by rw [h1]; rfl) rfl) ?_
    refine Cv.go (pc' := 106) (go_bipush dX3_sign_104 ib_n19) ?_
    exact Cv.ret dX3_sign_106 rfl
  · refine Cv.ite (fun h2 => ?_) (fun h2 => ?_)
    · refine Cv.go (pc' := 107) (go_tsIn (off := 106) (tgt := 107) dX3_sign_1 (by rw [h2]; decide) (by rw [h2]; decide) (by rw [h2]; rfl) rfl) ?_
      refine Cv.go (pc' := 109) (go_bipush dX3_sign_107 ib_n20) ?_
      exact Cv.ret dX3_sign_109 rfl
    · refine Cv.ite (fun h3 => ?_) (fun h3 => ?_)
      · refine Cv.go (pc' := 119) (go_tsIn (off := 118) (tgt := 119) dX3_sign_1 (by rw [h3]; decide) (by rw [h3]; decide) (by rw [h3]; rfl) rfl) ?_
        refine Cv.go (pc' := 121) (go_bipush dX3_sign_119 ib_n17) ?_
        exact Cv.ret dX3_sign_121 rfl
      · refine Cv.ite (fun h4 => ?_) (fun h4 => ?_)
        · refine Cv.go (pc' := 113) (go_tsIn (off := 112) (tgt := 113) dX3_sign_1 (by rw [h4]; decide) (by rw [h4]; decide) (by rw [h4]; rfl) rfl) ?_
          refine Cv.go (pc' := 115) (go_bipush dX3_sign_113 ib_n15) ?_
          exact Cv.ret dX3_sign_115 rfl
        · refine Cv.ite (fun h5 => ?_) (fun h5 => ?_)
          · refine Cv.go (pc' := 128) (go_tsIn (off := 127) (tgt := 128) dX3_sign_1 (by rw [h5]; decide) (by rw [h5]; decide) (by rw [h5]; rfl) rfl) ?_
            refine Cv.go (pc' := 130) (go_bipush dX3_sign_128 ib_n23) ?_
            exact Cv.ret dX3_sign_130 rfl
          · refine Cv.ite (fun h6 => ?_) (fun h6 => ?_)
            · refine Cv.go (pc' := 116) (go_tsIn (off := 115) (tgt := 116) dX3_sign_1 (by rw [h6]; decide) (by rw [h6]; decide) (by rw [h6]; rfl) rfl) ?_
              refine Cv.go (pc' := 118) (go_bipush dX3_sign_116 ib_n16) ?_
              exact Cv.ret dX3_sign_118 rfl
            · refine Cv.ite (fun h7 => ?_) (fun h7 => ?_)
              · refine Cv.go (pc' := 128) (go_tsIn (off := 127) (tgt := 128) dX3_sign_1 (by rw [h7]; decide) (by rw [h7]; decide) (by rw [h7]; rfl) rfl) ?_
                refine Cv.go (pc' := 130) (go_bipush dX3_sign_128 ib_n23) ?_
                exact Cv.ret dX3_sign_130 rfl
              · refine Cv.ite (fun h8 => ?_) (fun h8 => ?_)
                · refine Cv.go (pc' := 128) (go_tsIn (off := 127) (tgt := 128) dX3_sign_1 (by rw [h8]; decide) (by rw [h8]; decide) (by rw [h8]; rfl) rfl) ?_
                  refine Cv.go (pc' := 130) (go_bipush dX3_sign_128 ib_n23) ?_
                  exact Cv.ret dX3_sign_130 rfl
                · refine Cv.ite (fun h9 => ?_) (fun h9 => ?_)
                  · refine Cv.go (pc' := 128) (go_tsIn (off := 127) (tgt := 128) dX3_sign_1 (by rw [h9]; decide) (by rw [h9]; decide) (by rw [h9]; rfl) rfl) ?_
                    refine Cv.go (pc' := 130) (go_bipush dX3_sign_128 ib_n23) ?_
                    exact Cv.ret dX3_sign_130 rfl
                  · refine Cv.ite (fun h10 => ?_) (fun h10 => ?_)
                    · refine Cv.go (pc' := 128) (go_tsIn (off := 127) (tgt := 128) dX3_sign_1 (by rw [h10]; decide) (by rw [h10]; decide) (by rw [h10]; rfl) rfl) ?_
                      refine Cv.go (pc' := 130) (go_bipush dX3_sign_128 ib_n23) ?_
                      exact Cv.ret dX3_sign_130 rfl
                    · refine Cv.ite (fun h11 => ?_) (fun h11 => ?_)
                      · refine Cv.go (pc' := 128) (go_tsIn (off := 127) (tgt := 128) dX3_sign_1 (by rw [h11]; decide) (by rw [h11]; decide) (by rw [h11]; rfl) rfl) ?_
                        refine Cv.go (pc' := 130) (go_bipush dX3_sign_128 ib_n23) ?_
                        exact Cv.ret dX3_sign_130 rfl
                      · refine Cv.ite (fun h12 => ?_) (fun h12 => ?_)
                        · refine Cv.go (pc' := 128) (go_tsIn (off := 127) (tgt := 128) dX3_sign_1 (by rw [h12]; decide) (by rw [h12]; decide) (by rw [h12]; rfl) rfl) ?_
                          refine Cv.go (pc' := 130) (go_bipush dX3_sign_128 ib_n23) ?_
                          exact Cv.ret dX3_sign_130 rfl
                        · refine Cv.ite (fun h13 => ?_) (fun h13 => ?_)
                          · refine Cv.go (pc' := 128) (go_tsIn (off := 127) (tgt := 128) dX3_sign_1 (by rw [h13]; decide) (by rw [h13]; decide) (by rw [h13]; rfl) rfl) ?_
                            refine Cv.go (pc' := 130) (go_bipush dX3_sign_128 ib_n23) ?_
                            exact Cv.ret dX3_sign_130 rfl
                          · refine Cv.ite (fun h14 => ?_) (fun h14 => ?_)
                            · refine Cv.go (pc' := 128) (go_tsIn (off := 127) (tgt := 128) dX3_sign_1 (by rw [h14]; decide) (by rw [h14]; decide) (by rw [h14]; rfl) rfl) ?_
                              refine Cv.go (pc' := 130) (go_bipush dX3_sign_128 ib_n23) ?_
                              exact Cv.ret dX3_sign_130 rfl
                            · refine Cv.ite (fun h15 => ?_) (fun h15 => ?_)
                              · refine Cv.go (pc' := 128) (go_tsIn (off := 127) (tgt := 128) dX3_sign_1 (by rw [h15]; decide) (by rw [h15]; decide) (by rw [h15]; rfl) rfl) ?_
                                refine Cv.go (pc' := 130) (go_bipush dX3_sign_128 ib_n23) ?_
                                exact Cv.ret dX3_sign_130 rfl
                              · refine Cv.ite (fun h16 => ?_) (fun h16 => ?_)
                                · refine Cv.go (pc' := 128) (go_tsIn (off := 127) (tgt := 128) dX3_sign_1 (by rw [h16]; decide) (by rw [h16]; decide) (by rw [h16]; rfl) rfl) ?_
                                  refine Cv.go (pc' := 130) (go_bipush dX3_sign_128 ib_n23) ?_
                                  exact Cv.ret dX3_sign_130 rfl
                                · refine Cv.ite (fun h17 => ?_) (fun h17 => ?_)
                                  · refine Cv.go (pc' := 128) (go_tsIn (off := 127) (tgt := 128) dX3_sign_1 (by rw [h17]; decide) (by rw [h17]; decide) (by rw [h17]; rfl) rfl) ?_
                                    refine Cv.go (pc' := 130) (go_bipush dX3_sign_128 ib_n23) ?_
                                    exact Cv.ret dX3_sign_130 rfl
                                  · refine Cv.ite (fun h18 => ?_) (fun h18 => ?_)
                                    · refine Cv.go (pc' := 128) (go_tsIn (off := 127) (tgt := 128) dX3_sign_1 (by rw [h18]; decide) (by rw [h18]; decide) (by rw [h18]; rfl) rfl) ?_
                                      refine Cv.go (pc' := 130) (go_bipush dX3_sign_128 ib_n23) ?_
                                      exact Cv.ret dX3_sign_130 rfl
                                    · refine Cv.ite (fun h19 => ?_) (fun h19 => ?_)
                                      · refine Cv.go (pc' := 128) (go_tsIn (off := 127) (tgt := 128) dX3_sign_1 (by rw [h19]; decide) (by rw [h19]; decide) (by rw [h19]; rfl) rfl) ?_
                                        refine Cv.go (pc' := 130) (go_bipush dX3_sign_128 ib_n23) ?_
                                        exact Cv.ret dX3_sign_130 rfl
                                      · refine Cv.ite (fun h20 => ?_) (fun h20 => ?_)
                                        · refine Cv.go (pc' := 110) (go_tsIn (off := 109) (tgt := 110) dX3_sign_1 (by rw [h20]; decide) (by rw [h20]; decide) (by rw [h20]; rfl) rfl) ?_
                                          refine Cv.go (pc' := 112) (go_bipush dX3_sign_110 ib_n21) ?_
                                          exact Cv.ret dX3_sign_112 rfl
                                        · refine Cv.ite (fun h21 => ?_) (fun h21 => ?_)
                                          · refine Cv.go (pc' := 122) (go_tsIn (off := 121) (tgt := 122) dX3_sign_1 (by rw [h21]; decide) (by rw [h21]; decide) (by rw [h21]; rfl) rfl) ?_
                                            refine Cv.go (pc' := 124) (go_bipush dX3_sign_122 ib_n13) ?_
                                            exact Cv.ret dX3_sign_124 rfl
                                          · refine Cv.ite (fun h22 => ?_) (fun h22 => ?_)
                                            · refine Cv.go (pc' := 125) (go_tsIn (off := 124) (tgt := 125) dX3_sign_1 (by rw [h22]; decide) (by rw [h22]; decide) (by rw [h22]; rfl) rfl) ?_
                                              refine Cv.go (pc' := 127) (go_bipush dX3_sign_125 ib_n14) ?_
                                              exact Cv.ret dX3_sign_127 rfl
                                            · refine Cv.go (pc' := 128) (go_tsOut (tgt := 128) dX3_sign_1 (by have n0 : (a0).toInt ≠ 40 := fun z => h1 (Int32.toInt_inj.mp (z.trans (by decide))); have n1 : (a0).toInt ≠ 41 := fun z => h2 (Int32.toInt_inj.mp (z.trans (by decide))); have n2 : (a0).toInt ≠ 42 := fun z => h3 (Int32.toInt_inj.mp (z.trans (by decide))); have n3 : (a0).toInt ≠ 43 := fun z => h4 (Int32.toInt_inj.mp (z.trans (by decide))); have n4 : (a0).toInt ≠ 44 := fun z => h5 (Int32.toInt_inj.mp (z.trans (by decide))); have n5 : (a0).toInt ≠ 45 := fun z => h6 (Int32.toInt_inj.mp (z.trans (by decide))); have n6 : (a0).toInt ≠ 46 := fun z => h7 (Int32.toInt_inj.mp (z.trans (by decide))); have n7 : (a0).toInt ≠ 47 := fun z => h8 (Int32.toInt_inj.mp (z.trans (by decide))); have n8 : (a0).toInt ≠ 48 := fun z => h9 (Int32.toInt_inj.mp (z.trans (by decide))); have n9 : (a0).toInt ≠ 49 := fun z => h10 (Int32.toInt_inj.mp (z.trans (by decide))); have n10 : (a0).toInt ≠ 50 := fun z => h11 (Int32.toInt_inj.mp (z.trans (by decide))); have n11 : (a0).toInt ≠ 51 := fun z => h12 (Int32.toInt_inj.mp (z.trans (by decide))); have n12 : (a0).toInt ≠ 52 := fun z => h13 (Int32.toInt_inj.mp (z.trans (by decide))); have n13 : (a0).toInt ≠ 53 := fun z => h14 (Int32.toInt_inj.mp (z.trans (by decide))); have n14 : (a0).toInt ≠ 54 := fun z => h15 (Int32.toInt_inj.mp (z.trans (by decide))); have n15 : (a0).toInt ≠ 55 := fun z => h16 (Int32.toInt_inj.mp (z.trans (by decide))); have n16 : (a0).toInt ≠ 56 := fun z => h17 (Int32.toInt_inj.mp (z.trans (by decide))); have n17 : (a0).toInt ≠ 57 := fun z => h18 (Int32.toInt_inj.mp (z.trans (by decide))); have n18 : (a0).toInt ≠ 58 := fun z => h19 (Int32.toInt_inj.mp (z.trans (by decide))); have n19 : (a0).toInt ≠ 59 := fun z => h20 (Int32.toInt_inj.mp (z.trans (by decide))); have n20 : (a0).toInt ≠ 60 := fun z => h21 (Int32.toInt_inj.mp (z.trans (by decide))); have n21 : (a0).toInt ≠ 61 := fun z => h22 (Int32.toInt_inj.mp (z.trans (by decide))); omega) rfl) ?_
                                              refine Cv.go (pc' := 130) (go_bipush dX3_sign_128 ib_n23) ?_
                                              exact Cv.ret dX3_sign_130 rfl
theorem c_X3_goBehindAll_5 : ∀ n, ∀ (m : Mem) (a1 : Int32) (a2 : Int32) (a3 : Int32) (hS : ShX m), Cv true (cX3_goBehindAll, 4, RX3, 0, ((false, none) : IK)) .return_ eV (F_X3_goBehindAll_5 n m a1 a2 a3) m 5 [.ref 2, .int a1, .int a2, .int a3] [] := by
  intro n
  induction n with
  | zero => intro m a1 a2 a3 hS; exact Cv.no
  | succ n ih =>
    intro m a1 a2 a3 hS
    unfold F_X3_goBehindAll_5
    refine Cv.go (pc' := 6) (go_iload_n (i := 3) (x := a3) dX3_goBehindAll_5 rfl rfl) ?_
    refine Cv.go (pc' := 7) (go_aload_n (i := 0) (x := 2) dX3_goBehindAll_6 rfl rfl) ?_
    refine Cv.go (pc' := 10) (go_getI (i := 1) cls3 (sx_k2 hS) (by decide) rfl lf_X3_21 (by decide) dX3_goBehindAll_7) ?_
    refine Cv.ite (fun h2 => ?_) (fun h2 => ?_)
    · refine Cv.go (pc' := 46) (go_icmp_ge_t (tgt := 46) dX3_goBehindAll_10 rfl h2) ?_
      exact Cv.ret dX3_goBehindAll_46 rfl
    · refine Cv.go (pc' := 13) (go_icmp_ge_f 46 dX3_goBehindAll_10 rfl h2) ?_
      refine Cv.go (pc' := 14) (go_aload_n (i := 0) (x := 2) dX3_goBehindAll_13 rfl rfl) ?_
      refine Cv.go (pc' := 17) (go_getR (i := 0) cls3 (sx_k2 hS) (by decide) rfl lf_X3_9 (Or.inr ⟨_, rfl⟩) (sx_r2_0 hS) dX3_goBehindAll_14) ?_
      refine Cv.go (pc' := 18) (go_iload_n (i := 3) (x := a3) dX3_goBehindAll_17 rfl rfl) ?_
      refine Cv.gif fun g3 => ?_
      refine Cv.go (pc' := 19) (go_iaload (sx_k3 hS) g3 dX3_goBehindAll_18) ?_
      refine Cv.go (pc' := 20) (go_iload_n (i := 1) (x := a1) dX3_goBehindAll_19 rfl rfl) ?_
      refine Cv.ite (fun h4 => ?_) (fun h4 => ?_)
      · refine Cv.go (pc' := 46) (go_icmp_lt_t (tgt := 46) dX3_goBehindAll_20 rfl h4) ?_
        exact Cv.ret dX3_goBehindAll_46 rfl
      · refine Cv.go (pc' := 23) (go_icmp_lt_f 46 dX3_goBehindAll_20 rfl h4) ?_
        refine Cv.go (pc' := 24) (go_aload_n (i := 0) (x := 2) dX3_goBehindAll_23 rfl rfl) ?_
        refine Cv.go (pc' := 27) (go_getR (i := 0) cls3 (sx_k2 hS) (by decide) rfl lf_X3_9 (Or.inr ⟨_, rfl⟩) (sx_r2_0 hS) dX3_goBehindAll_24) ?_
        refine Cv.go (pc' := 28) (go_iload_n (i := 3) (x := a3) dX3_goBehindAll_27 rfl rfl) ?_
        refine Cv.gif fun g5 => ?_
        refine Cv.go (pc' := 29) (go_iaload (sx_k3 hS) g5 dX3_goBehindAll_28) ?_
        refine Cv.go (pc' := 30) (go_iload_n (i := 2) (x := a2) dX3_goBehindAll_29 rfl rfl) ?_
        refine Cv.ite (fun h6 => ?_) (fun h6 => ?_)
        · refine Cv.go (pc' := 46) (go_icmp_gt_t (tgt := 46) dX3_goBehindAll_30 rfl h6) ?_
          exact Cv.ret dX3_goBehindAll_46 rfl
        · refine Cv.go (pc' := 33) (go_icmp_gt_f 46 dX3_goBehindAll_30 rfl h6) ?_
          refine Cv.go (pc' := 34) (go_aload_n (i := 0) (x := 2) dX3_goBehindAll_33 rfl rfl) ?_
          refine Cv.go (pc' := 35) (go_iload_n (i := 3) (x := a3) dX3_goBehindAll_34 rfl rfl) ?_
          refine Cv.go (pc' := 36) (go_iconst dX3_goBehindAll_35 ic_1) ?_
          refine Cv.go (pc' := 37) (go_iadd dX3_goBehindAll_36) ?_
          refine Cv.go (pc' := 40) (go_putI (i := 4) cls3 (sx_k2 hS) (by decide) rfl lf_X3_39 (by decide) rfl rfl rfl dX3_goBehindAll_37) ?_
          refine Cv.namM fun m7 em7 => ?_
          have zm7 : SameSh m m7 := em7 ▸ SameSh.d
          have hS := hS.sh zm7
          refine Cv.go (pc' := 43) (ls' := [.ref 2, .int a1, .int a2, .int (a3 + (1 : Int32))]) (go_iinc (x := a3) (v := a3 + (1 : Int32)) dX3_goBehindAll_40 rfl rfl (by decide) rfl) ?_
          refine Cv.go (pc' := 5) (go_goto (tgt := 5) dX3_goBehindAll_43 rfl) ?_
          exact ih m7 a1 a2 (a3 + (1 : Int32)) hS
theorem kc_X3_goBehindAll (m : Mem) (a1 : Int32) (a2 : Int32) (hS : ShX m) : ∀ v mE, F_X3_goBehindAll m a1 a2 = some (v, mE) → Con true kX3_goBehindAll 0 [.ref 2, .int a1, .int a2] m (eV v) mE := by
  refine Con.of (ini := false) (ls0 := [.ref 2, .int a1, .int a2, .null]) (ri := .return_) (by decide) (by intro z; cases z) rfl (Nat.le_of_ble_eq_true rfl) (fun v mE _ => RetTy.v) ?_
  show Cv true (cX3_goBehindAll, 4, RX3, 0, ((false, none) : IK)) .return_ eV (F_X3_goBehindAll m a1 a2) m 0 [.ref 2, .int a1, .int a2, .null] []
  unfold F_X3_goBehindAll
  refine Cv.go (pc' := 1) (go_aload_n (i := 0) (x := 2) dX3_goBehindAll_0 rfl rfl) ?_
  refine Cv.go (pc' := 4) (go_getI (i := 3) cls3 (sx_k2 hS) (by decide) rfl lf_X3_53 (by decide) dX3_goBehindAll_1) ?_
  refine Cv.namI fun x1 ex1 => ?_
  refine Cv.go (pc' := 5) (ls' := [.ref 2, .int a1, .int a2, .int x1]) (go_istore_n dX3_goBehindAll_4 rfl (by decide) rfl) ?_
  exact c_X3_goBehindAll_5 FU m a1 a2 x1 hS
theorem c_X3_number_23 : ∀ n, ∀ (m : Mem) (a1 : Int32) (a2 : Int32) (hS : ShX m), Cv true (cX3_number, 3, RX3, 0, ((false, none) : IK)) .ireturn eI (F_X3_number_23 n m a1 a2) m 23 [.ref 2, .int a1, .int a2] [] := by
  intro n
  induction n with
  | zero => intro m a1 a2 hS; exact Cv.no
  | succ n ih =>
    intro m a1 a2 hS
    unfold F_X3_number_23
    refine Cv.go (pc' := 24) (go_iload_n (i := 2) (x := a2) dX3_number_23 rfl rfl) ?_
    refine Cv.go (pc' := 25) (go_aload_n (i := 0) (x := 2) dX3_number_24 rfl rfl) ?_
    refine Cv.go (pc' := 28) (go_getI (i := 4) cls3 (sx_k2 hS) (by decide) rfl lf_X3_39 (by decide) dX3_number_25) ?_
    refine Cv.ite (fun h3 => ?_) (fun h3 => ?_)
    · refine Cv.go (pc' := 52) (go_icmp_ge_t (tgt := 52) dX3_number_28 rfl h3) ?_
      refine Cv.go (pc' := 53) (go_iload_n (i := 1) (x := a1) dX3_number_52 rfl rfl) ?_
      exact Cv.ret dX3_number_53 rfl
    · refine Cv.go (pc' := 31) (go_icmp_ge_f 52 dX3_number_28 rfl h3) ?_
      refine Cv.go (pc' := 32) (go_iload_n (i := 1) (x := a1) dX3_number_31 rfl rfl) ?_
      refine Cv.go (pc' := 34) (go_bipush dX3_number_32 ib_10) ?_
      refine Cv.go (pc' := 35) (go_imul dX3_number_34) ?_
      refine Cv.go (pc' := 36) (go_aload_n (i := 0) (x := 2) dX3_number_35 rfl rfl) ?_
      refine Cv.go (pc' := 39) (go_getR (i := 0) cls3 (sx_k2 hS) (by decide) rfl lf_X3_9 (Or.inr ⟨_, rfl⟩) (sx_r2_0 hS) dX3_number_36) ?_
      refine Cv.go (pc' := 40) (go_iload_n (i := 2) (x := a2) dX3_number_39 rfl rfl) ?_
      refine Cv.gif fun g4 => ?_
      refine Cv.go (pc' := 41) (go_iaload (sx_k3 hS) g4 dX3_number_40) ?_
      refine Cv.go (pc' := 42) (go_iadd dX3_number_41) ?_
      refine Cv.go (pc' := 44) (go_bipush dX3_number_42 ib_48) ?_
      refine Cv.go (pc' := 45) (go_isub dX3_number_44) ?_
      refine Cv.namI fun x5 ex5 => ?_
      refine Cv.go (pc' := 46) (ls' := [.ref 2, .int x5, .int a2]) (go_istore_n dX3_number_45 rfl (by decide) rfl) ?_
      refine Cv.go (pc' := 49) (ls' := [.ref 2, .int x5, .int (a2 + (1 : Int32))]) (go_iinc (x := a2) (v := a2 + (1 : Int32)) dX3_number_46 rfl rfl (by decide) rfl) ?_
      refine Cv.go (pc' := 23) (go_goto (tgt := 23) dX3_number_49 rfl) ?_
      exact ih m x5 (a2 + (1 : Int32)) hS
theorem kc_X3_number (m : Mem) (hS : ShX m) : ∀ v mE, F_X3_number m = some (v, mE) → Con true kX3_number 0 [.ref 2] m (eI v) mE := by
  refine Con.of (ini := false) (ls0 := [.ref 2, .null, .null]) (ri := .ireturn) (by decide) (by intro z; cases z) rfl (Nat.le_of_ble_eq_true rfl) (fun v mE _ => RetTy.i) ?_
  show Cv true (cX3_number, 3, RX3, 0, ((false, none) : IK)) .ireturn eI (F_X3_number m) m 0 [.ref 2, .null, .null] []
  unfold F_X3_number
  refine Cv.go (pc' := 1) (go_aload_n (i := 0) (x := 2) dX3_number_0 rfl rfl) ?_
  refine Cv.go (pc' := 4) (go_getI (i := 4) cls3 (sx_k2 hS) (by decide) rfl lf_X3_39 (by decide) dX3_number_1) ?_
  refine Cv.go (pc' := 5) (go_aload_n (i := 0) (x := 2) dX3_number_4 rfl rfl) ?_
  refine Cv.go (pc' := 8) (go_getI (i := 3) cls3 (sx_k2 hS) (by decide) rfl lf_X3_53 (by decide) dX3_number_5) ?_
  refine Cv.go (pc' := 9) (go_isub dX3_number_8) ?_
  refine Cv.go (pc' := 10) (go_iconst dX3_number_9 ic_4) ?_
  refine Cv.ite (fun h1 => ?_) (fun h1 => ?_)
  · refine Cv.go (pc' := 16) (go_icmp_le_t (tgt := 16) dX3_number_10 rfl h1) ?_
    refine Cv.go (pc' := 17) (go_iconst dX3_number_16 ic_0) ?_
    refine Cv.go (pc' := 18) (ls' := [.ref 2, .int (0 : Int32), .null]) (go_istore_n dX3_number_17 rfl (by decide) rfl) ?_
    refine Cv.go (pc' := 19) (go_aload_n (i := 0) (x := 2) dX3_number_18 rfl rfl) ?_
    refine Cv.go (pc' := 22) (go_getI (i := 3) cls3 (sx_k2 hS) (by decide) rfl lf_X3_53 (by decide) dX3_number_19) ?_
    refine Cv.namI fun x2 ex2 => ?_
    refine Cv.go (pc' := 23) (ls' := [.ref 2, .int (0 : Int32), .int x2]) (go_istore_n dX3_number_22 rfl (by decide) rfl) ?_
    exact c_X3_number_23 FU m (0 : Int32) x2 hS
  · refine Cv.go (pc' := 13) (go_icmp_le_f 16 dX3_number_10 rfl h1) ?_
    refine Cv.go (pc' := 15) (go_bipush dX3_number_13 ib_n23) ?_
    exact Cv.ret dX3_number_15 rfl
theorem c_X3_word_97 (K12 : Mem → Int32 → Int32 → Int32 → Int32 → Option (Int32 × Mem)) (hK12 : ∀ (m : Mem) (a1 : Int32) (a2 : Int32) (a3 : Int32) (a4 : Int32) (hS : ShX m), Cv true (cX3_word, 6, RX3, 7, ((false, none) : IK)) .ireturn eI (K12 m a1 a2 a3 a4) m 12 [.ref 2, .int a1, .int a2, .int a3, .int a4, .null] []) : ∀ (m : Mem) (a1 : Int32) (a2 : Int32) (a3 : Int32) (a4 : Int32) (hS : ShX m), Cv true (cX3_word, 6, RX3, 7, ((false, none) : IK)) .ireturn eI (F_X3_word_97 K12 m a1 a2 a3 a4) m 97 [.ref 2, .int a1, .int a2, .int a3, .int a4, .null] [] := by
  intro m a1 a2 a3 a4 hS
  unfold F_X3_word_97
  refine Cv.go (pc' := 100) (ls' := [.ref 2, .int a1, .int a2, .int a3, .int (a4 + (1 : Int32)), .null]) (go_iinc (x := a4) (v := a4 + (1 : Int32)) dX3_word_97 rfl rfl (by decide) rfl) ?_
  refine Cv.go (pc' := 12) (go_goto (tgt := 12) dX3_word_100 rfl) ?_
  exact hK12 m a1 a2 a3 (a4 + (1 : Int32)) hS
theorem c_X3_word_87 (K12 : Mem → Int32 → Int32 → Int32 → Int32 → Option (Int32 × Mem)) (hK12 : ∀ (m : Mem) (a1 : Int32) (a2 : Int32) (a3 : Int32) (a4 : Int32) (hS : ShX m), Cv true (cX3_word, 6, RX3, 7, ((false, none) : IK)) .ireturn eI (K12 m a1 a2 a3 a4) m 12 [.ref 2, .int a1, .int a2, .int a3, .int a4, .null] []) : ∀ (m : Mem) (a1 : Int32) (a4 : Int32) (hS : ShX m), Cv true (cX3_word, 6, RX3, 7, ((false, none) : IK)) .ireturn eI (F_X3_word_87 K12 m a1 a4) m 87 [.ref 2, .int a1, .null, .null, .int a4, .null] [] := by
  intro m a1 a4 hS
  unfold F_X3_word_87
  refine Cv.go (pc' := 90) (ls' := [.ref 2, .int (a1 + (-1 : Int32)), .null, .null, .int a4, .null]) (go_iinc (x := a1) (v := a1 + (-1 : Int32)) dX3_word_87 rfl rfl (by decide) rfl) ?_
  refine Cv.go (pc' := 91) (go_aload_n (i := 0) (x := 2) dX3_word_90 rfl rfl) ?_
  refine Cv.go (pc' := 94) (go_getI (i := 3) cls3 (sx_k2 hS) (by decide) rfl lf_X3_53 (by decide) dX3_word_91) ?_
  refine Cv.namI fun x12 ex12 => ?_
  refine Cv.go (pc' := 95) (ls' := [.ref 2, .int (a1 + (-1 : Int32)), .int x12, .null, .int a4, .null]) (go_istore_n dX3_word_94 rfl (by decide) rfl) ?_
  refine Cv.go (pc' := 96) (go_iconst dX3_word_95 ic_1) ?_
  refine Cv.go (pc' := 97) (ls' := [.ref 2, .int (a1 + (-1 : Int32)), .int x12, .int (1 : Int32), .int a4, .null]) (go_istore_n dX3_word_96 rfl (by decide) rfl) ?_
  exact c_X3_word_97 K12 hK12 m (a1 + (-1 : Int32)) x12 (1 : Int32) a4 hS
theorem c_X3_word_66 (K12 : Mem → Int32 → Int32 → Int32 → Int32 → Option (Int32 × Mem)) (hK12 : ∀ (m : Mem) (a1 : Int32) (a2 : Int32) (a3 : Int32) (a4 : Int32) (hS : ShX m), Cv true (cX3_word, 6, RX3, 7, ((false, none) : IK)) .ireturn eI (K12 m a1 a2 a3 a4) m 12 [.ref 2, .int a1, .int a2, .int a3, .int a4, .null] []) : ∀ (m : Mem) (a1 : Int32) (a2 : Int32) (a4 : Int32) (s0 : Int32) (hS : ShX m), Cv true (cX3_word, 6, RX3, 7, ((false, none) : IK)) .ireturn eI (F_X3_word_66 K12 m a1 a2 a4 s0) m 66 [.ref 2, .int a1, .int a2, .null, .int a4, .null] [.int s0] := by
  intro m a1 a2 a4 s0 hS
  unfold F_X3_word_66
  refine Cv.go (pc' := 67) (ls' := [.ref 2, .int a1, .int a2, .int s0, .int a4, .null]) (go_istore_n dX3_word_66 rfl (by decide) rfl) ?_
  refine Cv.go (pc' := 70) (ls' := [.ref 2, .int a1, .int (a2 + (1 : Int32)), .int s0, .int a4, .null]) (go_iinc (x := a2) (v := a2 + (1 : Int32)) dX3_word_67 rfl rfl (by decide) rfl) ?_
  refine Cv.go (pc' := 97) (go_goto (tgt := 97) dX3_word_70 rfl) ?_
  exact c_X3_word_97 K12 hK12 m a1 (a2 + (1 : Int32)) s0 a4 hS
theorem c_X3_word_65 (K12 : Mem → Int32 → Int32 → Int32 → Int32 → Option (Int32 × Mem)) (hK12 : ∀ (m : Mem) (a1 : Int32) (a2 : Int32) (a3 : Int32) (a4 : Int32) (hS : ShX m), Cv true (cX3_word, 6, RX3, 7, ((false, none) : IK)) .ireturn eI (K12 m a1 a2 a3 a4) m 12 [.ref 2, .int a1, .int a2, .int a3, .int a4, .null] []) : ∀ (m : Mem) (a1 : Int32) (a2 : Int32) (a4 : Int32) (hS : ShX m), Cv true (cX3_word, 6, RX3, 7, ((false, none) : IK)) .ireturn eI (F_X3_word_65 K12 m a1 a2 a4) m 65 [.ref 2, .int a1, .int a2, .null, .int a4, .null] [] := by
  intro m a1 a2 a4 hS
  unfold F_X3_word_65
  refine Cv.go (pc' := 66) (go_iconst dX3_word_65 ic_0) ?_
  exact c_X3_word_66 K12 hK12 m a1 a2 a4 (0 : Int32) hS
theorem c_X3_word_12 : ∀ n, ∀ (m : Mem) (a1 : Int32) (a2 : Int32) (a3 : Int32) (a4 : Int32) (hS : ShX m), Cv true (cX3_word, 6, RX3, 7, ((false, none) : IK)) .ireturn eI (F_X3_word_12 n m a1 a2 a3 a4) m 12 [.ref 2, .int a1, .int a2, .int a3, .int a4, .null] [] := by
  intro n
  induction n with
  | zero => intro m a1 a2 a3 a4 hS; exact Cv.no
  | succ n ih =>
    intro m a1 a2 a3 a4 hS
    unfold F_X3_word_12
    refine Cv.go (pc' := 14) (go_iload (i := 4) (x := a4) dX3_word_12 rfl) ?_
    refine Cv.go (pc' := 16) (go_ldcS5 dX3_word_14) ?_
    refine Cv.go (pc' := 19) (go_strlen5 lm_X3_90 (by decide) (Nat.le_of_ble_eq_true rfl) dX3_word_16) ?_
    refine Cv.ite (fun h2 => ?_) (fun h2 => ?_)
    · refine Cv.go (pc' := 103) (go_icmp_ge_t (tgt := 103) dX3_word_19 rfl h2) ?_
      refine Cv.go (pc' := 105) (go_bipush dX3_word_103 ib_n23) ?_
      exact Cv.ret dX3_word_105 rfl
    · refine Cv.go (pc' := 22) (go_icmp_ge_f 103 dX3_word_19 rfl h2) ?_
      refine Cv.go (pc' := 24) (go_ldcS5 dX3_word_22) ?_
      refine Cv.go (pc' := 26) (go_iload (i := 4) (x := a4) dX3_word_24 rfl) ?_
      refine Cv.gif fun g3 => ?_
      refine Cv.go (pc' := 29) (go_strchr5 lm_X3_95 g3 (by decide) (Nat.le_of_ble_eq_true rfl) dX3_word_26) ?_
      refine Cv.namI fun x4 ex4 => ?_
      refine Cv.go (pc' := 31) (ls' := [.ref 2, .int a1, .int a2, .int a3, .int a4, .int x4]) (go_istore dX3_word_29 (by decide) rfl) ?_
      refine Cv.go (pc' := 33) (go_iload (i := 5) (x := x4) dX3_word_31 rfl) ?_
      refine Cv.go (pc' := 35) (go_bipush dX3_word_33 ib_32) ?_
      refine Cv.ite (fun h5 => ?_) (fun h5 => ?_)
      · refine Cv.go (pc' := 73) (go_icmp_eq_t (tgt := 73) dX3_word_35 rfl h5) ?_
        refine Cv.go (pc' := 74) (go_iload_n (i := 3) (x := a3) dX3_word_73 rfl rfl) ?_
        refine Cv.ite (fun h6 => ?_) (fun h6 => ?_)
        · refine Cv.go (pc' := 87) (go_if_eq_t (tgt := 87) dX3_word_74 rfl h6) ?_
          refine Cv.weak (ls' := [.ref 2, .int a1, .null, .null, .int a4, .null]) (⟨Or.inr rfl, ⟨Or.inr rfl, ⟨Or.inl rfl, ⟨Or.inl rfl, ⟨Or.inr rfl, ⟨Or.inl rfl, True.intro⟩⟩⟩⟩⟩⟩) ?_
          exact c_X3_word_87 (F_X3_word_12 n) ih m a1 a4 hS
        · refine Cv.go (pc' := 77) (go_if_eq_f 87 dX3_word_74 rfl h6) ?_
          refine Cv.go (pc' := 78) (go_iload_n (i := 2) (x := a2) dX3_word_77 rfl rfl) ?_
          refine Cv.go (pc' := 79) (go_aload_n (i := 0) (x := 2) dX3_word_78 rfl rfl) ?_
          refine Cv.go (pc' := 82) (go_getI (i := 4) cls3 (sx_k2 hS) (by decide) rfl lf_X3_39 (by decide) dX3_word_79) ?_
          refine Cv.ite (fun h7 => ?_) (fun h7 => ?_)
          · refine Cv.go (pc' := 85) (go_icmp_ne_f 87 dX3_word_82 rfl h7) ?_
            refine Cv.go (pc' := 86) (go_iload_n (i := 1) (x := a1) dX3_word_85 rfl rfl) ?_
            exact Cv.ret dX3_word_86 rfl
          · refine Cv.go (pc' := 87) (go_icmp_ne_t (tgt := 87) dX3_word_82 rfl h7) ?_
            refine Cv.weak (ls' := [.ref 2, .int a1, .null, .null, .int a4, .null]) (⟨Or.inr rfl, ⟨Or.inr rfl, ⟨Or.inl rfl, ⟨Or.inl rfl, ⟨Or.inr rfl, ⟨Or.inl rfl, True.intro⟩⟩⟩⟩⟩⟩) ?_
            exact c_X3_word_87 (F_X3_word_12 n) ih m a1 a4 hS
      · refine Cv.go (pc' := 38) (go_icmp_eq_f 73 dX3_word_35 rfl h5) ?_
        refine Cv.go (pc' := 39) (go_iload_n (i := 3) (x := a3) dX3_word_38 rfl rfl) ?_
        refine Cv.ite (fun h8 => ?_) (fun h8 => ?_)
        · refine Cv.go (pc' := 65) (go_if_eq_t (tgt := 65) dX3_word_39 rfl h8) ?_
          refine Cv.weak (ls' := [.ref 2, .int a1, .int a2, .null, .int a4, .null]) (⟨Or.inr rfl, ⟨Or.inr rfl, ⟨Or.inr rfl, ⟨Or.inl rfl, ⟨Or.inr rfl, ⟨Or.inl rfl, True.intro⟩⟩⟩⟩⟩⟩) ?_
          exact c_X3_word_65 (F_X3_word_12 n) ih m a1 a2 a4 hS
        · refine Cv.go (pc' := 42) (go_if_eq_f 65 dX3_word_39 rfl h8) ?_
          refine Cv.go (pc' := 43) (go_iload_n (i := 2) (x := a2) dX3_word_42 rfl rfl) ?_
          refine Cv.go (pc' := 44) (go_aload_n (i := 0) (x := 2) dX3_word_43 rfl rfl) ?_
          refine Cv.go (pc' := 47) (go_getI (i := 4) cls3 (sx_k2 hS) (by decide) rfl lf_X3_39 (by decide) dX3_word_44) ?_
          refine Cv.ite (fun h9 => ?_) (fun h9 => ?_)
          · refine Cv.go (pc' := 65) (go_icmp_ge_t (tgt := 65) dX3_word_47 rfl h9) ?_
            refine Cv.weak (ls' := [.ref 2, .int a1, .int a2, .null, .int a4, .null]) (⟨Or.inr rfl, ⟨Or.inr rfl, ⟨Or.inr rfl, ⟨Or.inl rfl, ⟨Or.inr rfl, ⟨Or.inl rfl, True.intro⟩⟩⟩⟩⟩⟩) ?_
            exact c_X3_word_65 (F_X3_word_12 n) ih m a1 a2 a4 hS
          · refine Cv.go (pc' := 50) (go_icmp_ge_f 65 dX3_word_47 rfl h9) ?_
            refine Cv.go (pc' := 51) (go_aload_n (i := 0) (x := 2) dX3_word_50 rfl rfl) ?_
            refine Cv.go (pc' := 54) (go_getR (i := 0) cls3 (sx_k2 hS) (by decide) rfl lf_X3_9 (Or.inr ⟨_, rfl⟩) (sx_r2_0 hS) dX3_word_51) ?_
            refine Cv.go (pc' := 55) (go_iload_n (i := 2) (x := a2) dX3_word_54 rfl rfl) ?_
            refine Cv.gif fun g10 => ?_
            refine Cv.go (pc' := 56) (go_iaload (sx_k3 hS) g10 dX3_word_55) ?_
            refine Cv.go (pc' := 58) (go_iload (i := 5) (x := x4) dX3_word_56 rfl) ?_
            refine Cv.ite (fun h11 => ?_) (fun h11 => ?_)
            · refine Cv.go (pc' := 61) (go_icmp_ne_f 65 dX3_word_58 rfl h11) ?_
              refine Cv.go (pc' := 62) (go_iconst dX3_word_61 ic_1) ?_
              refine Cv.go (pc' := 66) (go_goto (tgt := 66) dX3_word_62 rfl) ?_
              refine Cv.weak (ls' := [.ref 2, .int a1, .int a2, .null, .int a4, .null]) (⟨Or.inr rfl, ⟨Or.inr rfl, ⟨Or.inr rfl, ⟨Or.inl rfl, ⟨Or.inr rfl, ⟨Or.inl rfl, True.intro⟩⟩⟩⟩⟩⟩) ?_
              exact c_X3_word_66 (F_X3_word_12 n) ih m a1 a2 a4 (1 : Int32) hS
            · refine Cv.go (pc' := 65) (go_icmp_ne_t (tgt := 65) dX3_word_58 rfl h11) ?_
              refine Cv.weak (ls' := [.ref 2, .int a1, .int a2, .null, .int a4, .null]) (⟨Or.inr rfl, ⟨Or.inr rfl, ⟨Or.inr rfl, ⟨Or.inl rfl, ⟨Or.inr rfl, ⟨Or.inl rfl, True.intro⟩⟩⟩⟩⟩⟩) ?_
              exact c_X3_word_65 (F_X3_word_12 n) ih m a1 a2 a4 hS
theorem kc_X3_word (m : Mem) (hS : ShX m) : ∀ v mE, F_X3_word m = some (v, mE) → Con true kX3_word 7 [.ref 2] m (eI v) mE := by
  refine Con.of (ini := false) (ls0 := [.ref 2, .null, .null, .null, .null, .null]) (ri := .ireturn) (by decide) (by intro z; cases z) rfl (Nat.le_of_ble_eq_true rfl) (fun v mE _ => RetTy.i) ?_
  show Cv true (cX3_word, 6, RX3, 7, ((false, none) : IK)) .ireturn eI (F_X3_word m) m 0 [.ref 2, .null, .null, .null, .null, .null] []
  unfold F_X3_word
  refine Cv.go (pc' := 1) (go_iconst dX3_word_0 ic_n1) ?_
  refine Cv.go (pc' := 2) (ls' := [.ref 2, .int (-1 : Int32), .null, .null, .null, .null]) (go_istore_n dX3_word_1 rfl (by decide) rfl) ?_
  refine Cv.go (pc' := 3) (go_aload_n (i := 0) (x := 2) dX3_word_2 rfl rfl) ?_
  refine Cv.go (pc' := 6) (go_getI (i := 3) cls3 (sx_k2 hS) (by decide) rfl lf_X3_53 (by decide) dX3_word_3) ?_
  refine Cv.namI fun x1 ex1 => ?_
  refine Cv.go (pc' := 7) (ls' := [.ref 2, .int (-1 : Int32), .int x1, .null, .null, .null]) (go_istore_n dX3_word_6 rfl (by decide) rfl) ?_
  refine Cv.go (pc' := 8) (go_iconst dX3_word_7 ic_1) ?_
  refine Cv.go (pc' := 9) (ls' := [.ref 2, .int (-1 : Int32), .int x1, .int (1 : Int32), .null, .null]) (go_istore_n dX3_word_8 rfl (by decide) rfl) ?_
  refine Cv.go (pc' := 10) (go_iconst dX3_word_9 ic_0) ?_
  refine Cv.go (pc' := 12) (ls' := [.ref 2, .int (-1 : Int32), .int x1, .int (1 : Int32), .int (0 : Int32), .null]) (go_istore dX3_word_10 (by decide) rfl) ?_
  exact c_X3_word_12 FU m (-1 : Int32) x1 (1 : Int32) (0 : Int32) hS
theorem c_X3_advance_37 (K7 : Mem → Int32 → Int32 → Option (Bool × Mem)) (hK7 : ∀ (m : Mem) (a1 : Int32) (a2 : Int32) (hS : ShX m), Cv true (cX3_advance, 3, RX3, 8, ((false, none) : IK)) .ireturn eZ (K7 m a1 a2) m 7 [.ref 2, .int a1, .int a2] []) : ∀ (m : Mem) (a2 : Int32) (hS : ShX m), Cv true (cX3_advance, 3, RX3, 8, ((false, none) : IK)) .ireturn eZ (F_X3_advance_37 K7 m a2) m 37 [.ref 2, .null, .int a2] [] := by
  intro m a2 hS
  unfold F_X3_advance_37
  refine Cv.go (pc' := 38) (go_iload_n (i := 2) (x := a2) dX3_advance_37 rfl rfl) ?_
  refine Cv.go (pc' := 39) (go_iconst dX3_advance_38 ic_1) ?_
  refine Cv.go (pc' := 40) (go_iadd dX3_advance_39) ?_
  refine Cv.namI fun x7 ex7 => ?_
  refine Cv.go (pc' := 41) (ls' := [.ref 2, .int x7, .int a2]) (go_istore_n dX3_advance_40 rfl (by decide) rfl) ?_
  refine Cv.go (pc' := 44) (ls' := [.ref 2, .int x7, .int (a2 + (1 : Int32))]) (go_iinc (x := a2) (v := a2 + (1 : Int32)) dX3_advance_41 rfl rfl (by decide) rfl) ?_
  refine Cv.go (pc' := 7) (go_goto (tgt := 7) dX3_advance_44 rfl) ?_
  exact hK7 m x7 (a2 + (1 : Int32)) hS
theorem c_X3_advance_47 : ∀ (m : Mem) (a1 : Int32) (hS : ShX m), Cv true (cX3_advance, 3, RX3, 8, ((false, none) : IK)) .ireturn eZ (F_X3_advance_47 m a1) m 47 [.ref 2, .int a1, .null] [] := by
  intro m a1 hS
  unfold F_X3_advance_47
  refine Cv.go (pc' := 48) (go_aload_n (i := 0) (x := 2) dX3_advance_47 rfl rfl) ?_
  refine Cv.go (pc' := 49) (go_iload_n (i := 1) (x := a1) dX3_advance_48 rfl rfl) ?_
  refine Cv.go (pc' := 52) (go_putI (i := 3) cls3 (sx_k2 hS) (by decide) rfl lf_X3_53 (by decide) rfl rfl rfl dX3_advance_49) ?_
  refine Cv.namM fun m8 em8 => ?_
  have zm8 : SameSh m m8 := em8 ▸ SameSh.d
  have hS := hS.sh zm8
  refine Cv.go (pc' := 53) (go_iload_n (i := 1) (x := a1) dX3_advance_52 rfl rfl) ?_
  refine Cv.go (pc' := 54) (go_aload_n (i := 0) (x := 2) dX3_advance_53 rfl rfl) ?_
  refine Cv.go (pc' := 57) (go_getI (i := 1) cls3 (sx_k2 hS) (by decide) rfl lf_X3_21 (by decide) dX3_advance_54) ?_
  refine Cv.ite (fun h9 => ?_) (fun h9 => ?_)
  · refine Cv.go (pc' := 69) (go_icmp_lt_t (tgt := 69) dX3_advance_57 rfl h9) ?_
    refine Cv.go (pc' := 70) (go_aload_n (i := 0) (x := 2) dX3_advance_69 rfl rfl) ?_
    refine Cv.go (pc' := 73) (go_getR (i := 0) cls3 (sx_k2 hS) (by decide) rfl lf_X3_9 (Or.inr ⟨_, rfl⟩) (sx_r2_0 hS) dX3_advance_70) ?_
    refine Cv.go (pc' := 74) (go_iload_n (i := 1) (x := a1) dX3_advance_73 rfl rfl) ?_
    refine Cv.gif fun g10 => ?_
    refine Cv.go (pc' := 75) (go_iaload (sx_k3 hS) g10 dX3_advance_74) ?_
    refine Cv.go (pc' := 77) (go_bipush dX3_advance_75 ib_97) ?_
    refine Cv.go (pc' := 79) (go_bipush dX3_advance_77 ib_122) ?_
    refine Cv.bnd fun v11 m12 e13 => ?_
    have C14 := kc_X5_isBetween m8 (mD m8 3 a1.toNatClampNeg) (97 : Int32) (122 : Int32) v11 m12 e13
    refine Cv.go (pc' := 82) (st' := [.int (bz v11)]) (go_callSN (host := RX5) (As := [.int (mD m8 3 a1.toNatClampNeg), .int (97 : Int32), .int (122 : Int32)]) (st := []) C14 (by decide) ok_X5_isBetween lt_X5_isBetween (by simp [nw]) rfl rfl (Nat.le_of_ble_eq_true rfl) dX3_advance_79) ?_
    have zm12 := C14.1.2.2 rfl
    have hS := hS.sh zm12
    refine Cv.ite (fun h15 => ?_) (fun h15 => ?_)
    · refine Cv.go (pc' := 104) (go_if_eq_t (tgt := 104) dX3_advance_82 rfl h15) ?_
      refine Cv.go (pc' := 105) (go_aload_n (i := 0) (x := 2) dX3_advance_104 rfl rfl) ?_
      refine Cv.go (pc' := 108) (go_getR (i := 0) cls3 (sx_k2 hS) (by decide) rfl lf_X3_9 (Or.inr ⟨_, rfl⟩) (sx_r2_0 hS) dX3_advance_105) ?_
      refine Cv.go (pc' := 109) (go_iload_n (i := 1) (x := a1) dX3_advance_108 rfl rfl) ?_
      refine Cv.gif fun g16 => ?_
      refine Cv.go (pc' := 110) (go_iaload (sx_k3 hS) g16 dX3_advance_109) ?_
      refine Cv.go (pc' := 112) (go_bipush dX3_advance_110 ib_48) ?_
      refine Cv.go (pc' := 114) (go_bipush dX3_advance_112 ib_57) ?_
      refine Cv.bnd fun v17 m18 e19 => ?_
      have C20 := kc_X5_isBetween m12 (mD m12 3 a1.toNatClampNeg) (48 : Int32) (57 : Int32) v17 m18 e19
      refine Cv.go (pc' := 117) (st' := [.int (bz v17)]) (go_callSN (host := RX5) (As := [.int (mD m12 3 a1.toNatClampNeg), .int (48 : Int32), .int (57 : Int32)]) (st := []) C20 (by decide) ok_X5_isBetween lt_X5_isBetween (by simp [nw]) rfl rfl (Nat.le_of_ble_eq_true rfl) dX3_advance_114) ?_
      have zm18 := C20.1.2.2 rfl
      have hS := hS.sh zm18
      refine Cv.ite (fun h21 => ?_) (fun h21 => ?_)
      · refine Cv.go (pc' := 139) (go_if_eq_t (tgt := 139) dX3_advance_117 rfl h21) ?_
        refine Cv.go (pc' := 140) (go_aload_n (i := 0) (x := 2) dX3_advance_139 rfl rfl) ?_
        refine Cv.go (pc' := 141) (go_aload_n (i := 0) (x := 2) dX3_advance_140 rfl rfl) ?_
        refine Cv.go (pc' := 144) (go_getR (i := 0) cls3 (sx_k2 hS) (by decide) rfl lf_X3_9 (Or.inr ⟨_, rfl⟩) (sx_r2_0 hS) dX3_advance_141) ?_
        refine Cv.go (pc' := 145) (go_iload_n (i := 1) (x := a1) dX3_advance_144 rfl rfl) ?_
        refine Cv.gif fun g22 => ?_
        refine Cv.go (pc' := 146) (go_iaload (sx_k3 hS) g22 dX3_advance_145) ?_
        refine Cv.bnd fun v23 m24 e25 => ?_
        have C26 := kc_X3_sign m18 (mD m18 3 a1.toNatClampNeg) v23 m24 e25
        refine Cv.go (pc' := 149) (st' := [.int v23, .ref 2]) (go_callS (As := [.int (mD m18 3 a1.toNatClampNeg)]) (st := [.ref 2]) C26 (by decide) ok_X3_sign lt_X3_sign lm_X3_85 rfl rfl (Nat.le_of_ble_eq_true rfl) dX3_advance_146) ?_
        have zm24 := C26.1.2.2 rfl
        have hS := hS.sh zm24
        refine Cv.go (pc' := 152) (go_putI (i := 2) cls3 (sx_k2 hS) (by decide) rfl lf_X3_50 (by decide) rfl rfl rfl dX3_advance_149) ?_
        refine Cv.namM fun m27 em27 => ?_
        have zm27 : SameSh m24 m27 := em27 ▸ SameSh.d
        have hS := hS.sh zm27
        refine Cv.go (pc' := 153) (go_aload_n (i := 0) (x := 2) dX3_advance_152 rfl rfl) ?_
        refine Cv.go (pc' := 154) (go_iload_n (i := 1) (x := a1) dX3_advance_153 rfl rfl) ?_
        refine Cv.go (pc' := 155) (go_iconst dX3_advance_154 ic_1) ?_
        refine Cv.go (pc' := 156) (go_iadd dX3_advance_155) ?_
        refine Cv.go (pc' := 159) (go_putI (i := 4) cls3 (sx_k2 hS) (by decide) rfl lf_X3_39 (by decide) rfl rfl rfl dX3_advance_156) ?_
        refine Cv.namM fun m28 em28 => ?_
        have zm28 : SameSh m27 m28 := em28 ▸ SameSh.d
        have hS := hS.sh zm28
        refine Cv.go (pc' := 160) (go_iconst dX3_advance_159 ic_1) ?_
        exact Cv.ret dX3_advance_160 rfl
      · refine Cv.go (pc' := 120) (go_if_eq_f 139 dX3_advance_117 rfl h21) ?_
        refine Cv.go (pc' := 121) (go_aload_n (i := 0) (x := 2) dX3_advance_120 rfl rfl) ?_
        refine Cv.go (pc' := 123) (go_bipush dX3_advance_121 ib_48) ?_
        refine Cv.go (pc' := 125) (go_bipush dX3_advance_123 ib_57) ?_
        refine Cv.bnd fun v29 m30 e31 => ?_
        have C32 := kc_X3_goBehindAll m18 (48 : Int32) (57 : Int32) hS v29 m30 e31
        refine Cv.go (pc' := 128) (st' := []) (go_callV (As := [.int (48 : Int32), .int (57 : Int32)]) (st := []) C32 (by decide) ok_X3_goBehindAll li_X3_goBehindAll ls_X3_goBehindAll lm_X3_74 cls3 (sx_k2 hS) rfl rfl (Nat.le_of_ble_eq_true rfl) dX3_advance_125) ?_
        have zm30 := C32.1.2.2 rfl
        have hS := hS.sh zm30
        refine Cv.go (pc' := 129) (go_aload_n (i := 0) (x := 2) dX3_advance_128 rfl rfl) ?_
        refine Cv.go (pc' := 130) (go_aload_n (i := 0) (x := 2) dX3_advance_129 rfl rfl) ?_
        refine Cv.bnd fun v33 m34 e35 => ?_
        have C36 := kc_X3_number m30 hS v33 m34 e35
        refine Cv.go (pc' := 133) (st' := [.int v33, .ref 2]) (go_callV (As := []) (st := [.ref 2]) C36 (by decide) ok_X3_number li_X3_number ls_X3_number lm_X3_82 cls3 (sx_k2 hS) rfl rfl (Nat.le_of_ble_eq_true rfl) dX3_advance_130) ?_
        have zm34 := C36.1.2.2 rfl
        have hS := hS.sh zm34
        refine Cv.go (pc' := 136) (go_putI (i := 2) cls3 (sx_k2 hS) (by decide) rfl lf_X3_50 (by decide) rfl rfl rfl dX3_advance_133) ?_
        refine Cv.namM fun m37 em37 => ?_
        have zm37 : SameSh m34 m37 := em37 ▸ SameSh.d
        have hS := hS.sh zm37
        refine Cv.go (pc' := 159) (go_goto (tgt := 159) dX3_advance_136 rfl) ?_
        refine Cv.go (pc' := 160) (go_iconst dX3_advance_159 ic_1) ?_
        exact Cv.ret dX3_advance_160 rfl
    · refine Cv.go (pc' := 85) (go_if_eq_f 104 dX3_advance_82 rfl h15) ?_
      refine Cv.go (pc' := 86) (go_aload_n (i := 0) (x := 2) dX3_advance_85 rfl rfl) ?_
      refine Cv.go (pc' := 88) (go_bipush dX3_advance_86 ib_97) ?_
      refine Cv.go (pc' := 90) (go_bipush dX3_advance_88 ib_122) ?_
      refine Cv.bnd fun v38 m39 e40 => ?_
      have C41 := kc_X3_goBehindAll m12 (97 : Int32) (122 : Int32) hS v38 m39 e40
      refine Cv.go (pc' := 93) (st' := []) (go_callV (As := [.int (97 : Int32), .int (122 : Int32)]) (st := []) C41 (by decide) ok_X3_goBehindAll li_X3_goBehindAll ls_X3_goBehindAll lm_X3_74 cls3 (sx_k2 hS) rfl rfl (Nat.le_of_ble_eq_true rfl) dX3_advance_90) ?_
      have zm39 := C41.1.2.2 rfl
      have hS := hS.sh zm39
      refine Cv.go (pc' := 94) (go_aload_n (i := 0) (x := 2) dX3_advance_93 rfl rfl) ?_
      refine Cv.go (pc' := 95) (go_aload_n (i := 0) (x := 2) dX3_advance_94 rfl rfl) ?_
      refine Cv.bnd fun v42 m43 e44 => ?_
      have C45 := kc_X3_word m39 hS v42 m43 e44
      refine Cv.go (pc' := 98) (st' := [.int v42, .ref 2]) (go_callV (As := []) (st := [.ref 2]) C45 (by decide) ok_X3_word li_X3_word ls_X3_word lm_X3_78 cls3 (sx_k2 hS) rfl rfl (Nat.le_of_ble_eq_true rfl) dX3_advance_95) ?_
      have zm43 := C45.1.2.2 rfl
      have hS := hS.sh zm43
      refine Cv.go (pc' := 101) (go_putI (i := 2) cls3 (sx_k2 hS) (by decide) rfl lf_X3_50 (by decide) rfl rfl rfl dX3_advance_98) ?_
      refine Cv.namM fun m46 em46 => ?_
      have zm46 : SameSh m43 m46 := em46 ▸ SameSh.d
      have hS := hS.sh zm46
      refine Cv.go (pc' := 159) (go_goto (tgt := 159) dX3_advance_101 rfl) ?_
      refine Cv.go (pc' := 160) (go_iconst dX3_advance_159 ic_1) ?_
      exact Cv.ret dX3_advance_160 rfl
  · refine Cv.go (pc' := 60) (go_icmp_lt_f 69 dX3_advance_57 rfl h9) ?_
    refine Cv.go (pc' := 61) (go_aload_n (i := 0) (x := 2) dX3_advance_60 rfl rfl) ?_
    refine Cv.go (pc' := 63) (go_bipush dX3_advance_61 ib_n22) ?_
    refine Cv.go (pc' := 66) (go_putI (i := 2) cls3 (sx_k2 hS) (by decide) rfl lf_X3_50 (by decide) rfl rfl rfl dX3_advance_63) ?_
    refine Cv.namM fun m47 em47 => ?_
    have zm47 : SameSh m8 m47 := em47 ▸ SameSh.d
    have hS := hS.sh zm47
    refine Cv.go (pc' := 159) (go_goto (tgt := 159) dX3_advance_66 rfl) ?_
    refine Cv.go (pc' := 160) (go_iconst dX3_advance_159 ic_1) ?_
    exact Cv.ret dX3_advance_160 rfl
theorem c_X3_advance_7 : ∀ n, ∀ (m : Mem) (a1 : Int32) (a2 : Int32) (hS : ShX m), Cv true (cX3_advance, 3, RX3, 8, ((false, none) : IK)) .ireturn eZ (F_X3_advance_7 n m a1 a2) m 7 [.ref 2, .int a1, .int a2] [] := by
  intro n
  induction n with
  | zero => intro m a1 a2 hS; exact Cv.no
  | succ n ih =>
    intro m a1 a2 hS
    unfold F_X3_advance_7
    refine Cv.go (pc' := 8) (go_iload_n (i := 2) (x := a2) dX3_advance_7 rfl rfl) ?_
    refine Cv.go (pc' := 9) (go_aload_n (i := 0) (x := 2) dX3_advance_8 rfl rfl) ?_
    refine Cv.go (pc' := 12) (go_getI (i := 1) cls3 (sx_k2 hS) (by decide) rfl lf_X3_21 (by decide) dX3_advance_9) ?_
    refine Cv.ite (fun h2 => ?_) (fun h2 => ?_)
    · refine Cv.go (pc' := 47) (go_icmp_ge_t (tgt := 47) dX3_advance_12 rfl h2) ?_
      refine Cv.weak (ls' := [.ref 2, .int a1, .null]) (⟨Or.inr rfl, ⟨Or.inr rfl, ⟨Or.inl rfl, True.intro⟩⟩⟩) ?_
      exact c_X3_advance_47 m a1 hS
    · refine Cv.go (pc' := 15) (go_icmp_ge_f 47 dX3_advance_12 rfl h2) ?_
      refine Cv.go (pc' := 16) (go_aload_n (i := 0) (x := 2) dX3_advance_15 rfl rfl) ?_
      refine Cv.go (pc' := 19) (go_getR (i := 0) cls3 (sx_k2 hS) (by decide) rfl lf_X3_9 (Or.inr ⟨_, rfl⟩) (sx_r2_0 hS) dX3_advance_16) ?_
      refine Cv.go (pc' := 20) (go_iload_n (i := 2) (x := a2) dX3_advance_19 rfl rfl) ?_
      refine Cv.gif fun g3 => ?_
      refine Cv.go (pc' := 21) (go_iaload (sx_k3 hS) g3 dX3_advance_20) ?_
      refine Cv.go (pc' := 23) (go_bipush dX3_advance_21 ib_32) ?_
      refine Cv.ite (fun h4 => ?_) (fun h4 => ?_)
      · refine Cv.go (pc' := 37) (go_icmp_eq_t (tgt := 37) dX3_advance_23 rfl h4) ?_
        refine Cv.weak (ls' := [.ref 2, .null, .int a2]) (⟨Or.inr rfl, ⟨Or.inl rfl, ⟨Or.inr rfl, True.intro⟩⟩⟩) ?_
        exact c_X3_advance_37 (F_X3_advance_7 n) ih m a2 hS
      · refine Cv.go (pc' := 26) (go_icmp_eq_f 37 dX3_advance_23 rfl h4) ?_
        refine Cv.go (pc' := 27) (go_aload_n (i := 0) (x := 2) dX3_advance_26 rfl rfl) ?_
        refine Cv.go (pc' := 30) (go_getR (i := 0) cls3 (sx_k2 hS) (by decide) rfl lf_X3_9 (Or.inr ⟨_, rfl⟩) (sx_r2_0 hS) dX3_advance_27) ?_
        refine Cv.go (pc' := 31) (go_iload_n (i := 2) (x := a2) dX3_advance_30 rfl rfl) ?_
        refine Cv.gif fun g5 => ?_
        refine Cv.go (pc' := 32) (go_iaload (sx_k3 hS) g5 dX3_advance_31) ?_
        refine Cv.go (pc' := 34) (go_bipush dX3_advance_32 ib_10) ?_
        refine Cv.ite (fun h6 => ?_) (fun h6 => ?_)
        · refine Cv.go (pc' := 37) (go_icmp_ne_f 47 dX3_advance_34 rfl h6) ?_
          refine Cv.weak (ls' := [.ref 2, .null, .int a2]) (⟨Or.inr rfl, ⟨Or.inl rfl, ⟨Or.inr rfl, True.intro⟩⟩⟩) ?_
          exact c_X3_advance_37 (F_X3_advance_7 n) ih m a2 hS
        · refine Cv.go (pc' := 47) (go_icmp_ne_t (tgt := 47) dX3_advance_34 rfl h6) ?_
          refine Cv.weak (ls' := [.ref 2, .int a1, .null]) (⟨Or.inr rfl, ⟨Or.inr rfl, ⟨Or.inl rfl, True.intro⟩⟩⟩) ?_
          exact c_X3_advance_47 m a1 hS
theorem kc_X3_advance (m : Mem) (hS : ShX m) : ∀ v mE, F_X3_advance m = some (v, mE) → Con true kX3_advance 8 [.ref 2] m (eZ v) mE := by
  refine Con.of (ini := false) (ls0 := [.ref 2, .null, .null]) (ri := .ireturn) (by decide) (by intro z; cases z) rfl (Nat.le_of_ble_eq_true rfl) (fun v mE _ => RetTy.z) ?_
  show Cv true (cX3_advance, 3, RX3, 8, ((false, none) : IK)) .ireturn eZ (F_X3_advance m) m 0 [.ref 2, .null, .null] []
  unfold F_X3_advance
  refine Cv.go (pc' := 1) (go_aload_n (i := 0) (x := 2) dX3_advance_0 rfl rfl) ?_
  refine Cv.go (pc' := 4) (go_getI (i := 4) cls3 (sx_k2 hS) (by decide) rfl lf_X3_39 (by decide) dX3_advance_1) ?_
  refine Cv.namI fun x1 ex1 => ?_
  refine Cv.go (pc' := 5) (ls' := [.ref 2, .int x1, .null]) (go_istore_n dX3_advance_4 rfl (by decide) rfl) ?_
  refine Cv.go (pc' := 6) (go_iload_n (i := 1) (x := x1) dX3_advance_5 rfl rfl) ?_
  refine Cv.go (pc' := 7) (ls' := [.ref 2, .int x1, .int x1]) (go_istore_n dX3_advance_6 rfl (by decide) rfl) ?_
  exact c_X3_advance_7 FU m x1 x1 hS
theorem kc_X0_init (m : Mem) (c0 : Nat) : ∀ v mE, F_X0_init m c0 = some (v, mE) → Con false kX0_init 1 [.ref c0] m (eV v) mE := by
  refine Con.of (ini := true) (ls0 := [.ref c0]) (ri := .return_) (by decide) (by intro _; rfl) rfl (Nat.le_of_ble_eq_true rfl) (fun v mE _ => RetTy.v) ?_
  show Cv false (cX0_init, 1, RX0, 1, ((true, none) : IK)) .return_ eV (F_X0_init m c0) m 0 [.ref c0] []
  unfold F_X0_init
  refine Cv.go (pc' := 1) (go_aload_n (i := 0) (x := c0) dX0_init_0 rfl rfl) ?_
  refine Cv.go (pc' := 4) (go_oinit lm_X0_3 li_oinit lo_oinit (by decide) (Nat.le_of_ble_eq_true rfl) dX0_init_1) ?_
  exact Cv.ret dX0_init_4 rfl
theorem kc_X0_come (m : Mem) (c0 : Nat) (a1 : Int32) (a2 : Int32) (a3 : Int32) (hp0 : mK m c0 = (0, 0)) : ∀ v mE, F_X0_come m c0 a1 a2 a3 = some (v, mE) → Con true kX0_come 0 [.ref c0, .int a1, .int a2, .int a3] m (eV v) mE := by
  refine Con.of (ini := false) (ls0 := [.ref c0, .int a1, .int a2, .int a3]) (ri := .return_) (by decide) (by intro z; cases z) rfl (Nat.le_of_ble_eq_true rfl) (fun v mE _ => RetTy.v) ?_
  show Cv true (cX0_come, 4, RX0, 0, ((false, none) : IK)) .return_ eV (F_X0_come m c0 a1 a2 a3) m 0 [.ref c0, .int a1, .int a2, .int a3] []
  unfold F_X0_come
  refine Cv.go (pc' := 1) (go_aload_n (i := 0) (x := c0) dX0_come_0 rfl rfl) ?_
  refine Cv.go (pc' := 2) (go_iload_n (i := 1) (x := a1) dX0_come_1 rfl rfl) ?_
  refine Cv.go (pc' := 5) (go_putI (i := 0) cls0 hp0 (by decide) rfl lf_X0_9 (by decide) rfl rfl rfl dX0_come_2) ?_
  refine Cv.namM fun m1 em1 => ?_
  have zm1 : SameSh m m1 := em1 ▸ SameSh.d
  have hp0 := sk zm1 hp0
  refine Cv.go (pc' := 6) (go_aload_n (i := 0) (x := c0) dX0_come_5 rfl rfl) ?_
  refine Cv.go (pc' := 7) (go_iload_n (i := 2) (x := a2) dX0_come_6 rfl rfl) ?_
  refine Cv.go (pc' := 10) (go_putI (i := 1) cls0 hp0 (by decide) rfl lf_X0_15 (by decide) rfl rfl rfl dX0_come_7) ?_
  refine Cv.namM fun m2 em2 => ?_
  have zm2 : SameSh m1 m2 := em2 ▸ SameSh.d
  have hp0 := sk zm2 hp0
  refine Cv.go (pc' := 11) (go_aload_n (i := 0) (x := c0) dX0_come_10 rfl rfl) ?_
  refine Cv.go (pc' := 12) (go_iload_n (i := 3) (x := a3) dX0_come_11 rfl rfl) ?_
  refine Cv.go (pc' := 15) (go_putI (i := 2) cls0 hp0 (by decide) rfl lf_X0_18 (by decide) rfl rfl rfl dX0_come_12) ?_
  refine Cv.namM fun m3 em3 => ?_
  have zm3 : SameSh m2 m3 := em3 ▸ SameSh.d
  have hp0 := sk zm3 hp0
  refine Cv.go (pc' := 16) (go_aload_n (i := 0) (x := c0) dX0_come_15 rfl rfl) ?_
  refine Cv.go (pc' := 17) (go_iconst dX0_come_16 ic_0) ?_
  refine Cv.go (pc' := 20) (go_putI (i := 3) cls0 hp0 (by decide) rfl lf_X0_21 (by decide) rfl rfl rfl dX0_come_17) ?_
  refine Cv.namM fun m4 em4 => ?_
  have zm4 : SameSh m3 m4 := em4 ▸ SameSh.d
  have hp0 := sk zm4 hp0
  refine Cv.go (pc' := 21) (go_aload_n (i := 0) (x := c0) dX0_come_20 rfl rfl) ?_
  refine Cv.go (pc' := 22) (go_iconst dX0_come_21 ic_0) ?_
  refine Cv.go (pc' := 25) (go_putI (i := 4) cls0 hp0 (by decide) rfl lf_X0_24 (by decide) rfl rfl rfl dX0_come_22) ?_
  refine Cv.namM fun m5 em5 => ?_
  have zm5 : SameSh m4 m5 := em5 ▸ SameSh.d
  have hp0 := sk zm5 hp0
  refine Cv.go (pc' := 26) (go_aload_n (i := 0) (x := c0) dX0_come_25 rfl rfl) ?_
  refine Cv.go (pc' := 27) (go_iconst dX0_come_26 ic_0) ?_
  refine Cv.go (pc' := 30) (go_putI (i := 5) cls0 hp0 (by decide) rfl lf_X0_27 (by decide) rfl rfl rfl dX0_come_27) ?_
  refine Cv.namM fun m6 em6 => ?_
  have zm6 : SameSh m5 m6 := em6 ▸ SameSh.d
  have hp0 := sk zm6 hp0
  exact Cv.ret dX0_come_30 rfl
theorem kc_X0_become (m : Mem) (c0 : Nat) (c1 : Nat) (hp0 : mK m c0 = (0, 0)) (hp1 : mK m c1 = (0, 0)) : ∀ v mE, F_X0_become m c0 c1 = some (v, mE) → Con true kX0_become 0 [.ref c0, .ref c1] m (eV v) mE := by
  refine Con.of (ini := false) (ls0 := [.ref c0, .ref c1]) (ri := .return_) (by decide) (by intro z; cases z) rfl (Nat.le_of_ble_eq_true rfl) (fun v mE _ => RetTy.v) ?_
  show Cv true (cX0_become, 2, RX0, 0, ((false, none) : IK)) .return_ eV (F_X0_become m c0 c1) m 0 [.ref c0, .ref c1] []
  unfold F_X0_become
  refine Cv.go (pc' := 1) (go_aload_n (i := 0) (x := c0) dX0_become_0 rfl rfl) ?_
  refine Cv.go (pc' := 2) (go_aload_n (i := 1) (x := c1) dX0_become_1 rfl rfl) ?_
  refine Cv.go (pc' := 5) (go_getI (i := 0) cls0 hp1 (by decide) rfl lf_X0_9 (by decide) dX0_become_2) ?_
  refine Cv.go (pc' := 8) (go_putI (i := 0) cls0 hp0 (by decide) rfl lf_X0_9 (by decide) rfl rfl rfl dX0_become_5) ?_
  refine Cv.namM fun m1 em1 => ?_
  have zm1 : SameSh m m1 := em1 ▸ SameSh.d
  have hp0 := sk zm1 hp0
  have hp1 := sk zm1 hp1
  refine Cv.go (pc' := 9) (go_aload_n (i := 0) (x := c0) dX0_become_8 rfl rfl) ?_
  refine Cv.go (pc' := 10) (go_aload_n (i := 1) (x := c1) dX0_become_9 rfl rfl) ?_
  refine Cv.go (pc' := 13) (go_getI (i := 1) cls0 hp1 (by decide) rfl lf_X0_15 (by decide) dX0_become_10) ?_
  refine Cv.go (pc' := 16) (go_putI (i := 1) cls0 hp0 (by decide) rfl lf_X0_15 (by decide) rfl rfl rfl dX0_become_13) ?_
  refine Cv.namM fun m2 em2 => ?_
  have zm2 : SameSh m1 m2 := em2 ▸ SameSh.d
  have hp0 := sk zm2 hp0
  have hp1 := sk zm2 hp1
  refine Cv.go (pc' := 17) (go_aload_n (i := 0) (x := c0) dX0_become_16 rfl rfl) ?_
  refine Cv.go (pc' := 18) (go_aload_n (i := 1) (x := c1) dX0_become_17 rfl rfl) ?_
  refine Cv.go (pc' := 21) (go_getI (i := 2) cls0 hp1 (by decide) rfl lf_X0_18 (by decide) dX0_become_18) ?_
  refine Cv.go (pc' := 24) (go_putI (i := 2) cls0 hp0 (by decide) rfl lf_X0_18 (by decide) rfl rfl rfl dX0_become_21) ?_
  refine Cv.namM fun m3 em3 => ?_
  have zm3 : SameSh m2 m3 := em3 ▸ SameSh.d
  have hp0 := sk zm3 hp0
  have hp1 := sk zm3 hp1
  refine Cv.go (pc' := 25) (go_aload_n (i := 0) (x := c0) dX0_become_24 rfl rfl) ?_
  refine Cv.go (pc' := 26) (go_aload_n (i := 1) (x := c1) dX0_become_25 rfl rfl) ?_
  refine Cv.go (pc' := 29) (go_getI (i := 3) cls0 hp1 (by decide) rfl lf_X0_21 (by decide) dX0_become_26) ?_
  refine Cv.go (pc' := 32) (go_putI (i := 3) cls0 hp0 (by decide) rfl lf_X0_21 (by decide) rfl rfl rfl dX0_become_29) ?_
  refine Cv.namM fun m4 em4 => ?_
  have zm4 : SameSh m3 m4 := em4 ▸ SameSh.d
  have hp0 := sk zm4 hp0
  have hp1 := sk zm4 hp1
  refine Cv.go (pc' := 33) (go_aload_n (i := 0) (x := c0) dX0_become_32 rfl rfl) ?_
  refine Cv.go (pc' := 34) (go_aload_n (i := 1) (x := c1) dX0_become_33 rfl rfl) ?_
  refine Cv.go (pc' := 37) (go_getI (i := 4) cls0 hp1 (by decide) rfl lf_X0_24 (by decide) dX0_become_34) ?_
  refine Cv.go (pc' := 40) (go_putI (i := 4) cls0 hp0 (by decide) rfl lf_X0_24 (by decide) rfl rfl rfl dX0_become_37) ?_
  refine Cv.namM fun m5 em5 => ?_
  have zm5 : SameSh m4 m5 := em5 ▸ SameSh.d
  have hp0 := sk zm5 hp0
  have hp1 := sk zm5 hp1
  refine Cv.go (pc' := 41) (go_aload_n (i := 0) (x := c0) dX0_become_40 rfl rfl) ?_
  refine Cv.go (pc' := 42) (go_aload_n (i := 1) (x := c1) dX0_become_41 rfl rfl) ?_
  refine Cv.go (pc' := 45) (go_getI (i := 5) cls0 hp1 (by decide) rfl lf_X0_27 (by decide) dX0_become_42) ?_
  refine Cv.go (pc' := 48) (go_putI (i := 5) cls0 hp0 (by decide) rfl lf_X0_27 (by decide) rfl rfl rfl dX0_become_45) ?_
  refine Cv.namM fun m6 em6 => ?_
  have zm6 : SameSh m5 m6 := em6 ▸ SameSh.d
  have hp0 := sk zm6 hp0
  have hp1 := sk zm6 hp1
  exact Cv.ret dX0_become_48 rfl
theorem kc_X0_goTo (m : Mem) (c0 : Nat) (a1 : Int32) (hp0 : mK m c0 = (0, 0)) : ∀ v mE, F_X0_goTo m c0 a1 = some (v, mE) → Con true kX0_goTo 0 [.ref c0, .int a1] m (eV v) mE := by
  refine Con.of (ini := false) (ls0 := [.ref c0, .int a1]) (ri := .return_) (by decide) (by intro z; cases z) rfl (Nat.le_of_ble_eq_true rfl) (fun v mE _ => RetTy.v) ?_
  show Cv true (cX0_goTo, 2, RX0, 0, ((false, none) : IK)) .return_ eV (F_X0_goTo m c0 a1) m 0 [.ref c0, .int a1] []
  unfold F_X0_goTo
  refine Cv.go (pc' := 1) (go_aload_n (i := 0) (x := c0) dX0_goTo_0 rfl rfl) ?_
  refine Cv.go (pc' := 2) (go_iload_n (i := 1) (x := a1) dX0_goTo_1 rfl rfl) ?_
  refine Cv.go (pc' := 5) (go_putI (i := 5) cls0 hp0 (by decide) rfl lf_X0_27 (by decide) rfl rfl rfl dX0_goTo_2) ?_
  refine Cv.namM fun m1 em1 => ?_
  have zm1 : SameSh m m1 := em1 ▸ SameSh.d
  have hp0 := sk zm1 hp0
  refine Cv.go (pc' := 6) (go_aload_n (i := 0) (x := c0) dX0_goTo_5 rfl rfl) ?_
  refine Cv.go (pc' := 7) (go_iconst dX0_goTo_6 ic_0) ?_
  refine Cv.go (pc' := 10) (go_putI (i := 4) cls0 hp0 (by decide) rfl lf_X0_24 (by decide) rfl rfl rfl dX0_goTo_7) ?_
  refine Cv.namM fun m2 em2 => ?_
  have zm2 : SameSh m1 m2 := em2 ▸ SameSh.d
  have hp0 := sk zm2 hp0
  exact Cv.ret dX0_goTo_10 rfl
theorem kc_X0_ageBehind (m : Mem) (c0 : Nat) (a1 : Int32) (hp0 : mK m c0 = (0, 0)) : ∀ v mE, F_X0_ageBehind m c0 a1 = some (v, mE) → Con true kX0_ageBehind 1 [.ref c0, .int a1] m (eI v) mE := by
  refine Con.of (ini := false) (ls0 := [.ref c0, .int a1]) (ri := .ireturn) (by decide) (by intro z; cases z) rfl (Nat.le_of_ble_eq_true rfl) (fun v mE _ => RetTy.i) ?_
  show Cv true (cX0_ageBehind, 2, RX0, 1, ((false, none) : IK)) .ireturn eI (F_X0_ageBehind m c0 a1) m 0 [.ref c0, .int a1] []
  unfold F_X0_ageBehind
  refine Cv.go (pc' := 3) (go_sipush dX0_ageBehind_0 is_999) ?_
  refine Cv.go (pc' := 4) (go_aload_n (i := 0) (x := c0) dX0_ageBehind_3 rfl rfl) ?_
  refine Cv.go (pc' := 7) (go_getI (i := 4) cls0 hp0 (by decide) rfl lf_X0_24 (by decide) dX0_ageBehind_4) ?_
  refine Cv.go (pc' := 8) (go_iload_n (i := 1) (x := a1) dX0_ageBehind_7 rfl rfl) ?_
  refine Cv.go (pc' := 9) (go_iadd dX0_ageBehind_8) ?_
  refine Cv.go (pc' := 12) (go_min lm_X0_30 lt_min ln_Math lo_min (by decide) (Nat.le_of_ble_eq_true rfl) dX0_ageBehind_9) ?_
  exact Cv.ret dX0_ageBehind_12 rfl
theorem kc_X0_part (m : Mem) (c0 : Nat) (a1 : Int32) (hp0 : mK m c0 = (0, 0)) : ∀ v mE, F_X0_part m c0 a1 = some (v, mE) → Con true kX0_part 0 [.ref c0, .int a1] m (eI v) mE := by
  refine Con.of (ini := false) (ls0 := [.ref c0, .int a1]) (ri := .ireturn) (by decide) (by intro z; cases z) rfl (Nat.le_of_ble_eq_true rfl) (fun v mE _ => RetTy.i) ?_
  show Cv true (cX0_part, 2, RX0, 0, ((false, none) : IK)) .ireturn eI (F_X0_part m c0 a1) m 0 [.ref c0, .int a1] []
  unfold F_X0_part
  refine Cv.go (pc' := 1) (go_iload_n (i := 1) (x := a1) dX0_part_0 rfl rfl) ?_
  refine Cv.ite (fun h1 => ?_) (fun h1 => ?_)
  · refine Cv.go (pc' := 36) (go_tsIn (off := 35) (tgt := 36) dX0_part_1 (by rw [h1]; decide) (by rw [h1]; decide) (by rw [h1]; rfl) rfl) ?_
    refine Cv.go (pc' := 37) (go_aload_n (i := 0) (x := c0) dX0_part_36 rfl rfl) ?_
    refine Cv.go (pc' := 40) (go_getI (i := 1) cls0 hp0 (by decide) rfl lf_X0_15 (by decide) dX0_part_37) ?_
    exact Cv.ret dX0_part_40 rfl
  · refine Cv.ite (fun h2 => ?_) (fun h2 => ?_)
    · refine Cv.go (pc' := 41) (go_tsIn (off := 40) (tgt := 41) dX0_part_1 (by rw [h2]; decide) (by rw [h2]; decide) (by rw [h2]; rfl) rfl) ?_
      refine Cv.go (pc' := 42) (go_aload_n (i := 0) (x := c0) dX0_part_41 rfl rfl) ?_
      refine Cv.go (pc' := 45) (go_getI (i := 2) cls0 hp0 (by decide) rfl lf_X0_18 (by decide) dX0_part_42) ?_
      exact Cv.ret dX0_part_45 rfl
    · refine Cv.ite (fun h3 => ?_) (fun h3 => ?_)
      · refine Cv.go (pc' := 46) (go_tsIn (off := 45) (tgt := 46) dX0_part_1 (by rw [h3]; decide) (by rw [h3]; decide) (by rw [h3]; rfl) rfl) ?_
        refine Cv.go (pc' := 47) (go_aload_n (i := 0) (x := c0) dX0_part_46 rfl rfl) ?_
        refine Cv.go (pc' := 50) (go_getI (i := 3) cls0 hp0 (by decide) rfl lf_X0_21 (by decide) dX0_part_47) ?_
        exact Cv.ret dX0_part_50 rfl
      · refine Cv.ite (fun h4 => ?_) (fun h4 => ?_)
        · refine Cv.go (pc' := 51) (go_tsIn (off := 50) (tgt := 51) dX0_part_1 (by rw [h4]; decide) (by rw [h4]; decide) (by rw [h4]; rfl) rfl) ?_
          refine Cv.go (pc' := 52) (go_aload_n (i := 0) (x := c0) dX0_part_51 rfl rfl) ?_
          refine Cv.go (pc' := 55) (go_getI (i := 4) cls0 hp0 (by decide) rfl lf_X0_24 (by decide) dX0_part_52) ?_
          exact Cv.ret dX0_part_55 rfl
        · refine Cv.ite (fun h5 => ?_) (fun h5 => ?_)
          · refine Cv.go (pc' := 56) (go_tsIn (off := 55) (tgt := 56) dX0_part_1 (by rw [h5]; decide) (by rw [h5]; decide) (by rw [h5]; rfl) rfl) ?_
            refine Cv.go (pc' := 57) (go_aload_n (i := 0) (x := c0) dX0_part_56 rfl rfl) ?_
            refine Cv.go (pc' := 60) (go_getI (i := 5) cls0 hp0 (by decide) rfl lf_X0_27 (by decide) dX0_part_57) ?_
            exact Cv.ret dX0_part_60 rfl
          · refine Cv.go (pc' := 61) (go_tsOut (tgt := 61) dX0_part_1 (by have n0 : (a1).toInt ≠ 1 := fun z => h1 (Int32.toInt_inj.mp (z.trans (by decide))); have n1 : (a1).toInt ≠ 2 := fun z => h2 (Int32.toInt_inj.mp (z.trans (by decide))); have n2 : (a1).toInt ≠ 3 := fun z => h3 (Int32.toInt_inj.mp (z.trans (by decide))); have n3 : (a1).toInt ≠ 4 := fun z => h4 (Int32.toInt_inj.mp (z.trans (by decide))); have n4 : (a1).toInt ≠ 5 := fun z => h5 (Int32.toInt_inj.mp (z.trans (by decide))); omega) rfl) ?_
            refine Cv.go (pc' := 62) (go_aload_n (i := 0) (x := c0) dX0_part_61 rfl rfl) ?_
            refine Cv.go (pc' := 65) (go_getI (i := 0) cls0 hp0 (by decide) rfl lf_X0_9 (by decide) dX0_part_62) ?_
            exact Cv.ret dX0_part_65 rfl
theorem kc_X0_lay (m : Mem) (c0 : Nat) (a1 : Int32) (a2 : Int32) (hp0 : mK m c0 = (0, 0)) : ∀ v mE, F_X0_lay m c0 a1 a2 = some (v, mE) → Con true kX0_lay 0 [.ref c0, .int a1, .int a2] m (eV v) mE := by
  refine Con.of (ini := false) (ls0 := [.ref c0, .int a1, .int a2]) (ri := .return_) (by decide) (by intro z; cases z) rfl (Nat.le_of_ble_eq_true rfl) (fun v mE _ => RetTy.v) ?_
  show Cv true (cX0_lay, 3, RX0, 0, ((false, none) : IK)) .return_ eV (F_X0_lay m c0 a1 a2) m 0 [.ref c0, .int a1, .int a2] []
  unfold F_X0_lay
  refine Cv.go (pc' := 1) (go_iload_n (i := 1) (x := a1) dX0_lay_0 rfl rfl) ?_
  refine Cv.ite (fun h1 => ?_) (fun h1 => ?_)
  · refine Cv.go (pc' := 36) (go_tsIn (off := 35) (tgt := 36) dX0_lay_1 (by rw [h1]; decide) (by rw [h1]; decide) (by rw [h1]; rfl) rfl) ?_
    refine Cv.go (pc' := 37) (go_aload_n (i := 0) (x := c0) dX0_lay_36 rfl rfl) ?_
    refine Cv.go (pc' := 38) (go_iload_n (i := 2) (x := a2) dX0_lay_37 rfl rfl) ?_
    refine Cv.go (pc' := 41) (go_putI (i := 1) cls0 hp0 (by decide) rfl lf_X0_15 (by decide) rfl rfl rfl dX0_lay_38) ?_
    refine Cv.namM fun m2 em2 => ?_
    have zm2 : SameSh m m2 := em2 ▸ SameSh.d
    have hp0 := sk zm2 hp0
    refine Cv.go (pc' := 81) (go_goto (tgt := 81) dX0_lay_41 rfl) ?_
    exact Cv.ret dX0_lay_81 rfl
  · refine Cv.ite (fun h3 => ?_) (fun h3 => ?_)
    · refine Cv.go (pc' := 44) (go_tsIn (off := 43) (tgt := 44) dX0_lay_1 (by rw [h3]; decide) (by rw [h3]; decide) (by rw [h3]; rfl) rfl) ?_
      refine Cv.go (pc' := 45) (go_aload_n (i := 0) (x := c0) dX0_lay_44 rfl rfl) ?_
      refine Cv.go (pc' := 46) (go_iload_n (i := 2) (x := a2) dX0_lay_45 rfl rfl) ?_
      refine Cv.go (pc' := 49) (go_putI (i := 2) cls0 hp0 (by decide) rfl lf_X0_18 (by decide) rfl rfl rfl dX0_lay_46) ?_
      refine Cv.namM fun m4 em4 => ?_
      have zm4 : SameSh m m4 := em4 ▸ SameSh.d
      have hp0 := sk zm4 hp0
      refine Cv.go (pc' := 81) (go_goto (tgt := 81) dX0_lay_49 rfl) ?_
      exact Cv.ret dX0_lay_81 rfl
    · refine Cv.ite (fun h5 => ?_) (fun h5 => ?_)
      · refine Cv.go (pc' := 52) (go_tsIn (off := 51) (tgt := 52) dX0_lay_1 (by rw [h5]; decide) (by rw [h5]; decide) (by rw [h5]; rfl) rfl) ?_
        refine Cv.go (pc' := 53) (go_aload_n (i := 0) (x := c0) dX0_lay_52 rfl rfl) ?_
        refine Cv.go (pc' := 54) (go_iload_n (i := 2) (x := a2) dX0_lay_53 rfl rfl) ?_
        refine Cv.go (pc' := 57) (go_putI (i := 3) cls0 hp0 (by decide) rfl lf_X0_21 (by decide) rfl rfl rfl dX0_lay_54) ?_
        refine Cv.namM fun m6 em6 => ?_
        have zm6 : SameSh m m6 := em6 ▸ SameSh.d
        have hp0 := sk zm6 hp0
        refine Cv.go (pc' := 81) (go_goto (tgt := 81) dX0_lay_57 rfl) ?_
        exact Cv.ret dX0_lay_81 rfl
      · refine Cv.ite (fun h7 => ?_) (fun h7 => ?_)
        · refine Cv.go (pc' := 60) (go_tsIn (off := 59) (tgt := 60) dX0_lay_1 (by rw [h7]; decide) (by rw [h7]; decide) (by rw [h7]; rfl) rfl) ?_
          refine Cv.go (pc' := 61) (go_aload_n (i := 0) (x := c0) dX0_lay_60 rfl rfl) ?_
          refine Cv.go (pc' := 62) (go_iload_n (i := 2) (x := a2) dX0_lay_61 rfl rfl) ?_
          refine Cv.go (pc' := 65) (go_putI (i := 4) cls0 hp0 (by decide) rfl lf_X0_24 (by decide) rfl rfl rfl dX0_lay_62) ?_
          refine Cv.namM fun m8 em8 => ?_
          have zm8 : SameSh m m8 := em8 ▸ SameSh.d
          have hp0 := sk zm8 hp0
          refine Cv.go (pc' := 81) (go_goto (tgt := 81) dX0_lay_65 rfl) ?_
          exact Cv.ret dX0_lay_81 rfl
        · refine Cv.ite (fun h9 => ?_) (fun h9 => ?_)
          · refine Cv.go (pc' := 68) (go_tsIn (off := 67) (tgt := 68) dX0_lay_1 (by rw [h9]; decide) (by rw [h9]; decide) (by rw [h9]; rfl) rfl) ?_
            refine Cv.go (pc' := 69) (go_aload_n (i := 0) (x := c0) dX0_lay_68 rfl rfl) ?_
            refine Cv.go (pc' := 70) (go_iload_n (i := 2) (x := a2) dX0_lay_69 rfl rfl) ?_
            refine Cv.go (pc' := 73) (go_putI (i := 5) cls0 hp0 (by decide) rfl lf_X0_27 (by decide) rfl rfl rfl dX0_lay_70) ?_
            refine Cv.namM fun m10 em10 => ?_
            have zm10 : SameSh m m10 := em10 ▸ SameSh.d
            have hp0 := sk zm10 hp0
            refine Cv.go (pc' := 81) (go_goto (tgt := 81) dX0_lay_73 rfl) ?_
            exact Cv.ret dX0_lay_81 rfl
          · refine Cv.go (pc' := 76) (go_tsOut (tgt := 76) dX0_lay_1 (by have n0 : (a1).toInt ≠ 1 := fun z => h1 (Int32.toInt_inj.mp (z.trans (by decide))); have n1 : (a1).toInt ≠ 2 := fun z => h3 (Int32.toInt_inj.mp (z.trans (by decide))); have n2 : (a1).toInt ≠ 3 := fun z => h5 (Int32.toInt_inj.mp (z.trans (by decide))); have n3 : (a1).toInt ≠ 4 := fun z => h7 (Int32.toInt_inj.mp (z.trans (by decide))); have n4 : (a1).toInt ≠ 5 := fun z => h9 (Int32.toInt_inj.mp (z.trans (by decide))); omega) rfl) ?_
            refine Cv.go (pc' := 77) (go_aload_n (i := 0) (x := c0) dX0_lay_76 rfl rfl) ?_
            refine Cv.go (pc' := 78) (go_iload_n (i := 2) (x := a2) dX0_lay_77 rfl rfl) ?_
            refine Cv.go (pc' := 81) (go_putI (i := 0) cls0 hp0 (by decide) rfl lf_X0_9 (by decide) rfl rfl rfl dX0_lay_78) ?_
            refine Cv.namM fun m11 em11 => ?_
            have zm11 : SameSh m m11 := em11 ▸ SameSh.d
            have hp0 := sk zm11 hp0
            exact Cv.ret dX0_lay_81 rfl
theorem c_X1_init_15 : ∀ n, ∀ (m : Mem) (a0 : Nat) (a1 : Int32), Cv false (cX1_init, 2, RX1, 2, ((true, none) : IK)) .return_ eV (F_X1_init_15 n m a0 a1) m 15 [.ref a0, .int a1] [] := by
  intro n
  induction n with
  | zero => intro m a0 a1; exact Cv.no
  | succ n ih =>
    intro m a0 a1
    unfold F_X1_init_15
    refine Cv.go (pc' := 16) (go_iload_n (i := 1) (x := a1) dX1_init_15 rfl rfl) ?_
    refine Cv.go (pc' := 17) (go_aload_n (i := 0) (x := a0) dX1_init_16 rfl rfl) ?_
    refine Cv.gif fun g5 => ?_
    refine Cv.gref fun r6 e7 => ?_
    refine Cv.go (pc' := 20) (go_getR (i := 4) cls1 g5 (by decide) rfl lf_X1_11 (Or.inr ⟨_, rfl⟩) e7 dX1_init_17) ?_
    refine Cv.gif fun g8 => ?_
    refine Cv.go (pc' := 21) (go_alen (t := 9) (t0 := 2) (kA g8) (by decide) (fun _ => rfl) dX1_init_20) ?_
    refine Cv.ite (fun h9 => ?_) (fun h9 => ?_)
    · refine Cv.go (pc' := 43) (go_icmp_ge_t (tgt := 43) dX1_init_21 rfl h9) ?_
      exact Cv.ret dX1_init_43 rfl
    · refine Cv.go (pc' := 24) (go_icmp_ge_f 43 dX1_init_21 rfl h9) ?_
      refine Cv.go (pc' := 25) (go_aload_n (i := 0) (x := a0) dX1_init_24 rfl rfl) ?_
      refine Cv.gif fun g10 => ?_
      refine Cv.gref fun r11 e12 => ?_
      refine Cv.go (pc' := 28) (go_getR (i := 4) cls1 g10 (by decide) rfl lf_X1_11 (Or.inr ⟨_, rfl⟩) e12 dX1_init_25) ?_
      refine Cv.go (pc' := 29) (go_iload_n (i := 1) (x := a1) dX1_init_28 rfl rfl) ?_
      refine Cv.go (pc' := 32) (go_new cls0 lk_X1_9 la_X0 ln_X0 nf0 dX1_init_29) ?_
      refine Cv.namM fun m13 em13 => ?_
      refine Cv.namR fun q14 eq14 => ?_
      refine Cv.go (pc' := 33) (go_dup_a dX1_init_32) ?_
      refine Cv.bnd fun v15 m16 e17 => ?_
      have C18 := kc_X0_init m13 q14 v15 m16 e17
      refine Cv.go (pc' := 36) (st' := [.ref q14, .int a1, .ref r11]) (go_callN (host := RX5) (As := []) (st := [.ref q14, .int a1, .ref r11]) C18 rfl rfl (by decide) ok_X0_init li_X0_init (by simp [nw]) rfl rfl (Nat.le_of_ble_eq_true rfl) dX1_init_33) ?_
      refine Cv.gif fun g19 => ?_
      refine Cv.go (pc' := 37) (go_aastore (t := 9) (t0 := 2) cls0 (kA g19.1) (by decide) (fun _ => rfl) g19.2.2 g19.2.1 dX1_init_36) ?_
      refine Cv.namM fun m20 em20 => ?_
      refine Cv.go (pc' := 40) (ls' := [.ref a0, .int (a1 + (1 : Int32))]) (go_iinc (x := a1) (v := a1 + (1 : Int32)) dX1_init_37 rfl rfl (by decide) rfl) ?_
      refine Cv.go (pc' := 15) (go_goto (tgt := 15) dX1_init_40 rfl) ?_
      exact ih m20 a0 (a1 + (1 : Int32))
theorem kc_X1_init (m : Mem) (c0 : Nat) : ∀ v mE, F_X1_init m c0 = some (v, mE) → Con false kX1_init 2 [.ref c0] m (eV v) mE := by
  refine Con.of (ini := true) (ls0 := [.ref c0, .null]) (ri := .return_) (by decide) (by intro _; rfl) rfl (Nat.le_of_ble_eq_true rfl) (fun v mE _ => RetTy.v) ?_
  show Cv false (cX1_init, 2, RX1, 2, ((true, none) : IK)) .return_ eV (F_X1_init m c0) m 0 [.ref c0, .null] []
  unfold F_X1_init
  refine Cv.go (pc' := 1) (go_aload_n (i := 0) (x := c0) dX1_init_0 rfl rfl) ?_
  refine Cv.go (pc' := 4) (go_oinit lm_X1_3 li_oinit lo_oinit (by decide) (Nat.le_of_ble_eq_true rfl) dX1_init_1) ?_
  refine Cv.go (pc' := 5) (go_aload_n (i := 0) (x := c0) dX1_init_4 rfl rfl) ?_
  refine Cv.go (pc' := 7) (go_bipush dX1_init_5 ib_8) ?_
  refine Cv.go (pc' := 10) (go_newR (N' := 8) (t := 9) (t0 := 2) aoCoin (by decide) (fun _ => rfl) lk_X1_9 (by decide) (by decide) (by decide) dX1_init_7) ?_
  refine Cv.namM fun m1 em1 => ?_
  refine Cv.namR fun q2 eq2 => ?_
  refine Cv.gif fun g3 => ?_
  refine Cv.go (pc' := 13) (go_putF (i := 4) cls1 g3 (by decide) rfl rfl lf_X1_11 (Or.inr ⟨_, rfl⟩) rfl dX1_init_10) ?_
  refine Cv.namM fun m4 em4 => ?_
  refine Cv.go (pc' := 14) (go_iconst dX1_init_13 ic_0) ?_
  refine Cv.go (pc' := 15) (ls' := [.ref c0, .int (0 : Int32)]) (go_istore_n dX1_init_14 rfl (by decide) rfl) ?_
  exact c_X1_init_15 FU m4 c0 (0 : Int32)
theorem kc_X2_init (m : Mem) (c0 : Nat) : ∀ v mE, F_X2_init m c0 = some (v, mE) → Con false kX2_init 1 [.ref c0] m (eV v) mE := by
  refine Con.of (ini := true) (ls0 := [.ref c0]) (ri := .return_) (by decide) (by intro _; rfl) rfl (Nat.le_of_ble_eq_true rfl) (fun v mE _ => RetTy.v) ?_
  show Cv false (cX2_init, 1, RX2, 1, ((true, none) : IK)) .return_ eV (F_X2_init m c0) m 0 [.ref c0] []
  unfold F_X2_init
  refine Cv.go (pc' := 1) (go_aload_n (i := 0) (x := c0) dX2_init_0 rfl rfl) ?_
  refine Cv.go (pc' := 4) (go_oinit lm_X2_3 li_oinit lo_oinit (by decide) (Nat.le_of_ble_eq_true rfl) dX2_init_1) ?_
  refine Cv.go (pc' := 5) (go_aload_n (i := 0) (x := c0) dX2_init_4 rfl rfl) ?_
  refine Cv.go (pc' := 6) (go_iconst dX2_init_5 ic_n1) ?_
  refine Cv.gif fun g1 => ?_
  refine Cv.go (pc' := 9) (go_putI (i := 0) cls2 g1 (by decide) rfl lf_X2_9 (by decide) rfl rfl rfl dX2_init_6) ?_
  refine Cv.namM fun m2 em2 => ?_
  refine Cv.go (pc' := 10) (go_aload_n (i := 0) (x := c0) dX2_init_9 rfl rfl) ?_
  refine Cv.go (pc' := 12) (go_bipush dX2_init_10 ib_40) ?_
  refine Cv.go (pc' := 14) (go_newI (N' := 40) lx_int (by decide) (by decide) (by decide) dX2_init_12) ?_
  refine Cv.namM fun m3 em3 => ?_
  refine Cv.namR fun q4 eq4 => ?_
  refine Cv.gif fun g5 => ?_
  refine Cv.go (pc' := 17) (go_putF (i := 2) cls2 g5 (by decide) rfl rfl lf_X2_15 (Or.inr ⟨_, rfl⟩) rfl dX2_init_14) ?_
  refine Cv.namM fun m6 em6 => ?_
  exact Cv.ret dX2_init_17 rfl
theorem kc_X2_isMissing (m : Mem) (c0 : Nat) (hp0 : isS m c0) : ∀ v mE, F_X2_isMissing m c0 = some (v, mE) → Con true kX2_isMissing 0 [.ref c0] m (eZ v) mE := by
  refine Con.of (ini := false) (ls0 := [.ref c0]) (ri := .ireturn) (by decide) (by intro z; cases z) rfl (Nat.le_of_ble_eq_true rfl) (fun v mE _ => RetTy.z) ?_
  show Cv true (cX2_isMissing, 1, RX2, 0, ((false, none) : IK)) .ireturn eZ (F_X2_isMissing m c0) m 0 [.ref c0] []
  unfold F_X2_isMissing
  refine Cv.go (pc' := 1) (go_aload_n (i := 0) (x := c0) dX2_isMissing_0 rfl rfl) ?_
  refine Cv.go (pc' := 4) (go_getI (i := 0) cls2 hp0.1 (by decide) rfl lf_X2_9 (by decide) dX2_isMissing_1) ?_
  refine Cv.go (pc' := 5) (go_iconst dX2_isMissing_4 ic_n1) ?_
  refine Cv.ite (fun h1 => ?_) (fun h1 => ?_)
  · refine Cv.go (pc' := 8) (go_icmp_ne_f 12 dX2_isMissing_5 rfl h1) ?_
    refine Cv.go (pc' := 9) (go_iconst dX2_isMissing_8 ic_1) ?_
    refine Cv.go (pc' := 13) (go_goto (tgt := 13) dX2_isMissing_9 rfl) ?_
    exact Cv.ret dX2_isMissing_13 rfl
  · refine Cv.go (pc' := 12) (go_icmp_ne_t (tgt := 12) dX2_isMissing_5 rfl h1) ?_
    refine Cv.go (pc' := 13) (go_iconst dX2_isMissing_12 ic_0) ?_
    exact Cv.ret dX2_isMissing_13 rfl
theorem c_J7_fill_53178_5 : ∀ n, ∀ (m : Mem) (a0 : Nat) (a1 : Int32) (a2 : Int32) (a3 : Int32) (ha0 : (mK m a0).1 = 7), Cv true (cJ7_fill_53178, 4, RJ7, 0, ((false, none) : IK)) .return_ eV (F_J7_fill_53178_5 n m a0 a1 a2 a3) m 5 [.ref a0, .int a1, .int a2, .int a3] [] := by
  intro n
  induction n with
  | zero => intro m a0 a1 a2 a3 ha0; exact Cv.no
  | succ n ih =>
    intro m a0 a1 a2 a3 ha0
    unfold F_J7_fill_53178_5
    refine Cv.go (pc' := 6) (go_iload_n (i := 2) (x := a2) dJ7_fill_53178_5 rfl rfl) ?_
    refine Cv.go (pc' := 7) (go_iload_n (i := 3) (x := a3) dJ7_fill_53178_6 rfl rfl) ?_
    refine Cv.ite (fun h2 => ?_) (fun h2 => ?_)
    · refine Cv.go (pc' := 20) (go_icmp_ge_t (tgt := 20) dJ7_fill_53178_7 rfl h2) ?_
      exact Cv.ret dJ7_fill_53178_20 rfl
    · refine Cv.go (pc' := 10) (go_icmp_ge_f 20 dJ7_fill_53178_7 rfl h2) ?_
      refine Cv.go (pc' := 11) (go_aload_n (i := 0) (x := a0) dJ7_fill_53178_10 rfl rfl) ?_
      refine Cv.go (pc' := 12) (go_iload_n (i := 2) (x := a2) dJ7_fill_53178_11 rfl rfl) ?_
      refine Cv.go (pc' := 13) (go_iload_n (i := 1) (x := a1) dJ7_fill_53178_12 rfl rfl) ?_
      refine Cv.gif fun g3 => ?_
      refine Cv.go (pc' := 14) (go_iastore (kA ha0) g3 dJ7_fill_53178_13) ?_
      refine Cv.namM fun m4 em4 => ?_
      have zm4 : SameSh m m4 := em4 ▸ SameSh.d
      have ha0 := sk1 zm4 ha0
      refine Cv.go (pc' := 17) (ls' := [.ref a0, .int a1, .int (a2 + (1 : Int32)), .int a3]) (go_iinc (x := a2) (v := a2 + (1 : Int32)) dJ7_fill_53178_14 rfl rfl (by decide) rfl) ?_
      refine Cv.go (pc' := 5) (go_goto (tgt := 5) dJ7_fill_53178_17 rfl) ?_
      exact ih m4 a0 a1 (a2 + (1 : Int32)) a3 ha0
theorem kc_J7_fill_53178 (m : Mem) (c0 : Nat) (a1 : Int32) (hp0 : (mK m c0).1 = 7) : ∀ v mE, F_J7_fill_53178 m c0 a1 = some (v, mE) → Con true kJ7_fill_53178 0 [.ref c0, .int a1] m (eV v) mE := by
  refine Con.of (ini := false) (ls0 := [.ref c0, .int a1, .null, .null]) (ri := .return_) (by decide) (by intro z; cases z) rfl (Nat.le_of_ble_eq_true rfl) (fun v mE _ => RetTy.v) ?_
  show Cv true (cJ7_fill_53178, 4, RJ7, 0, ((false, none) : IK)) .return_ eV (F_J7_fill_53178 m c0 a1) m 0 [.ref c0, .int a1, .null, .null] []
  unfold F_J7_fill_53178
  refine Cv.go (pc' := 1) (go_iconst dJ7_fill_53178_0 ic_0) ?_
  refine Cv.go (pc' := 2) (ls' := [.ref c0, .int a1, .int (0 : Int32), .null]) (go_istore_n dJ7_fill_53178_1 rfl (by decide) rfl) ?_
  refine Cv.go (pc' := 3) (go_aload_n (i := 0) (x := c0) dJ7_fill_53178_2 rfl rfl) ?_
  refine Cv.go (pc' := 4) (go_alen (t := 7) (t0 := 0) (kA hp0) (by decide) (fun _ => rfl) dJ7_fill_53178_3) ?_
  refine Cv.namI fun x1 ex1 => ?_
  refine Cv.go (pc' := 5) (ls' := [.ref c0, .int a1, .int (0 : Int32), .int x1]) (go_istore_n dJ7_fill_53178_4 rfl (by decide) rfl) ?_
  exact c_J7_fill_53178_5 FU m c0 a1 (0 : Int32) x1 hp0
theorem kc_X2_become (m : Mem) (c0 : Nat) (a1 : Int32) (a2 : Int32) (hp0 : isS m c0) : ∀ v mE, F_X2_become m c0 a1 a2 = some (v, mE) → Con true kX2_become 1 [.ref c0, .int a1, .int a2] m (eV v) mE := by
  refine Con.of (ini := false) (ls0 := [.ref c0, .int a1, .int a2]) (ri := .return_) (by decide) (by intro z; cases z) rfl (Nat.le_of_ble_eq_true rfl) (fun v mE _ => RetTy.v) ?_
  show Cv true (cX2_become, 3, RX2, 1, ((false, none) : IK)) .return_ eV (F_X2_become m c0 a1 a2) m 0 [.ref c0, .int a1, .int a2] []
  unfold F_X2_become
  refine Cv.go (pc' := 1) (go_aload_n (i := 0) (x := c0) dX2_become_0 rfl rfl) ?_
  refine Cv.go (pc' := 2) (go_iload_n (i := 1) (x := a1) dX2_become_1 rfl rfl) ?_
  refine Cv.go (pc' := 5) (go_putI (i := 0) cls2 hp0.1 (by decide) rfl lf_X2_9 (by decide) rfl rfl rfl dX2_become_2) ?_
  refine Cv.namM fun m1 em1 => ?_
  have zm1 : SameSh m m1 := em1 ▸ SameSh.d
  have hp0 := hp0.sh zm1
  refine Cv.go (pc' := 6) (go_aload_n (i := 0) (x := c0) dX2_become_5 rfl rfl) ?_
  refine Cv.go (pc' := 7) (go_iload_n (i := 2) (x := a2) dX2_become_6 rfl rfl) ?_
  refine Cv.go (pc' := 10) (go_putI (i := 1) cls2 hp0.1 (by decide) rfl lf_X2_19 (by decide) rfl rfl rfl dX2_become_7) ?_
  refine Cv.namM fun m2 em2 => ?_
  have zm2 : SameSh m1 m2 := em2 ▸ SameSh.d
  have hp0 := hp0.sh zm2
  refine Cv.go (pc' := 11) (go_aload_n (i := 0) (x := c0) dX2_become_10 rfl rfl) ?_
  refine Cv.go (pc' := 14) (go_getR (i := 2) cls2 hp0.1 (by decide) rfl lf_X2_15 (Or.inr ⟨_, rfl⟩) hp0.2.1 dX2_become_11) ?_
  refine Cv.go (pc' := 15) (go_iconst dX2_become_14 ic_0) ?_
  refine Cv.bnd fun v3 m4 e5 => ?_
  have C6 := kc_J7_fill_53178 m2 (c0 + 1) (0 : Int32) (kB hp0.2.2) v3 m4 e5
  refine Cv.go (pc' := 18) (st' := []) (go_callS (As := [.ref (c0 + 1), .int (0 : Int32)]) (st := []) C6 (by decide) ok_J7_fill_53178 lt_J7_fill_53178 lm_X2_22 rfl rfl (Nat.le_of_ble_eq_true rfl) dX2_become_15) ?_
  have zm4 := C6.1.2.2 rfl
  have hp0 := hp0.sh zm4
  exact Cv.ret dX2_become_18 rfl
theorem kc_X2_hasRoom (m : Mem) (c0 : Nat) (a1 : Int32) (a2 : Int32) (hp0 : isS m c0) : ∀ v mE, F_X2_hasRoom m c0 a1 a2 = some (v, mE) → Con true kX2_hasRoom 0 [.ref c0, .int a1, .int a2] m (eZ v) mE := by
  refine Con.of (ini := false) (ls0 := [.ref c0, .int a1, .int a2]) (ri := .ireturn) (by decide) (by intro z; cases z) rfl (Nat.le_of_ble_eq_true rfl) (fun v mE _ => RetTy.z) ?_
  show Cv true (cX2_hasRoom, 3, RX2, 0, ((false, none) : IK)) .ireturn eZ (F_X2_hasRoom m c0 a1 a2) m 0 [.ref c0, .int a1, .int a2] []
  unfold F_X2_hasRoom
  refine Cv.go (pc' := 1) (go_iload_n (i := 1) (x := a1) dX2_hasRoom_0 rfl rfl) ?_
  refine Cv.ite (fun h1 => ?_) (fun h1 => ?_)
  · refine Cv.go (pc' := 30) (go_if_lt_t (tgt := 30) dX2_hasRoom_1 rfl h1) ?_
    refine Cv.go (pc' := 31) (go_iconst dX2_hasRoom_30 ic_0) ?_
    exact Cv.ret dX2_hasRoom_31 rfl
  · refine Cv.go (pc' := 4) (go_if_lt_f 30 dX2_hasRoom_1 rfl h1) ?_
    refine Cv.go (pc' := 5) (go_iload_n (i := 2) (x := a2) dX2_hasRoom_4 rfl rfl) ?_
    refine Cv.ite (fun h2 => ?_) (fun h2 => ?_)
    · refine Cv.go (pc' := 30) (go_if_lt_t (tgt := 30) dX2_hasRoom_5 rfl h2) ?_
      refine Cv.go (pc' := 31) (go_iconst dX2_hasRoom_30 ic_0) ?_
      exact Cv.ret dX2_hasRoom_31 rfl
    · refine Cv.go (pc' := 8) (go_if_lt_f 30 dX2_hasRoom_5 rfl h2) ?_
      refine Cv.go (pc' := 9) (go_iload_n (i := 1) (x := a1) dX2_hasRoom_8 rfl rfl) ?_
      refine Cv.go (pc' := 10) (go_aload_n (i := 0) (x := c0) dX2_hasRoom_9 rfl rfl) ?_
      refine Cv.go (pc' := 13) (go_getI (i := 1) cls2 hp0.1 (by decide) rfl lf_X2_19 (by decide) dX2_hasRoom_10) ?_
      refine Cv.ite (fun h3 => ?_) (fun h3 => ?_)
      · refine Cv.go (pc' := 30) (go_icmp_gt_t (tgt := 30) dX2_hasRoom_13 rfl h3) ?_
        refine Cv.go (pc' := 31) (go_iconst dX2_hasRoom_30 ic_0) ?_
        exact Cv.ret dX2_hasRoom_31 rfl
      · refine Cv.go (pc' := 16) (go_icmp_gt_f 30 dX2_hasRoom_13 rfl h3) ?_
        refine Cv.go (pc' := 17) (go_iload_n (i := 2) (x := a2) dX2_hasRoom_16 rfl rfl) ?_
        refine Cv.go (pc' := 18) (go_aload_n (i := 0) (x := c0) dX2_hasRoom_17 rfl rfl) ?_
        refine Cv.go (pc' := 21) (go_getI (i := 1) cls2 hp0.1 (by decide) rfl lf_X2_19 (by decide) dX2_hasRoom_18) ?_
        refine Cv.go (pc' := 22) (go_iload_n (i := 1) (x := a1) dX2_hasRoom_21 rfl rfl) ?_
        refine Cv.go (pc' := 23) (go_isub dX2_hasRoom_22) ?_
        refine Cv.ite (fun h4 => ?_) (fun h4 => ?_)
        · refine Cv.go (pc' := 30) (go_icmp_gt_t (tgt := 30) dX2_hasRoom_23 rfl h4) ?_
          refine Cv.go (pc' := 31) (go_iconst dX2_hasRoom_30 ic_0) ?_
          exact Cv.ret dX2_hasRoom_31 rfl
        · refine Cv.go (pc' := 26) (go_icmp_gt_f 30 dX2_hasRoom_23 rfl h4) ?_
          refine Cv.go (pc' := 27) (go_iconst dX2_hasRoom_26 ic_1) ?_
          refine Cv.go (pc' := 31) (go_goto (tgt := 31) dX2_hasRoom_27 rfl) ?_
          exact Cv.ret dX2_hasRoom_31 rfl
theorem kc_X2_put (m : Mem) (c0 : Nat) (a1 : Int32) (a2 : Int32) (hp0 : isS m c0) : ∀ v mE, F_X2_put m c0 a1 a2 = some (v, mE) → Con true kX2_put 0 [.ref c0, .int a1, .int a2] m (eV v) mE := by
  refine Con.of (ini := false) (ls0 := [.ref c0, .int a1, .int a2]) (ri := .return_) (by decide) (by intro z; cases z) rfl (Nat.le_of_ble_eq_true rfl) (fun v mE _ => RetTy.v) ?_
  show Cv true (cX2_put, 3, RX2, 0, ((false, none) : IK)) .return_ eV (F_X2_put m c0 a1 a2) m 0 [.ref c0, .int a1, .int a2] []
  unfold F_X2_put
  refine Cv.go (pc' := 1) (go_iload_n (i := 1) (x := a1) dX2_put_0 rfl rfl) ?_
  refine Cv.ite (fun h1 => ?_) (fun h1 => ?_)
  · refine Cv.go (pc' := 12) (go_if_lt_t (tgt := 12) dX2_put_1 rfl h1) ?_
    exact Cv.ret dX2_put_12 rfl
  · refine Cv.go (pc' := 4) (go_if_lt_f 12 dX2_put_1 rfl h1) ?_
    refine Cv.go (pc' := 5) (go_iload_n (i := 1) (x := a1) dX2_put_4 rfl rfl) ?_
    refine Cv.go (pc' := 6) (go_aload_n (i := 0) (x := c0) dX2_put_5 rfl rfl) ?_
    refine Cv.go (pc' := 9) (go_getI (i := 1) cls2 hp0.1 (by decide) rfl lf_X2_19 (by decide) dX2_put_6) ?_
    refine Cv.ite (fun h2 => ?_) (fun h2 => ?_)
    · refine Cv.go (pc' := 13) (go_icmp_lt_t (tgt := 13) dX2_put_9 rfl h2) ?_
      refine Cv.go (pc' := 14) (go_aload_n (i := 0) (x := c0) dX2_put_13 rfl rfl) ?_
      refine Cv.go (pc' := 17) (go_getI (i := 0) cls2 hp0.1 (by decide) rfl lf_X2_9 (by decide) dX2_put_14) ?_
      refine Cv.ite (fun h3 => ?_) (fun h3 => ?_)
      · refine Cv.go (pc' := 20) (go_if_ne_f 31 dX2_put_17 rfl h3) ?_
        refine Cv.go (pc' := 21) (go_aload_n (i := 0) (x := c0) dX2_put_20 rfl rfl) ?_
        refine Cv.go (pc' := 24) (go_getR (i := 2) cls2 hp0.1 (by decide) rfl lf_X2_15 (Or.inr ⟨_, rfl⟩) hp0.2.1 dX2_put_21) ?_
        refine Cv.go (pc' := 25) (go_iload_n (i := 1) (x := a1) dX2_put_24 rfl rfl) ?_
        refine Cv.go (pc' := 26) (go_iload_n (i := 2) (x := a2) dX2_put_25 rfl rfl) ?_
        refine Cv.go (pc' := 27) (go_i2b dX2_put_26) ?_
        refine Cv.gif fun g9 => ?_
        refine Cv.go (pc' := 28) (go_iastore hp0.2.2 g9 dX2_put_27) ?_
        refine Cv.namM fun m10 em10 => ?_
        have zm10 : SameSh m m10 := em10 ▸ SameSh.d
        have hp0 := hp0.sh zm10
        refine Cv.go (pc' := 57) (go_goto (tgt := 57) dX2_put_28 rfl) ?_
        exact Cv.ret dX2_put_57 rfl
      · refine Cv.go (pc' := 31) (go_if_ne_t (tgt := 31) dX2_put_17 rfl h3) ?_
        refine Cv.go (pc' := 32) (go_aload_n (i := 0) (x := c0) dX2_put_31 rfl rfl) ?_
        refine Cv.go (pc' := 35) (go_getI (i := 0) cls2 hp0.1 (by decide) rfl lf_X2_9 (by decide) dX2_put_32) ?_
        refine Cv.go (pc' := 36) (go_iconst dX2_put_35 ic_1) ?_
        refine Cv.ite (fun h4 => ?_) (fun h4 => ?_)
        · refine Cv.go (pc' := 39) (go_icmp_ne_f 50 dX2_put_36 rfl h4) ?_
          refine Cv.go (pc' := 40) (go_aload_n (i := 0) (x := c0) dX2_put_39 rfl rfl) ?_
          refine Cv.go (pc' := 43) (go_getR (i := 2) cls2 hp0.1 (by decide) rfl lf_X2_15 (Or.inr ⟨_, rfl⟩) hp0.2.1 dX2_put_40) ?_
          refine Cv.go (pc' := 44) (go_iload_n (i := 1) (x := a1) dX2_put_43 rfl rfl) ?_
          refine Cv.go (pc' := 45) (go_iload_n (i := 2) (x := a2) dX2_put_44 rfl rfl) ?_
          refine Cv.go (pc' := 46) (go_i2s dX2_put_45) ?_
          refine Cv.gif fun g7 => ?_
          refine Cv.go (pc' := 47) (go_iastore hp0.2.2 g7 dX2_put_46) ?_
          refine Cv.namM fun m8 em8 => ?_
          have zm8 : SameSh m m8 := em8 ▸ SameSh.d
          have hp0 := hp0.sh zm8
          refine Cv.go (pc' := 57) (go_goto (tgt := 57) dX2_put_47 rfl) ?_
          exact Cv.ret dX2_put_57 rfl
        · refine Cv.go (pc' := 50) (go_icmp_ne_t (tgt := 50) dX2_put_36 rfl h4) ?_
          refine Cv.go (pc' := 51) (go_aload_n (i := 0) (x := c0) dX2_put_50 rfl rfl) ?_
          refine Cv.go (pc' := 54) (go_getR (i := 2) cls2 hp0.1 (by decide) rfl lf_X2_15 (Or.inr ⟨_, rfl⟩) hp0.2.1 dX2_put_51) ?_
          refine Cv.go (pc' := 55) (go_iload_n (i := 1) (x := a1) dX2_put_54 rfl rfl) ?_
          refine Cv.go (pc' := 56) (go_iload_n (i := 2) (x := a2) dX2_put_55 rfl rfl) ?_
          refine Cv.gif fun g5 => ?_
          refine Cv.go (pc' := 57) (go_iastore hp0.2.2 g5 dX2_put_56) ?_
          refine Cv.namM fun m6 em6 => ?_
          have zm6 : SameSh m m6 := em6 ▸ SameSh.d
          have hp0 := hp0.sh zm6
          exact Cv.ret dX2_put_57 rfl
    · refine Cv.go (pc' := 12) (go_icmp_lt_f 13 dX2_put_9 rfl h2) ?_
      exact Cv.ret dX2_put_12 rfl
