theorem c_X6_back_13 : ∀ n, ∀ (m : Mem) (a1 : Int32) (hS : ShM m), Cv true (cX6_back, 2, RX6, 0, ((false, none) : IK)) .ireturn eI (F_X6_back_13 n m a1) m 13 [.ref 40, .int a1] [] := by
  intro n
  induction n with
  | zero => intro m a1 hS; exact Cv.no
  | succ n ih =>
    intro m a1 hS
    unfold F_X6_back_13
    refine Cv.go (pc' := 14) (go_iload_n (i := 1) (x := a1) dX6_back_13 rfl rfl) ?_
    refine Cv.go (pc' := 16) (go_bipush dX6_back_14 ib_40) ?_
    refine Cv.ite (fun h2 => ?_) (fun h2 => ?_)
    · refine Cv.go (pc' := 37) (go_icmp_ge_t (tgt := 37) dX6_back_16 rfl h2) ?_
      refine Cv.go (pc' := 38) (go_aload_n (i := 0) (x := 40) dX6_back_37 rfl rfl) ?_
      refine Cv.go (pc' := 39) (go_aload_n (i := 0) (x := 40) dX6_back_38 rfl rfl) ?_
      refine Cv.go (pc' := 42) (go_getI (i := 31) cls6 (sx_k40 hS) (by decide) rfl lf_X6_41 (by decide) dX6_back_39) ?_
      refine Cv.go (pc' := 45) (go_putI (i := 10) cls6 (sx_k40 hS) (by decide) rfl lf_X6_64 (by decide) rfl rfl rfl dX6_back_42) ?_
      refine Cv.namM fun m3 em3 => ?_
      have zm3 : SameSh m m3 := em3 ▸ SameSh.d
      have hS := hS.sh zm3
      refine Cv.go (pc' := 46) (go_aload_n (i := 0) (x := 40) dX6_back_45 rfl rfl) ?_
      refine Cv.go (pc' := 47) (go_aload_n (i := 0) (x := 40) dX6_back_46 rfl rfl) ?_
      refine Cv.go (pc' := 50) (go_getI (i := 32) cls6 (sx_k40 hS) (by decide) rfl lf_X6_419 (by decide) dX6_back_47) ?_
      refine Cv.go (pc' := 53) (go_putI (i := 7) cls6 (sx_k40 hS) (by decide) rfl lf_X6_91 (by decide) rfl rfl rfl dX6_back_50) ?_
      refine Cv.namM fun m4 em4 => ?_
      have zm4 : SameSh m3 m4 := em4 ▸ SameSh.d
      have hS := hS.sh zm4
      refine Cv.go (pc' := 54) (go_aload_n (i := 0) (x := 40) dX6_back_53 rfl rfl) ?_
      refine Cv.go (pc' := 55) (go_aload_n (i := 0) (x := 40) dX6_back_54 rfl rfl) ?_
      refine Cv.go (pc' := 58) (go_getI (i := 33) cls6 (sx_k40 hS) (by decide) rfl lf_X6_422 (by decide) dX6_back_55) ?_
      refine Cv.go (pc' := 61) (go_putI (i := 4) cls6 (sx_k40 hS) (by decide) rfl lf_X6_94 (by decide) rfl rfl rfl dX6_back_58) ?_
      refine Cv.namM fun m5 em5 => ?_
      have zm5 : SameSh m4 m5 := em5 ▸ SameSh.d
      have hS := hS.sh zm5
      refine Cv.go (pc' := 62) (go_aload_n (i := 0) (x := 40) dX6_back_61 rfl rfl) ?_
      refine Cv.go (pc' := 65) (go_getI (i := 10) cls6 (sx_k40 hS) (by decide) rfl lf_X6_64 (by decide) dX6_back_62) ?_
      exact Cv.ret dX6_back_65 rfl
    · refine Cv.go (pc' := 19) (go_icmp_ge_f 37 dX6_back_16 rfl h2) ?_
      refine Cv.go (pc' := 20) (go_aload_n (i := 0) (x := 40) dX6_back_19 rfl rfl) ?_
      refine Cv.go (pc' := 23) (go_getR (i := 9) cls6 (sx_k40 hS) (by decide) rfl lf_X6_26 (Or.inr ⟨_, rfl⟩) (sx_r40_9 hS) dX6_back_20) ?_
      refine Cv.go (pc' := 24) (go_iload_n (i := 1) (x := a1) dX6_back_23 rfl rfl) ?_
      refine Cv.go (pc' := 25) (go_aload_n (i := 0) (x := 40) dX6_back_24 rfl rfl) ?_
      refine Cv.go (pc' := 28) (go_getR (i := 30) cls6 (sx_k40 hS) (by decide) rfl lf_X6_38 (Or.inr ⟨_, rfl⟩) (sx_r40_30 hS) dX6_back_25) ?_
      refine Cv.go (pc' := 29) (go_iload_n (i := 1) (x := a1) dX6_back_28 rfl rfl) ?_
      refine Cv.gif fun g6 => ?_
      refine Cv.go (pc' := 30) (go_iaload (sx_k49 hS) g6 dX6_back_29) ?_
      refine Cv.gif fun g7 => ?_
      refine Cv.go (pc' := 31) (go_iastore (sx_k45 hS) g7 dX6_back_30) ?_
      refine Cv.namM fun m8 em8 => ?_
      have zm8 : SameSh m m8 := em8 ▸ SameSh.d
      have hS := hS.sh zm8
      refine Cv.go (pc' := 34) (ls' := [.ref 40, .int (a1 + (1 : Int32))]) (go_iinc (x := a1) (v := a1 + (1 : Int32)) dX6_back_31 rfl rfl (by decide) rfl) ?_
      refine Cv.go (pc' := 13) (go_goto (tgt := 13) dX6_back_34 rfl) ?_
      exact ih m8 (a1 + (1 : Int32)) hS
theorem kc_X6_back (m : Mem) (hS : ShM m) : ∀ v mE, F_X6_back m = some (v, mE) → Con true kX6_back 0 [.ref 40] m (eI v) mE := by
  refine Con.of (ini := false) (ls0 := [.ref 40, .null]) (ri := .ireturn) (by decide) (by intro z; cases z) rfl (Nat.le_of_ble_eq_true rfl) (fun v mE _ => RetTy.i) ?_
  show Cv true (cX6_back, 2, RX6, 0, ((false, none) : IK)) .ireturn eI (F_X6_back m) m 0 [.ref 40, .null] []
  unfold F_X6_back
  refine Cv.go (pc' := 1) (go_aload_n (i := 0) (x := 40) dX6_back_0 rfl rfl) ?_
  refine Cv.go (pc' := 4) (go_getI (i := 31) cls6 (sx_k40 hS) (by decide) rfl lf_X6_41 (by decide) dX6_back_1) ?_
  refine Cv.go (pc' := 5) (go_iconst dX6_back_4 ic_n1) ?_
  refine Cv.ite (fun h1 => ?_) (fun h1 => ?_)
  · refine Cv.go (pc' := 8) (go_icmp_ne_f 11 dX6_back_5 rfl h1) ?_
    refine Cv.go (pc' := 10) (go_bipush dX6_back_8 ib_n3) ?_
    exact Cv.ret dX6_back_10 rfl
  · refine Cv.go (pc' := 11) (go_icmp_ne_t (tgt := 11) dX6_back_5 rfl h1) ?_
    refine Cv.go (pc' := 12) (go_iconst dX6_back_11 ic_0) ?_
    refine Cv.go (pc' := 13) (ls' := [.ref 40, .int (0 : Int32)]) (go_istore_n dX6_back_12 rfl (by decide) rfl) ?_
    exact c_X6_back_13 FU m (0 : Int32) hS
theorem c_X6_count_46 (K19 : Mem → Int32 → Int32 → Int32 → Option (Int32 × Mem)) (hK19 : ∀ (m : Mem) (a1 : Int32) (a2 : Int32) (a3 : Int32) (hS : ShM m), Cv true (cX6_count, 4, RX6, 45, ((false, none) : IK)) .ireturn eI (K19 m a1 a2 a3) m 19 [.ref 40, .int a1, .int a2, .int a3] []) : ∀ (m : Mem) (a1 : Int32) (a3 : Int32) (s0 : Int32) (s1 : Int32) (hS : ShM m), Cv true (cX6_count, 4, RX6, 45, ((false, none) : IK)) .ireturn eI (F_X6_count_46 K19 m a1 a3 s0 s1) m 46 [.ref 40, .int a1, .null, .int a3] [.int s0, .int s1] := by
  intro m a1 a3 s0 s1 hS
  unfold F_X6_count_46
  refine Cv.go (pc' := 47) (go_iadd dX6_count_46) ?_
  refine Cv.namI fun x13 ex13 => ?_
  refine Cv.go (pc' := 48) (ls' := [.ref 40, .int a1, .int x13, .int a3]) (go_istore_n dX6_count_47 rfl (by decide) rfl) ?_
  refine Cv.go (pc' := 51) (ls' := [.ref 40, .int a1, .int x13, .int (a3 + (1 : Int32))]) (go_iinc (x := a3) (v := a3 + (1 : Int32)) dX6_count_48 rfl rfl (by decide) rfl) ?_
  refine Cv.go (pc' := 19) (go_goto (tgt := 19) dX6_count_51 rfl) ?_
  exact hK19 m a1 x13 (a3 + (1 : Int32)) hS
theorem c_X6_count_54 : ∀ (m : Mem) (a1 : Int32) (a2 : Int32) (hS : ShM m), Cv true (cX6_count, 4, RX6, 45, ((false, none) : IK)) .ireturn eI (F_X6_count_54 m a1 a2) m 54 [.ref 40, .int a1, .int a2, .null] [] := by
  intro m a1 a2 hS
  unfold F_X6_count_54
  refine Cv.go (pc' := 55) (go_iload_n (i := 1) (x := a1) dX6_count_54 rfl rfl) ?_
  refine Cv.ite (fun h14 => ?_) (fun h14 => ?_)
  · refine Cv.go (pc' := 58) (go_if_ne_f 65 dX6_count_55 rfl h14) ?_
    refine Cv.go (pc' := 59) (go_aload_n (i := 0) (x := 40) dX6_count_58 rfl rfl) ?_
    refine Cv.go (pc' := 62) (go_getI (i := 10) cls6 (sx_k40 hS) (by decide) rfl lf_X6_64 (by decide) dX6_count_59) ?_
    refine Cv.go (pc' := 114) (go_goto (tgt := 114) dX6_count_62 rfl) ?_
    exact Cv.ret dX6_count_114 rfl
  · refine Cv.go (pc' := 65) (go_if_ne_t (tgt := 65) dX6_count_55 rfl h14) ?_
    refine Cv.go (pc' := 66) (go_iload_n (i := 1) (x := a1) dX6_count_65 rfl rfl) ?_
    refine Cv.go (pc' := 67) (go_iconst dX6_count_66 ic_1) ?_
    refine Cv.ite (fun h15 => ?_) (fun h15 => ?_)
    · refine Cv.go (pc' := 70) (go_icmp_ne_f 74 dX6_count_67 rfl h15) ?_
      refine Cv.go (pc' := 71) (go_iload_n (i := 2) (x := a2) dX6_count_70 rfl rfl) ?_
      refine Cv.go (pc' := 114) (go_goto (tgt := 114) dX6_count_71 rfl) ?_
      exact Cv.ret dX6_count_114 rfl
    · refine Cv.go (pc' := 74) (go_icmp_ne_t (tgt := 74) dX6_count_67 rfl h15) ?_
      refine Cv.go (pc' := 75) (go_iload_n (i := 1) (x := a1) dX6_count_74 rfl rfl) ?_
      refine Cv.go (pc' := 76) (go_iconst dX6_count_75 ic_2) ?_
      refine Cv.ite (fun h16 => ?_) (fun h16 => ?_)
      · refine Cv.go (pc' := 79) (go_icmp_ne_f 86 dX6_count_76 rfl h16) ?_
        refine Cv.go (pc' := 80) (go_aload_n (i := 0) (x := 40) dX6_count_79 rfl rfl) ?_
        refine Cv.go (pc' := 83) (go_getI (i := 7) cls6 (sx_k40 hS) (by decide) rfl lf_X6_91 (by decide) dX6_count_80) ?_
        refine Cv.go (pc' := 114) (go_goto (tgt := 114) dX6_count_83 rfl) ?_
        exact Cv.ret dX6_count_114 rfl
      · refine Cv.go (pc' := 86) (go_icmp_ne_t (tgt := 86) dX6_count_76 rfl h16) ?_
        refine Cv.go (pc' := 87) (go_iload_n (i := 1) (x := a1) dX6_count_86 rfl rfl) ?_
        refine Cv.go (pc' := 88) (go_iconst dX6_count_87 ic_3) ?_
        refine Cv.ite (fun h17 => ?_) (fun h17 => ?_)
        · refine Cv.go (pc' := 91) (go_icmp_ne_f 98 dX6_count_88 rfl h17) ?_
          refine Cv.go (pc' := 92) (go_aload_n (i := 0) (x := 40) dX6_count_91 rfl rfl) ?_
          refine Cv.go (pc' := 95) (go_getI (i := 3) cls6 (sx_k40 hS) (by decide) rfl lf_X6_61 (by decide) dX6_count_92) ?_
          refine Cv.go (pc' := 114) (go_goto (tgt := 114) dX6_count_95 rfl) ?_
          exact Cv.ret dX6_count_114 rfl
        · refine Cv.go (pc' := 98) (go_icmp_ne_t (tgt := 98) dX6_count_88 rfl h17) ?_
          refine Cv.go (pc' := 99) (go_iload_n (i := 1) (x := a1) dX6_count_98 rfl rfl) ?_
          refine Cv.go (pc' := 100) (go_iconst dX6_count_99 ic_4) ?_
          refine Cv.ite (fun h18 => ?_) (fun h18 => ?_)
          · refine Cv.go (pc' := 103) (go_icmp_ne_f 110 dX6_count_100 rfl h18) ?_
            refine Cv.go (pc' := 104) (go_aload_n (i := 0) (x := 40) dX6_count_103 rfl rfl) ?_
            refine Cv.go (pc' := 107) (go_getI (i := 6) cls6 (sx_k40 hS) (by decide) rfl lf_X6_121 (by decide) dX6_count_104) ?_
            refine Cv.go (pc' := 114) (go_goto (tgt := 114) dX6_count_107 rfl) ?_
            exact Cv.ret dX6_count_114 rfl
          · refine Cv.go (pc' := 110) (go_icmp_ne_t (tgt := 110) dX6_count_100 rfl h18) ?_
            refine Cv.go (pc' := 111) (go_aload_n (i := 0) (x := 40) dX6_count_110 rfl rfl) ?_
            refine Cv.go (pc' := 114) (go_getI (i := 4) cls6 (sx_k40 hS) (by decide) rfl lf_X6_94 (by decide) dX6_count_111) ?_
            exact Cv.ret dX6_count_114 rfl
theorem c_X6_count_19 : ∀ n, ∀ (m : Mem) (a1 : Int32) (a2 : Int32) (a3 : Int32) (hS : ShM m), Cv true (cX6_count, 4, RX6, 45, ((false, none) : IK)) .ireturn eI (F_X6_count_19 n m a1 a2 a3) m 19 [.ref 40, .int a1, .int a2, .int a3] [] := by
  intro n
  induction n with
  | zero => intro m a1 a2 a3 hS; exact Cv.no
  | succ n ih =>
    intro m a1 a2 a3 hS
    unfold F_X6_count_19
    refine Cv.go (pc' := 20) (go_iload_n (i := 3) (x := a3) dX6_count_19 rfl rfl) ?_
    refine Cv.go (pc' := 21) (go_aload_n (i := 0) (x := 40) dX6_count_20 rfl rfl) ?_
    refine Cv.go (pc' := 24) (go_getI (i := 10) cls6 (sx_k40 hS) (by decide) rfl lf_X6_64 (by decide) dX6_count_21) ?_
    refine Cv.ite (fun h6 => ?_) (fun h6 => ?_)
    · refine Cv.go (pc' := 54) (go_icmp_ge_t (tgt := 54) dX6_count_24 rfl h6) ?_
      refine Cv.weak (ls' := [.ref 40, .int a1, .int a2, .null]) (⟨Or.inr rfl, ⟨Or.inr rfl, ⟨Or.inr rfl, ⟨Or.inl rfl, True.intro⟩⟩⟩⟩) ?_
      exact c_X6_count_54 m a1 a2 hS
    · refine Cv.go (pc' := 27) (go_icmp_ge_f 54 dX6_count_24 rfl h6) ?_
      refine Cv.go (pc' := 28) (go_iload_n (i := 1) (x := a1) dX6_count_27 rfl rfl) ?_
      refine Cv.go (pc' := 29) (go_iconst dX6_count_28 ic_1) ?_
      refine Cv.ite (fun h7 => ?_) (fun h7 => ?_)
      · refine Cv.go (pc' := 32) (go_icmp_ne_f 54 dX6_count_29 rfl h7) ?_
        refine Cv.go (pc' := 33) (go_iload_n (i := 2) (x := a2) dX6_count_32 rfl rfl) ?_
        refine Cv.go (pc' := 34) (go_aload_n (i := 0) (x := 40) dX6_count_33 rfl rfl) ?_
        refine Cv.go (pc' := 35) (go_iload_n (i := 3) (x := a3) dX6_count_34 rfl rfl) ?_
        refine Cv.bnd fun v8 m9 e10 => ?_
        have C11 := kc_X6_isWhole m a3 hS v8 m9 e10
        refine Cv.go (pc' := 38) (st' := [.int (bz v8), .int a2]) (go_callV (As := [.int a3]) (st := [.int a2]) C11 (by decide) ok_X6_isWhole li_X6_isWhole ls_X6_isWhole lm_X6_113 cls6 (sx_k40 hS) rfl rfl (Nat.le_of_ble_eq_true rfl) dX6_count_35) ?_
        have zm9 := C11.1.2.2 rfl
        have hS := hS.sh zm9
        refine Cv.ite (fun h12 => ?_) (fun h12 => ?_)
        · refine Cv.go (pc' := 45) (go_if_eq_t (tgt := 45) dX6_count_38 rfl h12) ?_
          refine Cv.go (pc' := 46) (go_iconst dX6_count_45 ic_0) ?_
          refine Cv.weak (ls' := [.ref 40, .int a1, .null, .int a3]) (⟨Or.inr rfl, ⟨Or.inr rfl, ⟨Or.inl rfl, ⟨Or.inr rfl, True.intro⟩⟩⟩⟩) ?_
          exact c_X6_count_46 (F_X6_count_19 n) ih m9 a1 a3 (0 : Int32) a2 hS
        · refine Cv.go (pc' := 41) (go_if_eq_f 45 dX6_count_38 rfl h12) ?_
          refine Cv.go (pc' := 42) (go_iconst dX6_count_41 ic_1) ?_
          refine Cv.go (pc' := 46) (go_goto (tgt := 46) dX6_count_42 rfl) ?_
          refine Cv.weak (ls' := [.ref 40, .int a1, .null, .int a3]) (⟨Or.inr rfl, ⟨Or.inr rfl, ⟨Or.inl rfl, ⟨Or.inr rfl, True.intro⟩⟩⟩⟩) ?_
          exact c_X6_count_46 (F_X6_count_19 n) ih m9 a1 a3 (1 : Int32) a2 hS
      · refine Cv.go (pc' := 54) (go_icmp_ne_t (tgt := 54) dX6_count_29 rfl h7) ?_
        refine Cv.weak (ls' := [.ref 40, .int a1, .int a2, .null]) (⟨Or.inr rfl, ⟨Or.inr rfl, ⟨Or.inr rfl, ⟨Or.inl rfl, True.intro⟩⟩⟩⟩) ?_
        exact c_X6_count_54 m a1 a2 hS
theorem kc_X6_count (m : Mem) (a1 : Int32) (hS : ShM m) : ∀ v mE, F_X6_count m a1 = some (v, mE) → Con true kX6_count 45 [.ref 40, .int a1] m (eI v) mE := by
  refine Con.of (ini := false) (ls0 := [.ref 40, .int a1, .null, .null]) (ri := .ireturn) (by decide) (by intro z; cases z) rfl (Nat.le_of_ble_eq_true rfl) (fun v mE _ => RetTy.i) ?_
  show Cv true (cX6_count, 4, RX6, 45, ((false, none) : IK)) .ireturn eI (F_X6_count m a1) m 0 [.ref 40, .int a1, .null, .null] []
  unfold F_X6_count
  refine Cv.go (pc' := 1) (go_iload_n (i := 1) (x := a1) dX6_count_0 rfl rfl) ?_
  refine Cv.go (pc' := 2) (go_i2l dX6_count_1) ?_
  refine Cv.go (pc' := 3) (go_lconst (v := 0) dX6_count_2 (by decide)) ?_
  refine Cv.go (pc' := 6) (go_ldc2 dX6_count_3 ll_X6_73) ?_
  refine Cv.bnd fun v1 m2 e3 => ?_
  have C4 := kc_X6_in m a1.toInt64 (0 : Int64) (5 : Int64) v1 m2 e3
  refine Cv.go (pc' := 9) (st' := [.int (bz v1)]) (go_callS (As := [.long a1.toInt64, .long (0 : Int64), .long (5 : Int64)]) (st := []) C4 (by decide) ok_X6_in lt_X6_in lm_X6_67 rfl rfl (Nat.le_of_ble_eq_true rfl) dX6_count_6) ?_
  have zm2 := C4.1.2.2 rfl
  have hS := hS.sh zm2
  refine Cv.ite (fun h5 => ?_) (fun h5 => ?_)
  · refine Cv.go (pc' := 12) (go_if_ne_f 15 dX6_count_9 rfl h5) ?_
    refine Cv.go (pc' := 14) (go_bipush dX6_count_12 ib_n2) ?_
    exact Cv.ret dX6_count_14 rfl
  · refine Cv.go (pc' := 15) (go_if_ne_t (tgt := 15) dX6_count_9 rfl h5) ?_
    refine Cv.go (pc' := 16) (go_iconst dX6_count_15 ic_0) ?_
    refine Cv.go (pc' := 17) (ls' := [.ref 40, .int a1, .int (0 : Int32), .null]) (go_istore_n dX6_count_16 rfl (by decide) rfl) ?_
    refine Cv.go (pc' := 18) (go_iconst dX6_count_17 ic_0) ?_
    refine Cv.go (pc' := 19) (ls' := [.ref 40, .int a1, .int (0 : Int32), .int (0 : Int32)]) (go_istore_n dX6_count_18 rfl (by decide) rfl) ?_
    exact c_X6_count_19 FU m2 a1 (0 : Int32) (0 : Int32) hS
theorem c_X6_cell_83 : ∀ (m : Mem) (s0 : Int32) (s1 : Int32) (hS : ShM m), Cv true (cX6_cell, 4, RX6, 2, ((false, none) : IK)) .ireturn eI (F_X6_cell_83 m s0 s1) m 83 [.null, .null, .null, .null] [.int s0, .int s1, .ref 53] := by
  intro m s0 s1 hS
  unfold F_X6_cell_83
  refine Cv.gif fun g18 => ?_
  refine Cv.go (pc' := 84) (go_iastore (sx_k53 hS) g18 dX6_cell_83) ?_
  refine Cv.namM fun m19 em19 => ?_
  have zm19 : SameSh m m19 := em19 ▸ SameSh.d
  have hS := hS.sh zm19
  refine Cv.go (pc' := 85) (go_iconst dX6_cell_84 ic_1) ?_
  exact Cv.ret dX6_cell_85 rfl
theorem kc_X6_cell (m : Mem) (a1 : Int32) (a2 : Int32) (a3 : Int32) (hS : ShM m) : ∀ v mE, F_X6_cell m a1 a2 a3 = some (v, mE) → Con true kX6_cell 2 [.ref 40, .int a1, .int a2, .int a3] m (eI v) mE := by
  refine Con.of (ini := false) (ls0 := [.ref 40, .int a1, .int a2, .int a3]) (ri := .ireturn) (by decide) (by intro z; cases z) rfl (Nat.le_of_ble_eq_true rfl) (fun v mE _ => RetTy.i) ?_
  show Cv true (cX6_cell, 4, RX6, 2, ((false, none) : IK)) .ireturn eI (F_X6_cell m a1 a2 a3) m 0 [.ref 40, .int a1, .int a2, .int a3] []
  unfold F_X6_cell
  refine Cv.go (pc' := 1) (go_iload_n (i := 1) (x := a1) dX6_cell_0 rfl rfl) ?_
  refine Cv.bnd fun v1 m2 e3 => ?_
  have C4 := kc_X6_isSheet m a1 v1 m2 e3
  refine Cv.go (pc' := 4) (st' := [.int (bz v1)]) (go_callS (As := [.int a1]) (st := []) C4 (by decide) ok_X6_isSheet lt_X6_isSheet lm_X6_399 rfl rfl (Nat.le_of_ble_eq_true rfl) dX6_cell_1) ?_
  have zm2 := C4.1.2.2 rfl
  have hS := hS.sh zm2
  refine Cv.ite (fun h5 => ?_) (fun h5 => ?_)
  · refine Cv.go (pc' := 7) (go_if_ne_f 10 dX6_cell_4 rfl h5) ?_
    refine Cv.go (pc' := 9) (go_bipush dX6_cell_7 ib_n2) ?_
    exact Cv.ret dX6_cell_9 rfl
  · refine Cv.go (pc' := 10) (go_if_ne_t (tgt := 10) dX6_cell_4 rfl h5) ?_
    refine Cv.go (pc' := 11) (go_aload_n (i := 0) (x := 40) dX6_cell_10 rfl rfl) ?_
    refine Cv.go (pc' := 14) (go_getR (i := 34) cls6 (sx_k40 hS) (by decide) rfl lf_X6_44 (Or.inr ⟨_, rfl⟩) (sx_r40_34 hS) dX6_cell_11) ?_
    refine Cv.go (pc' := 15) (go_iload_n (i := 1) (x := a1) dX6_cell_14 rfl rfl) ?_
    refine Cv.gif fun g6 => ?_
    refine Cv.go (pc' := 16) (go_baload (sx_k50 hS) g6 dX6_cell_15) ?_
    refine Cv.ite (fun h7 => ?_) (fun h7 => ?_)
    · refine Cv.go (pc' := 19) (go_if_ne_f 22 dX6_cell_16 rfl h7) ?_
      refine Cv.go (pc' := 21) (go_bipush dX6_cell_19 ib_n11) ?_
      exact Cv.ret dX6_cell_21 rfl
    · refine Cv.go (pc' := 22) (go_if_ne_t (tgt := 22) dX6_cell_16 rfl h7) ?_
      refine Cv.go (pc' := 23) (go_iload_n (i := 2) (x := a2) dX6_cell_22 rfl rfl) ?_
      refine Cv.go (pc' := 24) (go_i2l dX6_cell_23) ?_
      refine Cv.go (pc' := 25) (go_lconst (v := 0) dX6_cell_24 (by decide)) ?_
      refine Cv.go (pc' := 26) (go_aload_n (i := 0) (x := 40) dX6_cell_25 rfl rfl) ?_
      refine Cv.go (pc' := 29) (go_getR (i := 36) cls6 (sx_k40 hS) (by decide) rfl lf_X6_51 (Or.inr ⟨_, rfl⟩) (sx_r40_36 hS) dX6_cell_26) ?_
      refine Cv.go (pc' := 30) (go_iload_n (i := 1) (x := a1) dX6_cell_29 rfl rfl) ?_
      refine Cv.gif fun g8 => ?_
      refine Cv.go (pc' := 31) (go_iaload (sx_k52 hS) g8 dX6_cell_30) ?_
      refine Cv.go (pc' := 32) (go_iconst dX6_cell_31 ic_1) ?_
      refine Cv.go (pc' := 33) (go_isub dX6_cell_32) ?_
      refine Cv.go (pc' := 34) (go_i2l dX6_cell_33) ?_
      refine Cv.bnd fun v9 m10 e11 => ?_
      have C12 := kc_X6_in m2 a2.toInt64 (0 : Int64) (((mD m2 52 a1.toNatClampNeg) - (1 : Int32)).toInt64) v9 m10 e11
      refine Cv.go (pc' := 37) (st' := [.int (bz v9)]) (go_callS (As := [.long a2.toInt64, .long (0 : Int64), .long (((mD m2 52 a1.toNatClampNeg) - (1 : Int32)).toInt64)]) (st := []) C12 (by decide) ok_X6_in lt_X6_in lm_X6_67 rfl rfl (Nat.le_of_ble_eq_true rfl) dX6_cell_34) ?_
      have zm10 := C12.1.2.2 rfl
      have hS := hS.sh zm10
      refine Cv.ite (fun h13 => ?_) (fun h13 => ?_)
      · refine Cv.go (pc' := 40) (go_if_ne_f 43 dX6_cell_37 rfl h13) ?_
        refine Cv.go (pc' := 42) (go_bipush dX6_cell_40 ib_n12) ?_
        exact Cv.ret dX6_cell_42 rfl
      · refine Cv.go (pc' := 43) (go_if_ne_t (tgt := 43) dX6_cell_37 rfl h13) ?_
        refine Cv.go (pc' := 44) (go_aload_n (i := 0) (x := 40) dX6_cell_43 rfl rfl) ?_
        refine Cv.go (pc' := 47) (go_getR (i := 37) cls6 (sx_k40 hS) (by decide) rfl lf_X6_54 (Or.inr ⟨_, rfl⟩) (sx_r40_37 hS) dX6_cell_44) ?_
        refine Cv.go (pc' := 49) (go_bipush dX6_cell_47 ib_40) ?_
        refine Cv.go (pc' := 50) (go_iload_n (i := 1) (x := a1) dX6_cell_49 rfl rfl) ?_
        refine Cv.go (pc' := 51) (go_imul dX6_cell_50) ?_
        refine Cv.go (pc' := 52) (go_iload_n (i := 2) (x := a2) dX6_cell_51 rfl rfl) ?_
        refine Cv.go (pc' := 53) (go_iadd dX6_cell_52) ?_
        refine Cv.go (pc' := 54) (go_aload_n (i := 0) (x := 40) dX6_cell_53 rfl rfl) ?_
        refine Cv.go (pc' := 57) (go_getR (i := 35) cls6 (sx_k40 hS) (by decide) rfl lf_X6_48 (Or.inr ⟨_, rfl⟩) (sx_r40_35 hS) dX6_cell_54) ?_
        refine Cv.go (pc' := 58) (go_iload_n (i := 1) (x := a1) dX6_cell_57 rfl rfl) ?_
        refine Cv.gif fun g14 => ?_
        refine Cv.go (pc' := 59) (go_iaload (sx_k51 hS) g14 dX6_cell_58) ?_
        refine Cv.ite (fun h15 => ?_) (fun h15 => ?_)
        · refine Cv.go (pc' := 62) (go_if_ne_f 67 dX6_cell_59 rfl h15) ?_
          refine Cv.go (pc' := 63) (go_iload_n (i := 3) (x := a3) dX6_cell_62 rfl rfl) ?_
          refine Cv.go (pc' := 64) (go_i2b dX6_cell_63) ?_
          refine Cv.go (pc' := 83) (go_goto (tgt := 83) dX6_cell_64 rfl) ?_
          refine Cv.weak (ls' := [.null, .null, .null, .null]) (⟨Or.inl rfl, ⟨Or.inl rfl, ⟨Or.inl rfl, ⟨Or.inl rfl, True.intro⟩⟩⟩⟩) ?_
          exact c_X6_cell_83 m10 a3.toInt8.toInt32 (((40 : Int32) * a1) + a2) hS
        · refine Cv.go (pc' := 67) (go_if_ne_t (tgt := 67) dX6_cell_59 rfl h15) ?_
          refine Cv.go (pc' := 68) (go_aload_n (i := 0) (x := 40) dX6_cell_67 rfl rfl) ?_
          refine Cv.go (pc' := 71) (go_getR (i := 35) cls6 (sx_k40 hS) (by decide) rfl lf_X6_48 (Or.inr ⟨_, rfl⟩) (sx_r40_35 hS) dX6_cell_68) ?_
          refine Cv.go (pc' := 72) (go_iload_n (i := 1) (x := a1) dX6_cell_71 rfl rfl) ?_
          refine Cv.gif fun g16 => ?_
          refine Cv.go (pc' := 73) (go_iaload (sx_k51 hS) g16 dX6_cell_72) ?_
          refine Cv.go (pc' := 74) (go_iconst dX6_cell_73 ic_1) ?_
          refine Cv.ite (fun h17 => ?_) (fun h17 => ?_)
          · refine Cv.go (pc' := 77) (go_icmp_ne_f 82 dX6_cell_74 rfl h17) ?_
            refine Cv.go (pc' := 78) (go_iload_n (i := 3) (x := a3) dX6_cell_77 rfl rfl) ?_
            refine Cv.go (pc' := 79) (go_i2s dX6_cell_78) ?_
            refine Cv.go (pc' := 83) (go_goto (tgt := 83) dX6_cell_79 rfl) ?_
            refine Cv.weak (ls' := [.null, .null, .null, .null]) (⟨Or.inl rfl, ⟨Or.inl rfl, ⟨Or.inl rfl, ⟨Or.inl rfl, True.intro⟩⟩⟩⟩) ?_
            exact c_X6_cell_83 m10 a3.toInt16.toInt32 (((40 : Int32) * a1) + a2) hS
          · refine Cv.go (pc' := 82) (go_icmp_ne_t (tgt := 82) dX6_cell_74 rfl h17) ?_
            refine Cv.go (pc' := 83) (go_iload_n (i := 3) (x := a3) dX6_cell_82 rfl rfl) ?_
            refine Cv.weak (ls' := [.null, .null, .null, .null]) (⟨Or.inl rfl, ⟨Or.inl rfl, ⟨Or.inl rfl, ⟨Or.inl rfl, True.intro⟩⟩⟩⟩) ?_
            exact c_X6_cell_83 m10 a3 (((40 : Int32) * a1) + a2) hS
theorem c_X6_copy_145 (K121 : Mem → Int32 → Int32 → Int32 → Int32 → Int32 → Int32 → Int32 → Option (Int32 × Mem)) (hK121 : ∀ (m : Mem) (a1 : Int32) (a2 : Int32) (a3 : Int32) (a4 : Int32) (a5 : Int32) (a6 : Int32) (a7 : Int32) (hS : ShM m), Cv true (cX6_copy, 9, RX6, 2, ((false, none) : IK)) .ireturn eI (K121 m a1 a2 a3 a4 a5 a6 a7) m 121 [.ref 40, .int a1, .int a2, .int a3, .int a4, .int a5, .int a6, .int a7, .null] []) : ∀ (m : Mem) (a1 : Int32) (a2 : Int32) (a3 : Int32) (a4 : Int32) (a5 : Int32) (a6 : Int32) (a7 : Int32) (s0 : Int32) (hS : ShM m), Cv true (cX6_copy, 9, RX6, 2, ((false, none) : IK)) .ireturn eI (F_X6_copy_145 K121 m a1 a2 a3 a4 a5 a6 a7 s0) m 145 [.ref 40, .int a1, .int a2, .int a3, .int a4, .int a5, .int a6, .int a7, .null] [.int s0] := by
  intro m a1 a2 a3 a4 a5 a6 a7 s0 hS
  unfold F_X6_copy_145
  refine Cv.go (pc' := 147) (ls' := [.ref 40, .int a1, .int a2, .int a3, .int a4, .int a5, .int a6, .int a7, .int s0]) (go_istore dX6_copy_145 (by decide) rfl) ?_
  refine Cv.go (pc' := 148) (go_aload_n (i := 0) (x := 40) dX6_copy_147 rfl rfl) ?_
  refine Cv.go (pc' := 151) (go_getR (i := 37) cls6 (sx_k40 hS) (by decide) rfl lf_X6_54 (Or.inr ⟨_, rfl⟩) (sx_r40_37 hS) dX6_copy_148) ?_
  refine Cv.go (pc' := 153) (go_bipush dX6_copy_151 ib_40) ?_
  refine Cv.go (pc' := 154) (go_iload_n (i := 3) (x := a3) dX6_copy_153 rfl rfl) ?_
  refine Cv.go (pc' := 155) (go_imul dX6_copy_154) ?_
  refine Cv.go (pc' := 157) (go_iload (i := 4) (x := a4) dX6_copy_155 rfl) ?_
  refine Cv.go (pc' := 158) (go_iadd dX6_copy_157) ?_
  refine Cv.go (pc' := 160) (go_iload (i := 8) (x := s0) dX6_copy_158 rfl) ?_
  refine Cv.go (pc' := 161) (go_iadd dX6_copy_160) ?_
  refine Cv.go (pc' := 162) (go_aload_n (i := 0) (x := 40) dX6_copy_161 rfl rfl) ?_
  refine Cv.go (pc' := 165) (go_getR (i := 37) cls6 (sx_k40 hS) (by decide) rfl lf_X6_54 (Or.inr ⟨_, rfl⟩) (sx_r40_37 hS) dX6_copy_162) ?_
  refine Cv.go (pc' := 167) (go_bipush dX6_copy_165 ib_40) ?_
  refine Cv.go (pc' := 168) (go_iload_n (i := 1) (x := a1) dX6_copy_167 rfl rfl) ?_
  refine Cv.go (pc' := 169) (go_imul dX6_copy_168) ?_
  refine Cv.go (pc' := 170) (go_iload_n (i := 2) (x := a2) dX6_copy_169 rfl rfl) ?_
  refine Cv.go (pc' := 171) (go_iadd dX6_copy_170) ?_
  refine Cv.go (pc' := 173) (go_iload (i := 8) (x := s0) dX6_copy_171 rfl) ?_
  refine Cv.go (pc' := 174) (go_iadd dX6_copy_173) ?_
  refine Cv.gif fun g29 => ?_
  refine Cv.go (pc' := 175) (go_iaload (sx_k53 hS) g29 dX6_copy_174) ?_
  refine Cv.gif fun g30 => ?_
  refine Cv.go (pc' := 176) (go_iastore (sx_k53 hS) g30 dX6_copy_175) ?_
  refine Cv.namM fun m31 em31 => ?_
  have zm31 : SameSh m m31 := em31 ▸ SameSh.d
  have hS := hS.sh zm31
  refine Cv.go (pc' := 179) (ls' := [.ref 40, .int a1, .int a2, .int a3, .int a4, .int a5, .int a6, .int (a7 + (1 : Int32)), .int s0]) (go_iinc (x := a7) (v := a7 + (1 : Int32)) dX6_copy_176 rfl rfl (by decide) rfl) ?_
  refine Cv.go (pc' := 121) (go_goto (tgt := 121) dX6_copy_179 rfl) ?_
  refine Cv.weak (ls' := [.ref 40, .int a1, .int a2, .int a3, .int a4, .int a5, .int a6, .int (a7 + (1 : Int32)), .null]) (⟨Or.inr rfl, ⟨Or.inr rfl, ⟨Or.inr rfl, ⟨Or.inr rfl, ⟨Or.inr rfl, ⟨Or.inr rfl, ⟨Or.inr rfl, ⟨Or.inr rfl, ⟨Or.inl rfl, True.intro⟩⟩⟩⟩⟩⟩⟩⟩⟩) ?_
  exact hK121 m31 a1 a2 a3 a4 a5 a6 (a7 + (1 : Int32)) hS
theorem c_X6_copy_121 : ∀ n, ∀ (m : Mem) (a1 : Int32) (a2 : Int32) (a3 : Int32) (a4 : Int32) (a5 : Int32) (a6 : Int32) (a7 : Int32) (hS : ShM m), Cv true (cX6_copy, 9, RX6, 2, ((false, none) : IK)) .ireturn eI (F_X6_copy_121 n m a1 a2 a3 a4 a5 a6 a7) m 121 [.ref 40, .int a1, .int a2, .int a3, .int a4, .int a5, .int a6, .int a7, .null] [] := by
  intro n
  induction n with
  | zero => intro m a1 a2 a3 a4 a5 a6 a7 hS; exact Cv.no
  | succ n ih =>
    intro m a1 a2 a3 a4 a5 a6 a7 hS
    unfold F_X6_copy_121
    refine Cv.go (pc' := 123) (go_iload (i := 7) (x := a7) dX6_copy_121 rfl) ?_
    refine Cv.go (pc' := 125) (go_iload (i := 5) (x := a5) dX6_copy_123 rfl) ?_
    refine Cv.ite (fun h27 => ?_) (fun h27 => ?_)
    · refine Cv.go (pc' := 182) (go_icmp_ge_t (tgt := 182) dX6_copy_125 rfl h27) ?_
      refine Cv.go (pc' := 184) (go_iload (i := 5) (x := a5) dX6_copy_182 rfl) ?_
      exact Cv.ret dX6_copy_184 rfl
    · refine Cv.go (pc' := 128) (go_icmp_ge_f 182 dX6_copy_125 rfl h27) ?_
      refine Cv.go (pc' := 130) (go_iload (i := 6) (x := a6) dX6_copy_128 rfl) ?_
      refine Cv.ite (fun h28 => ?_) (fun h28 => ?_)
      · refine Cv.go (pc' := 143) (go_if_eq_t (tgt := 143) dX6_copy_130 rfl h28) ?_
        refine Cv.go (pc' := 145) (go_iload (i := 7) (x := a7) dX6_copy_143 rfl) ?_
        exact c_X6_copy_145 (F_X6_copy_121 n) ih m a1 a2 a3 a4 a5 a6 a7 a7 hS
      · refine Cv.go (pc' := 133) (go_if_eq_f 143 dX6_copy_130 rfl h28) ?_
        refine Cv.go (pc' := 135) (go_iload (i := 5) (x := a5) dX6_copy_133 rfl) ?_
        refine Cv.go (pc' := 136) (go_iconst dX6_copy_135 ic_1) ?_
        refine Cv.go (pc' := 137) (go_isub dX6_copy_136) ?_
        refine Cv.go (pc' := 139) (go_iload (i := 7) (x := a7) dX6_copy_137 rfl) ?_
        refine Cv.go (pc' := 140) (go_isub dX6_copy_139) ?_
        refine Cv.go (pc' := 145) (go_goto (tgt := 145) dX6_copy_140 rfl) ?_
        exact c_X6_copy_145 (F_X6_copy_121 n) ih m a1 a2 a3 a4 a5 a6 a7 ((a5 - (1 : Int32)) - a7) hS
theorem c_X6_copy_116 : ∀ (m : Mem) (a1 : Int32) (a2 : Int32) (a3 : Int32) (a4 : Int32) (a5 : Int32) (s0 : Int32) (hS : ShM m), Cv true (cX6_copy, 9, RX6, 2, ((false, none) : IK)) .ireturn eI (F_X6_copy_116 m a1 a2 a3 a4 a5 s0) m 116 [.ref 40, .int a1, .int a2, .int a3, .int a4, .int a5, .null, .null, .null] [.int s0] := by
  intro m a1 a2 a3 a4 a5 s0 hS
  unfold F_X6_copy_116
  refine Cv.go (pc' := 118) (ls' := [.ref 40, .int a1, .int a2, .int a3, .int a4, .int a5, .int s0, .null, .null]) (go_istore dX6_copy_116 (by decide) rfl) ?_
  refine Cv.go (pc' := 119) (go_iconst dX6_copy_118 ic_0) ?_
  refine Cv.go (pc' := 121) (ls' := [.ref 40, .int a1, .int a2, .int a3, .int a4, .int a5, .int s0, .int (0 : Int32), .null]) (go_istore dX6_copy_119 (by decide) rfl) ?_
  exact c_X6_copy_121 FU m a1 a2 a3 a4 a5 s0 (0 : Int32) hS
theorem c_X6_copy_115 : ∀ (m : Mem) (a1 : Int32) (a2 : Int32) (a3 : Int32) (a4 : Int32) (a5 : Int32) (hS : ShM m), Cv true (cX6_copy, 9, RX6, 2, ((false, none) : IK)) .ireturn eI (F_X6_copy_115 m a1 a2 a3 a4 a5) m 115 [.ref 40, .int a1, .int a2, .int a3, .int a4, .int a5, .null, .null, .null] [] := by
  intro m a1 a2 a3 a4 a5 hS
  unfold F_X6_copy_115
  refine Cv.go (pc' := 116) (go_iconst dX6_copy_115 ic_0) ?_
  exact c_X6_copy_116 m a1 a2 a3 a4 a5 (0 : Int32) hS
theorem kc_X6_copy (m : Mem) (a1 : Int32) (a2 : Int32) (a3 : Int32) (a4 : Int32) (a5 : Int32) (hS : ShM m) : ∀ v mE, F_X6_copy m a1 a2 a3 a4 a5 = some (v, mE) → Con true kX6_copy 2 [.ref 40, .int a1, .int a2, .int a3, .int a4, .int a5] m (eI v) mE := by
  refine Con.of (ini := false) (ls0 := [.ref 40, .int a1, .int a2, .int a3, .int a4, .int a5, .null, .null, .null]) (ri := .ireturn) (by decide) (by intro z; cases z) rfl (Nat.le_of_ble_eq_true rfl) (fun v mE _ => RetTy.i) ?_
  show Cv true (cX6_copy, 9, RX6, 2, ((false, none) : IK)) .ireturn eI (F_X6_copy m a1 a2 a3 a4 a5) m 0 [.ref 40, .int a1, .int a2, .int a3, .int a4, .int a5, .null, .null, .null] []
  unfold F_X6_copy
  refine Cv.go (pc' := 1) (go_iload_n (i := 1) (x := a1) dX6_copy_0 rfl rfl) ?_
  refine Cv.bnd fun v1 m2 e3 => ?_
  have C4 := kc_X6_isSheet m a1 v1 m2 e3
  refine Cv.go (pc' := 4) (st' := [.int (bz v1)]) (go_callS (As := [.int a1]) (st := []) C4 (by decide) ok_X6_isSheet lt_X6_isSheet lm_X6_399 rfl rfl (Nat.le_of_ble_eq_true rfl) dX6_copy_1) ?_
  have zm2 := C4.1.2.2 rfl
  have hS := hS.sh zm2
  refine Cv.ite (fun h5 => ?_) (fun h5 => ?_)
  · refine Cv.go (pc' := 14) (go_if_eq_t (tgt := 14) dX6_copy_4 rfl h5) ?_
    refine Cv.go (pc' := 16) (go_bipush dX6_copy_14 ib_n2) ?_
    exact Cv.ret dX6_copy_16 rfl
  · refine Cv.go (pc' := 7) (go_if_eq_f 14 dX6_copy_4 rfl h5) ?_
    refine Cv.go (pc' := 8) (go_iload_n (i := 3) (x := a3) dX6_copy_7 rfl rfl) ?_
    refine Cv.bnd fun v6 m7 e8 => ?_
    have C9 := kc_X6_isSheet m2 a3 v6 m7 e8
    refine Cv.go (pc' := 11) (st' := [.int (bz v6)]) (go_callS (As := [.int a3]) (st := []) C9 (by decide) ok_X6_isSheet lt_X6_isSheet lm_X6_399 rfl rfl (Nat.le_of_ble_eq_true rfl) dX6_copy_8) ?_
    have zm7 := C9.1.2.2 rfl
    have hS := hS.sh zm7
    refine Cv.ite (fun h10 => ?_) (fun h10 => ?_)
    · refine Cv.go (pc' := 14) (go_if_ne_f 17 dX6_copy_11 rfl h10) ?_
      refine Cv.go (pc' := 16) (go_bipush dX6_copy_14 ib_n2) ?_
      exact Cv.ret dX6_copy_16 rfl
    · refine Cv.go (pc' := 17) (go_if_ne_t (tgt := 17) dX6_copy_11 rfl h10) ?_
      refine Cv.go (pc' := 18) (go_aload_n (i := 0) (x := 40) dX6_copy_17 rfl rfl) ?_
      refine Cv.go (pc' := 21) (go_getR (i := 34) cls6 (sx_k40 hS) (by decide) rfl lf_X6_44 (Or.inr ⟨_, rfl⟩) (sx_r40_34 hS) dX6_copy_18) ?_
      refine Cv.go (pc' := 22) (go_iload_n (i := 1) (x := a1) dX6_copy_21 rfl rfl) ?_
      refine Cv.gif fun g11 => ?_
      refine Cv.go (pc' := 23) (go_baload (sx_k50 hS) g11 dX6_copy_22) ?_
      refine Cv.ite (fun h12 => ?_) (fun h12 => ?_)
      · refine Cv.go (pc' := 35) (go_if_eq_t (tgt := 35) dX6_copy_23 rfl h12) ?_
        refine Cv.go (pc' := 37) (go_bipush dX6_copy_35 ib_n11) ?_
        exact Cv.ret dX6_copy_37 rfl
      · refine Cv.go (pc' := 26) (go_if_eq_f 35 dX6_copy_23 rfl h12) ?_
        refine Cv.go (pc' := 27) (go_aload_n (i := 0) (x := 40) dX6_copy_26 rfl rfl) ?_
        refine Cv.go (pc' := 30) (go_getR (i := 34) cls6 (sx_k40 hS) (by decide) rfl lf_X6_44 (Or.inr ⟨_, rfl⟩) (sx_r40_34 hS) dX6_copy_27) ?_
        refine Cv.go (pc' := 31) (go_iload_n (i := 3) (x := a3) dX6_copy_30 rfl rfl) ?_
        refine Cv.gif fun g13 => ?_
        refine Cv.go (pc' := 32) (go_baload (sx_k50 hS) g13 dX6_copy_31) ?_
        refine Cv.ite (fun h14 => ?_) (fun h14 => ?_)
        · refine Cv.go (pc' := 35) (go_if_ne_f 38 dX6_copy_32 rfl h14) ?_
          refine Cv.go (pc' := 37) (go_bipush dX6_copy_35 ib_n11) ?_
          exact Cv.ret dX6_copy_37 rfl
        · refine Cv.go (pc' := 38) (go_if_ne_t (tgt := 38) dX6_copy_32 rfl h14) ?_
          refine Cv.go (pc' := 39) (go_aload_n (i := 0) (x := 40) dX6_copy_38 rfl rfl) ?_
          refine Cv.go (pc' := 42) (go_getR (i := 35) cls6 (sx_k40 hS) (by decide) rfl lf_X6_48 (Or.inr ⟨_, rfl⟩) (sx_r40_35 hS) dX6_copy_39) ?_
          refine Cv.go (pc' := 43) (go_iload_n (i := 1) (x := a1) dX6_copy_42 rfl rfl) ?_
          refine Cv.gif fun g15 => ?_
          refine Cv.go (pc' := 44) (go_iaload (sx_k51 hS) g15 dX6_copy_43) ?_
          refine Cv.go (pc' := 45) (go_aload_n (i := 0) (x := 40) dX6_copy_44 rfl rfl) ?_
          refine Cv.go (pc' := 48) (go_getR (i := 35) cls6 (sx_k40 hS) (by decide) rfl lf_X6_48 (Or.inr ⟨_, rfl⟩) (sx_r40_35 hS) dX6_copy_45) ?_
          refine Cv.go (pc' := 49) (go_iload_n (i := 3) (x := a3) dX6_copy_48 rfl rfl) ?_
          refine Cv.gif fun g16 => ?_
          refine Cv.go (pc' := 50) (go_iaload (sx_k51 hS) g16 dX6_copy_49) ?_
          refine Cv.ite (fun h17 => ?_) (fun h17 => ?_)
          · refine Cv.go (pc' := 56) (go_icmp_eq_t (tgt := 56) dX6_copy_50 rfl h17) ?_
            refine Cv.go (pc' := 58) (go_iload (i := 5) (x := a5) dX6_copy_56 rfl) ?_
            refine Cv.ite (fun h18 => ?_) (fun h18 => ?_)
            · refine Cv.go (pc' := 97) (go_if_lt_t (tgt := 97) dX6_copy_58 rfl h18) ?_
              refine Cv.go (pc' := 99) (go_bipush dX6_copy_97 ib_n12) ?_
              exact Cv.ret dX6_copy_99 rfl
            · refine Cv.go (pc' := 61) (go_if_lt_f 97 dX6_copy_58 rfl h18) ?_
              refine Cv.go (pc' := 62) (go_iload_n (i := 2) (x := a2) dX6_copy_61 rfl rfl) ?_
              refine Cv.ite (fun h19 => ?_) (fun h19 => ?_)
              · refine Cv.go (pc' := 97) (go_if_lt_t (tgt := 97) dX6_copy_62 rfl h19) ?_
                refine Cv.go (pc' := 99) (go_bipush dX6_copy_97 ib_n12) ?_
                exact Cv.ret dX6_copy_99 rfl
              · refine Cv.go (pc' := 65) (go_if_lt_f 97 dX6_copy_62 rfl h19) ?_
                refine Cv.go (pc' := 67) (go_iload (i := 4) (x := a4) dX6_copy_65 rfl) ?_
                refine Cv.ite (fun h20 => ?_) (fun h20 => ?_)
                · refine Cv.go (pc' := 97) (go_if_lt_t (tgt := 97) dX6_copy_67 rfl h20) ?_
                  refine Cv.go (pc' := 99) (go_bipush dX6_copy_97 ib_n12) ?_
                  exact Cv.ret dX6_copy_99 rfl
                · refine Cv.go (pc' := 70) (go_if_lt_f 97 dX6_copy_67 rfl h20) ?_
                  refine Cv.go (pc' := 71) (go_iload_n (i := 2) (x := a2) dX6_copy_70 rfl rfl) ?_
                  refine Cv.go (pc' := 72) (go_aload_n (i := 0) (x := 40) dX6_copy_71 rfl rfl) ?_
                  refine Cv.go (pc' := 75) (go_getR (i := 36) cls6 (sx_k40 hS) (by decide) rfl lf_X6_51 (Or.inr ⟨_, rfl⟩) (sx_r40_36 hS) dX6_copy_72) ?_
                  refine Cv.go (pc' := 76) (go_iload_n (i := 1) (x := a1) dX6_copy_75 rfl rfl) ?_
                  refine Cv.gif fun g21 => ?_
                  refine Cv.go (pc' := 77) (go_iaload (sx_k52 hS) g21 dX6_copy_76) ?_
                  refine Cv.go (pc' := 79) (go_iload (i := 5) (x := a5) dX6_copy_77 rfl) ?_
                  refine Cv.go (pc' := 80) (go_isub dX6_copy_79) ?_
                  refine Cv.ite (fun h22 => ?_) (fun h22 => ?_)
                  · refine Cv.go (pc' := 97) (go_icmp_gt_t (tgt := 97) dX6_copy_80 rfl h22) ?_
                    refine Cv.go (pc' := 99) (go_bipush dX6_copy_97 ib_n12) ?_
                    exact Cv.ret dX6_copy_99 rfl
                  · refine Cv.go (pc' := 83) (go_icmp_gt_f 97 dX6_copy_80 rfl h22) ?_
                    refine Cv.go (pc' := 85) (go_iload (i := 4) (x := a4) dX6_copy_83 rfl) ?_
                    refine Cv.go (pc' := 86) (go_aload_n (i := 0) (x := 40) dX6_copy_85 rfl rfl) ?_
                    refine Cv.go (pc' := 89) (go_getR (i := 36) cls6 (sx_k40 hS) (by decide) rfl lf_X6_51 (Or.inr ⟨_, rfl⟩) (sx_r40_36 hS) dX6_copy_86) ?_
                    refine Cv.go (pc' := 90) (go_iload_n (i := 3) (x := a3) dX6_copy_89 rfl rfl) ?_
                    refine Cv.gif fun g23 => ?_
                    refine Cv.go (pc' := 91) (go_iaload (sx_k52 hS) g23 dX6_copy_90) ?_
                    refine Cv.go (pc' := 93) (go_iload (i := 5) (x := a5) dX6_copy_91 rfl) ?_
                    refine Cv.go (pc' := 94) (go_isub dX6_copy_93) ?_
                    refine Cv.ite (fun h24 => ?_) (fun h24 => ?_)
                    · refine Cv.go (pc' := 100) (go_icmp_le_t (tgt := 100) dX6_copy_94 rfl h24) ?_
                      refine Cv.go (pc' := 101) (go_iload_n (i := 1) (x := a1) dX6_copy_100 rfl rfl) ?_
                      refine Cv.go (pc' := 102) (go_iload_n (i := 3) (x := a3) dX6_copy_101 rfl rfl) ?_
                      refine Cv.ite (fun h25 => ?_) (fun h25 => ?_)
                      · refine Cv.go (pc' := 105) (go_icmp_ne_f 115 dX6_copy_102 rfl h25) ?_
                        refine Cv.go (pc' := 106) (go_iload_n (i := 2) (x := a2) dX6_copy_105 rfl rfl) ?_
                        refine Cv.go (pc' := 108) (go_iload (i := 4) (x := a4) dX6_copy_106 rfl) ?_
                        refine Cv.ite (fun h26 => ?_) (fun h26 => ?_)
                        · refine Cv.go (pc' := 115) (go_icmp_ge_t (tgt := 115) dX6_copy_108 rfl h26) ?_
                          exact c_X6_copy_115 m7 a1 a2 a3 a4 a5 hS
                        · refine Cv.go (pc' := 111) (go_icmp_ge_f 115 dX6_copy_108 rfl h26) ?_
                          refine Cv.go (pc' := 112) (go_iconst dX6_copy_111 ic_1) ?_
                          refine Cv.go (pc' := 116) (go_goto (tgt := 116) dX6_copy_112 rfl) ?_
                          exact c_X6_copy_116 m7 a1 a2 a3 a4 a5 (1 : Int32) hS
                      · refine Cv.go (pc' := 115) (go_icmp_ne_t (tgt := 115) dX6_copy_102 rfl h25) ?_
                        exact c_X6_copy_115 m7 a1 a2 a3 a4 a5 hS
                    · refine Cv.go (pc' := 97) (go_icmp_le_f 100 dX6_copy_94 rfl h24) ?_
                      refine Cv.go (pc' := 99) (go_bipush dX6_copy_97 ib_n12) ?_
                      exact Cv.ret dX6_copy_99 rfl
          · refine Cv.go (pc' := 53) (go_icmp_eq_f 56 dX6_copy_50 rfl h17) ?_
            refine Cv.go (pc' := 55) (go_bipush dX6_copy_53 ib_n13) ?_
            exact Cv.ret dX6_copy_55 rfl
theorem c_X6_coins_158 (K75 : Mem → Int32 → Int32 → Int32 → Int32 → Int32 → Option (Int32 × Mem)) (hK75 : ∀ (m : Mem) (a1 : Int32) (a3 : Int32) (a4 : Int32) (a5 : Int32) (a6 : Int32) (hS : ShM m), Cv true (cX6_coins, 8, RX6, 2, ((false, none) : IK)) .ireturn eI (K75 m a1 a3 a4 a5 a6) m 75 [.ref 40, .int a1, .null, .int a3, .int a4, .int a5, .int a6, .null] []) : ∀ (m : Mem) (a1 : Int32) (a3 : Int32) (a4 : Int32) (a6 : Int32) (s0 : Int32) (s1 : Int32) (hS : ShM m), Cv true (cX6_coins, 8, RX6, 2, ((false, none) : IK)) .ireturn eI (F_X6_coins_158 K75 m a1 a3 a4 a6 s0 s1) m 158 [.ref 40, .int a1, .null, .int a3, .int a4, .null, .int a6, .null] [.int s0, .int s1] := by
  intro m a1 a3 a4 a6 s0 s1 hS
  unfold F_X6_coins_158
  refine Cv.go (pc' := 159) (go_iadd dX6_coins_158) ?_
  refine Cv.namI fun x35 ex35 => ?_
  refine Cv.go (pc' := 161) (ls' := [.ref 40, .int a1, .null, .int a3, .int a4, .int x35, .int a6, .null]) (go_istore dX6_coins_159 (by decide) rfl) ?_
  refine Cv.go (pc' := 164) (ls' := [.ref 40, .int a1, .null, .int a3, .int a4, .int x35, .int (a6 + (1 : Int32)), .null]) (go_iinc (x := a6) (v := a6 + (1 : Int32)) dX6_coins_161 rfl rfl (by decide) rfl) ?_
  refine Cv.go (pc' := 75) (go_goto (tgt := 75) dX6_coins_164 rfl) ?_
  exact hK75 m a1 a3 a4 x35 (a6 + (1 : Int32)) hS
theorem c_X6_coins_75 : ∀ n, ∀ (m : Mem) (a1 : Int32) (a3 : Int32) (a4 : Int32) (a5 : Int32) (a6 : Int32) (hS : ShM m), Cv true (cX6_coins, 8, RX6, 2, ((false, none) : IK)) .ireturn eI (F_X6_coins_75 n m a1 a3 a4 a5 a6) m 75 [.ref 40, .int a1, .null, .int a3, .int a4, .int a5, .int a6, .null] [] := by
  intro n
  induction n with
  | zero => intro m a1 a3 a4 a5 a6 hS; exact Cv.no
  | succ n ih =>
    intro m a1 a3 a4 a5 a6 hS
    unfold F_X6_coins_75
    refine Cv.go (pc' := 77) (go_iload (i := 6) (x := a6) dX6_coins_75 rfl) ?_
    refine Cv.go (pc' := 79) (go_iload (i := 4) (x := a4) dX6_coins_77 rfl) ?_
    refine Cv.ite (fun h22 => ?_) (fun h22 => ?_)
    · refine Cv.go (pc' := 167) (go_icmp_ge_t (tgt := 167) dX6_coins_79 rfl h22) ?_
      refine Cv.go (pc' := 169) (go_iload (i := 5) (x := a5) dX6_coins_167 rfl) ?_
      exact Cv.ret dX6_coins_169 rfl
    · refine Cv.go (pc' := 82) (go_icmp_ge_f 167 dX6_coins_79 rfl h22) ?_
      refine Cv.go (pc' := 83) (go_iload_n (i := 3) (x := a3) dX6_coins_82 rfl rfl) ?_
      refine Cv.ite (fun h23 => ?_) (fun h23 => ?_)
      · refine Cv.go (pc' := 103) (go_if_lt_t (tgt := 103) dX6_coins_83 rfl h23) ?_
        refine Cv.go (pc' := 105) (go_bipush dX6_coins_103 ib_n12) ?_
        exact Cv.ret dX6_coins_105 rfl
      · refine Cv.go (pc' := 86) (go_if_lt_f 103 dX6_coins_83 rfl h23) ?_
        refine Cv.go (pc' := 87) (go_iload_n (i := 3) (x := a3) dX6_coins_86 rfl rfl) ?_
        refine Cv.go (pc' := 88) (go_aload_n (i := 0) (x := 40) dX6_coins_87 rfl rfl) ?_
        refine Cv.go (pc' := 91) (go_getR (i := 36) cls6 (sx_k40 hS) (by decide) rfl lf_X6_51 (Or.inr ⟨_, rfl⟩) (sx_r40_36 hS) dX6_coins_88) ?_
        refine Cv.go (pc' := 92) (go_iload_n (i := 1) (x := a1) dX6_coins_91 rfl rfl) ?_
        refine Cv.gif fun g24 => ?_
        refine Cv.go (pc' := 93) (go_iaload (sx_k52 hS) g24 dX6_coins_92) ?_
        refine Cv.go (pc' := 94) (go_iconst dX6_coins_93 ic_3) ?_
        refine Cv.go (pc' := 96) (go_iload (i := 6) (x := a6) dX6_coins_94 rfl) ?_
        refine Cv.go (pc' := 97) (go_imul dX6_coins_96) ?_
        refine Cv.go (pc' := 98) (go_isub dX6_coins_97) ?_
        refine Cv.go (pc' := 99) (go_iconst dX6_coins_98 ic_3) ?_
        refine Cv.go (pc' := 100) (go_isub dX6_coins_99) ?_
        refine Cv.ite (fun h25 => ?_) (fun h25 => ?_)
        · refine Cv.go (pc' := 106) (go_icmp_le_t (tgt := 106) dX6_coins_100 rfl h25) ?_
          refine Cv.go (pc' := 108) (go_bipush dX6_coins_106 ib_40) ?_
          refine Cv.go (pc' := 109) (go_iload_n (i := 1) (x := a1) dX6_coins_108 rfl rfl) ?_
          refine Cv.go (pc' := 110) (go_imul dX6_coins_109) ?_
          refine Cv.go (pc' := 111) (go_iload_n (i := 3) (x := a3) dX6_coins_110 rfl rfl) ?_
          refine Cv.go (pc' := 112) (go_iadd dX6_coins_111) ?_
          refine Cv.go (pc' := 113) (go_iconst dX6_coins_112 ic_3) ?_
          refine Cv.go (pc' := 115) (go_iload (i := 6) (x := a6) dX6_coins_113 rfl) ?_
          refine Cv.go (pc' := 116) (go_imul dX6_coins_115) ?_
          refine Cv.go (pc' := 117) (go_iadd dX6_coins_116) ?_
          refine Cv.namI fun x26 ex26 => ?_
          refine Cv.go (pc' := 119) (ls' := [.ref 40, .int a1, .null, .int a3, .int a4, .int a5, .int a6, .int x26]) (go_istore dX6_coins_117 (by decide) rfl) ?_
          refine Cv.go (pc' := 121) (go_iload (i := 5) (x := a5) dX6_coins_119 rfl) ?_
          refine Cv.go (pc' := 122) (go_aload_n (i := 0) (x := 40) dX6_coins_121 rfl rfl) ?_
          refine Cv.go (pc' := 123) (go_aload_n (i := 0) (x := 40) dX6_coins_122 rfl rfl) ?_
          refine Cv.go (pc' := 126) (go_getR (i := 37) cls6 (sx_k40 hS) (by decide) rfl lf_X6_54 (Or.inr ⟨_, rfl⟩) (sx_r40_37 hS) dX6_coins_123) ?_
          refine Cv.go (pc' := 128) (go_iload (i := 7) (x := x26) dX6_coins_126 rfl) ?_
          refine Cv.gif fun g27 => ?_
          refine Cv.go (pc' := 129) (go_iaload (sx_k53 hS) g27 dX6_coins_128) ?_
          refine Cv.go (pc' := 130) (go_aload_n (i := 0) (x := 40) dX6_coins_129 rfl rfl) ?_
          refine Cv.go (pc' := 133) (go_getR (i := 37) cls6 (sx_k40 hS) (by decide) rfl lf_X6_54 (Or.inr ⟨_, rfl⟩) (sx_r40_37 hS) dX6_coins_130) ?_
          refine Cv.go (pc' := 135) (go_iload (i := 7) (x := x26) dX6_coins_133 rfl) ?_
          refine Cv.go (pc' := 136) (go_iconst dX6_coins_135 ic_1) ?_
          refine Cv.go (pc' := 137) (go_iadd dX6_coins_136) ?_
          refine Cv.gif fun g28 => ?_
          refine Cv.go (pc' := 138) (go_iaload (sx_k53 hS) g28 dX6_coins_137) ?_
          refine Cv.go (pc' := 139) (go_aload_n (i := 0) (x := 40) dX6_coins_138 rfl rfl) ?_
          refine Cv.go (pc' := 142) (go_getR (i := 37) cls6 (sx_k40 hS) (by decide) rfl lf_X6_54 (Or.inr ⟨_, rfl⟩) (sx_r40_37 hS) dX6_coins_139) ?_
          refine Cv.go (pc' := 144) (go_iload (i := 7) (x := x26) dX6_coins_142 rfl) ?_
          refine Cv.go (pc' := 145) (go_iconst dX6_coins_144 ic_2) ?_
          refine Cv.go (pc' := 146) (go_iadd dX6_coins_145) ?_
          refine Cv.gif fun g29 => ?_
          refine Cv.go (pc' := 147) (go_iaload (sx_k53 hS) g29 dX6_coins_146) ?_
          refine Cv.bnd fun v30 m31 e32 => ?_
          have C33 := kc_X6_coin m (mD m 53 x26.toNatClampNeg) (mD m 53 (x26 + (1 : Int32)).toNatClampNeg) (mD m 53 (x26 + (2 : Int32)).toNatClampNeg) hS v30 m31 e32
          refine Cv.go (pc' := 150) (st' := [.int v30, .int a5]) (go_callV (As := [.int (mD m 53 x26.toNatClampNeg), .int (mD m 53 (x26 + (1 : Int32)).toNatClampNeg), .int (mD m 53 (x26 + (2 : Int32)).toNatClampNeg)]) (st := [.int a5]) C33 (by decide) ok_X6_coin li_X6_coin ls_X6_coin lm_X6_429 cls6 (sx_k40 hS) rfl rfl (Nat.le_of_ble_eq_true rfl) dX6_coins_147) ?_
          have zm31 := C33.1.2.2 rfl
          have hS := hS.sh zm31
          refine Cv.ite (fun h34 => ?_) (fun h34 => ?_)
          · refine Cv.go (pc' := 157) (go_if_lt_t (tgt := 157) dX6_coins_150 rfl h34) ?_
            refine Cv.go (pc' := 158) (go_iconst dX6_coins_157 ic_0) ?_
            refine Cv.weak (ls' := [.ref 40, .int a1, .null, .int a3, .int a4, .null, .int a6, .null]) (⟨Or.inr rfl, ⟨Or.inr rfl, ⟨Or.inr rfl, ⟨Or.inr rfl, ⟨Or.inr rfl, ⟨Or.inl rfl, ⟨Or.inr rfl, ⟨Or.inl rfl, True.intro⟩⟩⟩⟩⟩⟩⟩⟩) ?_
            exact c_X6_coins_158 (F_X6_coins_75 n) ih m31 a1 a3 a4 a6 (0 : Int32) a5 hS
          · refine Cv.go (pc' := 153) (go_if_lt_f 157 dX6_coins_150 rfl h34) ?_
            refine Cv.go (pc' := 154) (go_iconst dX6_coins_153 ic_1) ?_
            refine Cv.go (pc' := 158) (go_goto (tgt := 158) dX6_coins_154 rfl) ?_
            refine Cv.weak (ls' := [.ref 40, .int a1, .null, .int a3, .int a4, .null, .int a6, .null]) (⟨Or.inr rfl, ⟨Or.inr rfl, ⟨Or.inr rfl, ⟨Or.inr rfl, ⟨Or.inr rfl, ⟨Or.inl rfl, ⟨Or.inr rfl, ⟨Or.inl rfl, True.intro⟩⟩⟩⟩⟩⟩⟩⟩) ?_
            exact c_X6_coins_158 (F_X6_coins_75 n) ih m31 a1 a3 a4 a6 (1 : Int32) a5 hS
        · refine Cv.go (pc' := 103) (go_icmp_le_f 106 dX6_coins_100 rfl h25) ?_
          refine Cv.go (pc' := 105) (go_bipush dX6_coins_103 ib_n12) ?_
          exact Cv.ret dX6_coins_105 rfl
theorem c_X6_coins_57 : ∀ (m : Mem) (a1 : Int32) (a3 : Int32) (a4 : Int32) (hS : ShM m), Cv true (cX6_coins, 8, RX6, 2, ((false, none) : IK)) .ireturn eI (F_X6_coins_57 m a1 a3 a4) m 57 [.ref 40, .int a1, .null, .int a3, .int a4, .null, .null, .null] [] := by
  intro m a1 a3 a4 hS
  unfold F_X6_coins_57
  refine Cv.go (pc' := 58) (go_aload_n (i := 0) (x := 40) dX6_coins_57 rfl rfl) ?_
  refine Cv.go (pc' := 61) (go_getR (i := 34) cls6 (sx_k40 hS) (by decide) rfl lf_X6_44 (Or.inr ⟨_, rfl⟩) (sx_r40_34 hS) dX6_coins_58) ?_
  refine Cv.go (pc' := 62) (go_iload_n (i := 1) (x := a1) dX6_coins_61 rfl rfl) ?_
  refine Cv.gif fun g20 => ?_
  refine Cv.go (pc' := 63) (go_baload (sx_k50 hS) g20 dX6_coins_62) ?_
  refine Cv.ite (fun h21 => ?_) (fun h21 => ?_)
  · refine Cv.go (pc' := 66) (go_if_ne_f 69 dX6_coins_63 rfl h21) ?_
    refine Cv.go (pc' := 68) (go_bipush dX6_coins_66 ib_n11) ?_
    exact Cv.ret dX6_coins_68 rfl
  · refine Cv.go (pc' := 69) (go_if_ne_t (tgt := 69) dX6_coins_63 rfl h21) ?_
    refine Cv.go (pc' := 70) (go_iconst dX6_coins_69 ic_0) ?_
    refine Cv.go (pc' := 72) (ls' := [.ref 40, .int a1, .null, .int a3, .int a4, .int (0 : Int32), .null, .null]) (go_istore dX6_coins_70 (by decide) rfl) ?_
    refine Cv.go (pc' := 73) (go_iconst dX6_coins_72 ic_0) ?_
    refine Cv.go (pc' := 75) (ls' := [.ref 40, .int a1, .null, .int a3, .int a4, .int (0 : Int32), .int (0 : Int32), .null]) (go_istore dX6_coins_73 (by decide) rfl) ?_
    exact c_X6_coins_75 FU m a1 a3 a4 (0 : Int32) (0 : Int32) hS
theorem kc_X6_coins (m : Mem) (a1 : Int32) (a2 : Int32) (a3 : Int32) (a4 : Int32) (hS : ShM m) : ∀ v mE, F_X6_coins m a1 a2 a3 a4 = some (v, mE) → Con true kX6_coins 2 [.ref 40, .int a1, .int a2, .int a3, .int a4] m (eI v) mE := by
  refine Con.of (ini := false) (ls0 := [.ref 40, .int a1, .int a2, .int a3, .int a4, .null, .null, .null]) (ri := .ireturn) (by decide) (by intro z; cases z) rfl (Nat.le_of_ble_eq_true rfl) (fun v mE _ => RetTy.i) ?_
  show Cv true (cX6_coins, 8, RX6, 2, ((false, none) : IK)) .ireturn eI (F_X6_coins m a1 a2 a3 a4) m 0 [.ref 40, .int a1, .int a2, .int a3, .int a4, .null, .null, .null] []
  unfold F_X6_coins
  refine Cv.go (pc' := 1) (go_iload_n (i := 1) (x := a1) dX6_coins_0 rfl rfl) ?_
  refine Cv.bnd fun v1 m2 e3 => ?_
  have C4 := kc_X6_isSheet m a1 v1 m2 e3
  refine Cv.go (pc' := 4) (st' := [.int (bz v1)]) (go_callS (As := [.int a1]) (st := []) C4 (by decide) ok_X6_isSheet lt_X6_isSheet lm_X6_399 rfl rfl (Nat.le_of_ble_eq_true rfl) dX6_coins_1) ?_
  have zm2 := C4.1.2.2 rfl
  have hS := hS.sh zm2
  refine Cv.ite (fun h5 => ?_) (fun h5 => ?_)
  · refine Cv.go (pc' := 32) (go_if_eq_t (tgt := 32) dX6_coins_4 rfl h5) ?_
    refine Cv.go (pc' := 34) (go_bipush dX6_coins_32 ib_n2) ?_
    exact Cv.ret dX6_coins_34 rfl
  · refine Cv.go (pc' := 7) (go_if_eq_f 32 dX6_coins_4 rfl h5) ?_
    refine Cv.go (pc' := 8) (go_iload_n (i := 2) (x := a2) dX6_coins_7 rfl rfl) ?_
    refine Cv.go (pc' := 9) (go_i2l dX6_coins_8) ?_
    refine Cv.go (pc' := 10) (go_lconst (v := 0) dX6_coins_9 (by decide)) ?_
    refine Cv.go (pc' := 13) (go_ldc2 dX6_coins_10 ll_X6_427) ?_
    refine Cv.bnd fun v6 m7 e8 => ?_
    have C9 := kc_X6_in m2 a2.toInt64 (0 : Int64) (2 : Int64) v6 m7 e8
    refine Cv.go (pc' := 16) (st' := [.int (bz v6)]) (go_callS (As := [.long a2.toInt64, .long (0 : Int64), .long (2 : Int64)]) (st := []) C9 (by decide) ok_X6_in lt_X6_in lm_X6_67 rfl rfl (Nat.le_of_ble_eq_true rfl) dX6_coins_13) ?_
    have zm7 := C9.1.2.2 rfl
    have hS := hS.sh zm7
    refine Cv.ite (fun h10 => ?_) (fun h10 => ?_)
    · refine Cv.go (pc' := 32) (go_if_eq_t (tgt := 32) dX6_coins_16 rfl h10) ?_
      refine Cv.go (pc' := 34) (go_bipush dX6_coins_32 ib_n2) ?_
      exact Cv.ret dX6_coins_34 rfl
    · refine Cv.go (pc' := 19) (go_if_eq_f 32 dX6_coins_16 rfl h10) ?_
      refine Cv.go (pc' := 21) (go_iload (i := 4) (x := a4) dX6_coins_19 rfl) ?_
      refine Cv.go (pc' := 22) (go_i2l dX6_coins_21) ?_
      refine Cv.go (pc' := 23) (go_lconst (v := 0) dX6_coins_22 (by decide)) ?_
      refine Cv.go (pc' := 26) (go_ldc2 dX6_coins_23 ll_X6_415) ?_
      refine Cv.bnd fun v11 m12 e13 => ?_
      have C14 := kc_X6_in m7 a4.toInt64 (0 : Int64) (8 : Int64) v11 m12 e13
      refine Cv.go (pc' := 29) (st' := [.int (bz v11)]) (go_callS (As := [.long a4.toInt64, .long (0 : Int64), .long (8 : Int64)]) (st := []) C14 (by decide) ok_X6_in lt_X6_in lm_X6_67 rfl rfl (Nat.le_of_ble_eq_true rfl) dX6_coins_26) ?_
      have zm12 := C14.1.2.2 rfl
      have hS := hS.sh zm12
      refine Cv.ite (fun h15 => ?_) (fun h15 => ?_)
      · refine Cv.go (pc' := 32) (go_if_ne_f 35 dX6_coins_29 rfl h15) ?_
        refine Cv.go (pc' := 34) (go_bipush dX6_coins_32 ib_n2) ?_
        exact Cv.ret dX6_coins_34 rfl
      · refine Cv.go (pc' := 35) (go_if_ne_t (tgt := 35) dX6_coins_29 rfl h15) ?_
        refine Cv.go (pc' := 36) (go_aload_n (i := 0) (x := 40) dX6_coins_35 rfl rfl) ?_
        refine Cv.go (pc' := 39) (go_getR (i := 34) cls6 (sx_k40 hS) (by decide) rfl lf_X6_44 (Or.inr ⟨_, rfl⟩) (sx_r40_34 hS) dX6_coins_36) ?_
        refine Cv.go (pc' := 40) (go_iload_n (i := 1) (x := a1) dX6_coins_39 rfl rfl) ?_
        refine Cv.gif fun g16 => ?_
        refine Cv.go (pc' := 41) (go_baload (sx_k50 hS) g16 dX6_coins_40) ?_
        refine Cv.ite (fun h17 => ?_) (fun h17 => ?_)
        · refine Cv.go (pc' := 57) (go_if_eq_t (tgt := 57) dX6_coins_41 rfl h17) ?_
          refine Cv.weak (ls' := [.ref 40, .int a1, .null, .int a3, .int a4, .null, .null, .null]) (⟨Or.inr rfl, ⟨Or.inr rfl, ⟨Or.inl rfl, ⟨Or.inr rfl, ⟨Or.inr rfl, ⟨Or.inr rfl, ⟨Or.inr rfl, ⟨Or.inr rfl, True.intro⟩⟩⟩⟩⟩⟩⟩⟩) ?_
          exact c_X6_coins_57 m12 a1 a3 a4 hS
        · refine Cv.go (pc' := 44) (go_if_eq_f 57 dX6_coins_41 rfl h17) ?_
          refine Cv.go (pc' := 45) (go_aload_n (i := 0) (x := 40) dX6_coins_44 rfl rfl) ?_
          refine Cv.go (pc' := 48) (go_getR (i := 35) cls6 (sx_k40 hS) (by decide) rfl lf_X6_48 (Or.inr ⟨_, rfl⟩) (sx_r40_35 hS) dX6_coins_45) ?_
          refine Cv.go (pc' := 49) (go_iload_n (i := 1) (x := a1) dX6_coins_48 rfl rfl) ?_
          refine Cv.gif fun g18 => ?_
          refine Cv.go (pc' := 50) (go_iaload (sx_k51 hS) g18 dX6_coins_49) ?_
          refine Cv.go (pc' := 51) (go_iload_n (i := 2) (x := a2) dX6_coins_50 rfl rfl) ?_
          refine Cv.ite (fun h19 => ?_) (fun h19 => ?_)
          · refine Cv.go (pc' := 57) (go_icmp_eq_t (tgt := 57) dX6_coins_51 rfl h19) ?_
            refine Cv.weak (ls' := [.ref 40, .int a1, .null, .int a3, .int a4, .null, .null, .null]) (⟨Or.inr rfl, ⟨Or.inr rfl, ⟨Or.inl rfl, ⟨Or.inr rfl, ⟨Or.inr rfl, ⟨Or.inr rfl, ⟨Or.inr rfl, ⟨Or.inr rfl, True.intro⟩⟩⟩⟩⟩⟩⟩⟩) ?_
            exact c_X6_coins_57 m12 a1 a3 a4 hS
          · refine Cv.go (pc' := 54) (go_icmp_eq_f 57 dX6_coins_51 rfl h19) ?_
            refine Cv.go (pc' := 56) (go_bipush dX6_coins_54 ib_n13) ?_
            exact Cv.ret dX6_coins_56 rfl
theorem kc_X6_over (m : Mem) (a0 : Int32) : ∀ v mE, F_X6_over m a0 = some (v, mE) → Con true kX6_over 0 [.int a0] m (eI v) mE := by
  refine Con.of (ini := false) (ls0 := [.int a0]) (ri := .ireturn) (by decide) (by intro z; cases z) rfl (Nat.le_of_ble_eq_true rfl) (fun v mE _ => RetTy.i) ?_
  show Cv true (cX6_over, 1, RX6, 0, ((false, none) : IK)) .ireturn eI (F_X6_over m a0) m 0 [.int a0] []
  unfold F_X6_over
  refine Cv.go (pc' := 1) (go_iload_n (i := 0) (x := a0) dX6_over_0 rfl rfl) ?_
  refine Cv.ite (fun h1 => ?_) (fun h1 => ?_)
  · refine Cv.go (pc' := 4) (go_if_ne_f 8 dX6_over_1 rfl h1) ?_
    refine Cv.go (pc' := 5) (go_iconst dX6_over_4 ic_n1) ?_
    refine Cv.go (pc' := 27) (go_goto (tgt := 27) dX6_over_5 rfl) ?_
    exact Cv.ret dX6_over_27 rfl
  · refine Cv.go (pc' := 8) (go_if_ne_t (tgt := 8) dX6_over_1 rfl h1) ?_
    refine Cv.go (pc' := 9) (go_iload_n (i := 0) (x := a0) dX6_over_8 rfl rfl) ?_
    refine Cv.go (pc' := 10) (go_iconst dX6_over_9 ic_3) ?_
    refine Cv.ite (fun h2 => ?_) (fun h2 => ?_)
    · refine Cv.go (pc' := 13) (go_icmp_ne_f 17 dX6_over_10 rfl h2) ?_
      refine Cv.go (pc' := 14) (go_iconst dX6_over_13 ic_1) ?_
      refine Cv.go (pc' := 27) (go_goto (tgt := 27) dX6_over_14 rfl) ?_
      exact Cv.ret dX6_over_27 rfl
    · refine Cv.go (pc' := 17) (go_icmp_ne_t (tgt := 17) dX6_over_10 rfl h2) ?_
      refine Cv.go (pc' := 18) (go_iload_n (i := 0) (x := a0) dX6_over_17 rfl rfl) ?_
      refine Cv.go (pc' := 19) (go_iconst dX6_over_18 ic_4) ?_
      refine Cv.ite (fun h3 => ?_) (fun h3 => ?_)
      · refine Cv.go (pc' := 22) (go_icmp_ne_f 26 dX6_over_19 rfl h3) ?_
        refine Cv.go (pc' := 23) (go_iconst dX6_over_22 ic_2) ?_
        refine Cv.go (pc' := 27) (go_goto (tgt := 27) dX6_over_23 rfl) ?_
        exact Cv.ret dX6_over_27 rfl
      · refine Cv.go (pc' := 26) (go_icmp_ne_t (tgt := 26) dX6_over_19 rfl h3) ?_
        refine Cv.go (pc' := 27) (go_iconst dX6_over_26 ic_0) ?_
        exact Cv.ret dX6_over_27 rfl
theorem c_X6_taken_51 : ∀ (m : Mem) (a1 : Int32) (a2 : Int32) (a3 : Int32) (hS : ShM m), Cv true (cX6_taken, 4, RX6, 2, ((false, none) : IK)) .ireturn eI (F_X6_taken_51 m a1 a2 a3) m 51 [.ref 40, .int a1, .int a2, .int a3] [] := by
  intro m a1 a2 a3 hS
  unfold F_X6_taken_51
  refine Cv.go (pc' := 52) (go_iload_n (i := 3) (x := a3) dX6_taken_51 rfl rfl) ?_
  refine Cv.go (pc' := 53) (go_iload_n (i := 2) (x := a2) dX6_taken_52 rfl rfl) ?_
  refine Cv.ite (fun h19 => ?_) (fun h19 => ?_)
  · refine Cv.go (pc' := 56) (go_icmp_ne_f 67 dX6_taken_53 rfl h19) ?_
    refine Cv.go (pc' := 57) (go_aload_n (i := 0) (x := 40) dX6_taken_56 rfl rfl) ?_
    refine Cv.go (pc' := 60) (go_getR (i := 9) cls6 (sx_k40 hS) (by decide) rfl lf_X6_26 (Or.inr ⟨_, rfl⟩) (sx_r40_9 hS) dX6_taken_57) ?_
    refine Cv.go (pc' := 61) (go_iconst dX6_taken_60 ic_5) ?_
    refine Cv.go (pc' := 62) (go_iload_n (i := 1) (x := a1) dX6_taken_61 rfl rfl) ?_
    refine Cv.go (pc' := 63) (go_imul dX6_taken_62) ?_
    refine Cv.gif fun g20 => ?_
    refine Cv.go (pc' := 64) (go_iaload (sx_k45 hS) g20 dX6_taken_63) ?_
    refine Cv.go (pc' := 69) (go_goto (tgt := 69) dX6_taken_64 rfl) ?_
    exact Cv.ret dX6_taken_69 rfl
  · refine Cv.go (pc' := 67) (go_icmp_ne_t (tgt := 67) dX6_taken_53 rfl h19) ?_
    refine Cv.go (pc' := 69) (go_bipush dX6_taken_67 ib_n13) ?_
    exact Cv.ret dX6_taken_69 rfl
theorem c_X6_taken_33 : ∀ n, ∀ (m : Mem) (a1 : Int32) (a2 : Int32) (a3 : Int32) (hS : ShM m), Cv true (cX6_taken, 4, RX6, 2, ((false, none) : IK)) .ireturn eI (F_X6_taken_33 n m a1 a2 a3) m 33 [.ref 40, .int a1, .int a2, .int a3] [] := by
  intro n
  induction n with
  | zero => intro m a1 a2 a3 hS; exact Cv.no
  | succ n ih =>
    intro m a1 a2 a3 hS
    unfold F_X6_taken_33
    refine Cv.go (pc' := 34) (go_iload_n (i := 3) (x := a3) dX6_taken_33 rfl rfl) ?_
    refine Cv.go (pc' := 35) (go_iconst dX6_taken_34 ic_n1) ?_
    refine Cv.ite (fun h13 => ?_) (fun h13 => ?_)
    · refine Cv.go (pc' := 51) (go_icmp_eq_t (tgt := 51) dX6_taken_35 rfl h13) ?_
      exact c_X6_taken_51 m a1 a2 a3 hS
    · refine Cv.go (pc' := 38) (go_icmp_eq_f 51 dX6_taken_35 rfl h13) ?_
      refine Cv.go (pc' := 39) (go_iload_n (i := 3) (x := a3) dX6_taken_38 rfl rfl) ?_
      refine Cv.go (pc' := 40) (go_iload_n (i := 2) (x := a2) dX6_taken_39 rfl rfl) ?_
      refine Cv.ite (fun h14 => ?_) (fun h14 => ?_)
      · refine Cv.go (pc' := 51) (go_icmp_eq_t (tgt := 51) dX6_taken_40 rfl h14) ?_
        exact c_X6_taken_51 m a1 a2 a3 hS
      · refine Cv.go (pc' := 43) (go_icmp_eq_f 51 dX6_taken_40 rfl h14) ?_
        refine Cv.go (pc' := 44) (go_iload_n (i := 3) (x := a3) dX6_taken_43 rfl rfl) ?_
        refine Cv.bnd fun v15 m16 e17 => ?_
        have C18 := kc_X6_over m a3 v15 m16 e17
        refine Cv.go (pc' := 47) (st' := [.int v15]) (go_callS (As := [.int a3]) (st := []) C18 (by decide) ok_X6_over lt_X6_over lm_X6_432 rfl rfl (Nat.le_of_ble_eq_true rfl) dX6_taken_44) ?_
        have zm16 := C18.1.2.2 rfl
        have hS := hS.sh zm16
        refine Cv.go (pc' := 48) (ls' := [.ref 40, .int a1, .int a2, .int v15]) (go_istore_n dX6_taken_47 rfl (by decide) rfl) ?_
        refine Cv.go (pc' := 33) (go_goto (tgt := 33) dX6_taken_48 rfl) ?_
        exact ih m16 a1 a2 v15 hS
theorem kc_X6_taken (m : Mem) (a1 : Int32) (a2 : Int32) (hS : ShM m) : ∀ v mE, F_X6_taken m a1 a2 = some (v, mE) → Con true kX6_taken 2 [.ref 40, .int a1, .int a2] m (eI v) mE := by
  refine Con.of (ini := false) (ls0 := [.ref 40, .int a1, .int a2, .null]) (ri := .ireturn) (by decide) (by intro z; cases z) rfl (Nat.le_of_ble_eq_true rfl) (fun v mE _ => RetTy.i) ?_
  show Cv true (cX6_taken, 4, RX6, 2, ((false, none) : IK)) .ireturn eI (F_X6_taken m a1 a2) m 0 [.ref 40, .int a1, .int a2, .null] []
  unfold F_X6_taken
  refine Cv.go (pc' := 1) (go_iload_n (i := 2) (x := a2) dX6_taken_0 rfl rfl) ?_
  refine Cv.go (pc' := 2) (go_i2l dX6_taken_1) ?_
  refine Cv.go (pc' := 3) (go_lconst (v := 0) dX6_taken_2 (by decide)) ?_
  refine Cv.go (pc' := 6) (go_ldc2 dX6_taken_3 ll_X6_73) ?_
  refine Cv.bnd fun v1 m2 e3 => ?_
  have C4 := kc_X6_in m a2.toInt64 (0 : Int64) (5 : Int64) v1 m2 e3
  refine Cv.go (pc' := 9) (st' := [.int (bz v1)]) (go_callS (As := [.long a2.toInt64, .long (0 : Int64), .long (5 : Int64)]) (st := []) C4 (by decide) ok_X6_in lt_X6_in lm_X6_67 rfl rfl (Nat.le_of_ble_eq_true rfl) dX6_taken_6) ?_
  have zm2 := C4.1.2.2 rfl
  have hS := hS.sh zm2
  refine Cv.ite (fun h5 => ?_) (fun h5 => ?_)
  · refine Cv.go (pc' := 12) (go_if_ne_f 15 dX6_taken_9 rfl h5) ?_
    refine Cv.go (pc' := 14) (go_bipush dX6_taken_12 ib_n2) ?_
    exact Cv.ret dX6_taken_14 rfl
  · refine Cv.go (pc' := 15) (go_if_ne_t (tgt := 15) dX6_taken_9 rfl h5) ?_
    refine Cv.go (pc' := 16) (go_aload_n (i := 0) (x := 40) dX6_taken_15 rfl rfl) ?_
    refine Cv.go (pc' := 17) (go_iload_n (i := 1) (x := a1) dX6_taken_16 rfl rfl) ?_
    refine Cv.bnd fun v6 m7 e8 => ?_
    have C9 := kc_X6_isCoin m2 a1 hS v6 m7 e8
    refine Cv.go (pc' := 20) (st' := [.int (bz v6)]) (go_callV (As := [.int a1]) (st := []) C9 (by decide) ok_X6_isCoin li_X6_isCoin ls_X6_isCoin lm_X6_75 cls6 (sx_k40 hS) rfl rfl (Nat.le_of_ble_eq_true rfl) dX6_taken_17) ?_
    have zm7 := C9.1.2.2 rfl
    have hS := hS.sh zm7
    refine Cv.ite (fun h10 => ?_) (fun h10 => ?_)
    · refine Cv.go (pc' := 23) (go_if_ne_f 26 dX6_taken_20 rfl h10) ?_
      refine Cv.go (pc' := 25) (go_bipush dX6_taken_23 ib_n11) ?_
      exact Cv.ret dX6_taken_25 rfl
    · refine Cv.go (pc' := 26) (go_if_ne_t (tgt := 26) dX6_taken_20 rfl h10) ?_
      refine Cv.go (pc' := 27) (go_aload_n (i := 0) (x := 40) dX6_taken_26 rfl rfl) ?_
      refine Cv.go (pc' := 30) (go_getR (i := 8) cls6 (sx_k40 hS) (by decide) rfl lf_X6_23 (Or.inr ⟨_, rfl⟩) (sx_r40_8 hS) dX6_taken_27) ?_
      refine Cv.go (pc' := 31) (go_iload_n (i := 1) (x := a1) dX6_taken_30 rfl rfl) ?_
      refine Cv.gif fun g11 => ?_
      refine Cv.go (pc' := 32) (go_iaload (sx_k44 hS) g11 dX6_taken_31) ?_
      refine Cv.namI fun x12 ex12 => ?_
      refine Cv.go (pc' := 33) (ls' := [.ref 40, .int a1, .int a2, .int x12]) (go_istore_n dX6_taken_32 rfl (by decide) rfl) ?_
      exact c_X6_taken_33 FU m7 a1 a2 x12 hS
