theorem c_X6_either5_44 (K5 : Mem → Int32 → Option (Int32 × Mem)) (hK5 : ∀ (m : Mem) (a1 : Int32) (hS : ShM m), Cv true (cX6_either5, 3, RX6, 9, ((false, none) : IK)) .ireturn eI (K5 m a1) m 5 [.ref 40, .int a1, .null] []) : ∀ (m : Mem) (s0 : Int32) (hS : ShM m), Cv true (cX6_either5, 3, RX6, 9, ((false, none) : IK)) .ireturn eI (F_X6_either5_44 K5 m s0) m 44 [.ref 40, .null, .null] [.int s0] := by
  intro m s0 hS
  unfold F_X6_either5_44
  refine Cv.go (pc' := 45) (ls' := [.ref 40, .int s0, .null]) (go_istore_n dX6_either5_44 rfl (by decide) rfl) ?_
  refine Cv.go (pc' := 5) (go_goto (tgt := 5) dX6_either5_45 rfl) ?_
  exact hK5 m s0 hS
theorem c_X6_either5_39 (K5 : Mem → Int32 → Option (Int32 × Mem)) (hK5 : ∀ (m : Mem) (a1 : Int32) (hS : ShM m), Cv true (cX6_either5, 3, RX6, 9, ((false, none) : IK)) .ireturn eI (K5 m a1) m 5 [.ref 40, .int a1, .null] []) : ∀ (m : Mem) (hS : ShM m), Cv true (cX6_either5, 3, RX6, 9, ((false, none) : IK)) .ireturn eI (F_X6_either5_39 K5 m) m 39 [.ref 40, .null, .null] [] := by
  intro m hS
  unfold F_X6_either5_39
  refine Cv.go (pc' := 40) (go_iconst dX6_either5_39 ic_1) ?_
  refine Cv.go (pc' := 44) (go_goto (tgt := 44) dX6_either5_40 rfl) ?_
  exact c_X6_either5_44 K5 hK5 m (1 : Int32) hS
theorem c_X6_either5_5 : ∀ n, ∀ (m : Mem) (a1 : Int32) (hS : ShM m), Cv true (cX6_either5, 3, RX6, 9, ((false, none) : IK)) .ireturn eI (F_X6_either5_5 n m a1) m 5 [.ref 40, .int a1, .null] [] := by
  intro n
  induction n with
  | zero => intro m a1 hS; exact Cv.no
  | succ n ih =>
    intro m a1 hS
    unfold F_X6_either5_5
    refine Cv.go (pc' := 6) (go_aload_n (i := 0) (x := 40) dX6_either5_5 rfl rfl) ?_
    refine Cv.go (pc' := 8) (go_bipush dX6_either5_6 ib_111) ?_
    refine Cv.go (pc' := 10) (go_bipush dX6_either5_8 ib_114) ?_
    refine Cv.go (pc' := 11) (go_iconst dX6_either5_10 ic_0) ?_
    refine Cv.go (pc' := 12) (go_iconst dX6_either5_11 ic_0) ?_
    refine Cv.go (pc' := 13) (go_iconst dX6_either5_12 ic_0) ?_
    refine Cv.go (pc' := 14) (go_iconst dX6_either5_13 ic_0) ?_
    refine Cv.go (pc' := 15) (go_iconst dX6_either5_14 ic_0) ?_
    refine Cv.go (pc' := 16) (go_iconst dX6_either5_15 ic_0) ?_
    refine Cv.bnd fun v5 m6 e7 => ?_
    have C8 := kc_X6_isWord m (111 : Int32) (114 : Int32) (0 : Int32) (0 : Int32) (0 : Int32) (0 : Int32) (0 : Int32) (0 : Int32) hS v5 m6 e7
    refine Cv.go (pc' := 19) (st' := [.int (bz v5)]) (go_callV (As := [.int (111 : Int32), .int (114 : Int32), .int (0 : Int32), .int (0 : Int32), .int (0 : Int32), .int (0 : Int32), .int (0 : Int32), .int (0 : Int32)]) (st := []) C8 (by decide) ok_X6_isWord li_X6_isWord ls_X6_isWord lm_X6_176 cls6 (sx_k40 hS) rfl rfl (Nat.le_of_ble_eq_true rfl) dX6_either5_16) ?_
    have zm6 := C8.1.2.2 rfl
    have hS := hS.sh zm6
    refine Cv.ite (fun h9 => ?_) (fun h9 => ?_)
    · refine Cv.go (pc' := 48) (go_if_eq_t (tgt := 48) dX6_either5_19 rfl h9) ?_
      refine Cv.go (pc' := 49) (go_iload_n (i := 1) (x := a1) dX6_either5_48 rfl rfl) ?_
      exact Cv.ret dX6_either5_49 rfl
    · refine Cv.go (pc' := 22) (go_if_eq_f 48 dX6_either5_19 rfl h9) ?_
      refine Cv.go (pc' := 23) (go_aload_n (i := 0) (x := 40) dX6_either5_22 rfl rfl) ?_
      refine Cv.bnd fun v10 m11 e12 => ?_
      have C13 := kc_X6_next m6 hS v10 m11 e12
      refine Cv.go (pc' := 26) (st' := []) (go_callV (As := []) (st := []) C13 (by decide) ok_X6_next li_X6_next ls_X6_next lm_X6_173 cls6 (sx_k40 hS) rfl rfl (Nat.le_of_ble_eq_true rfl) dX6_either5_23) ?_
      have zm11 := C13.1.2.2 rfl
      have hS := hS.sh zm11
      refine Cv.go (pc' := 27) (go_aload_n (i := 0) (x := 40) dX6_either5_26 rfl rfl) ?_
      refine Cv.bnd fun v14 m15 e16 => ?_
      have C17 := kc_X6_both5 m11 hS v14 m15 e16
      refine Cv.go (pc' := 30) (st' := [.int v14]) (go_callV (As := []) (st := []) C17 (by decide) ok_X6_both5 li_X6_both5 ls_X6_both5 lm_X6_225 cls6 (sx_k40 hS) rfl rfl (Nat.le_of_ble_eq_true rfl) dX6_either5_27) ?_
      have zm15 := C17.1.2.2 rfl
      have hS := hS.sh zm15
      refine Cv.go (pc' := 31) (ls' := [.ref 40, .int a1, .int v14]) (go_istore_n dX6_either5_30 rfl (by decide) rfl) ?_
      refine Cv.go (pc' := 32) (go_iload_n (i := 1) (x := a1) dX6_either5_31 rfl rfl) ?_
      refine Cv.ite (fun h18 => ?_) (fun h18 => ?_)
      · refine Cv.go (pc' := 35) (go_if_ne_f 39 dX6_either5_32 rfl h18) ?_
        refine Cv.go (pc' := 36) (go_iload_n (i := 2) (x := v14) dX6_either5_35 rfl rfl) ?_
        refine Cv.ite (fun h19 => ?_) (fun h19 => ?_)
        · refine Cv.go (pc' := 43) (go_if_eq_t (tgt := 43) dX6_either5_36 rfl h19) ?_
          refine Cv.go (pc' := 44) (go_iconst dX6_either5_43 ic_0) ?_
          refine Cv.weak (ls' := [.ref 40, .null, .null]) (⟨Or.inr rfl, ⟨Or.inl rfl, ⟨Or.inl rfl, True.intro⟩⟩⟩) ?_
          exact c_X6_either5_44 (F_X6_either5_5 n) ih m15 (0 : Int32) hS
        · refine Cv.go (pc' := 39) (go_if_eq_f 43 dX6_either5_36 rfl h19) ?_
          refine Cv.weak (ls' := [.ref 40, .null, .null]) (⟨Or.inr rfl, ⟨Or.inl rfl, ⟨Or.inl rfl, True.intro⟩⟩⟩) ?_
          exact c_X6_either5_39 (F_X6_either5_5 n) ih m15 hS
      · refine Cv.go (pc' := 39) (go_if_ne_t (tgt := 39) dX6_either5_32 rfl h18) ?_
        refine Cv.weak (ls' := [.ref 40, .null, .null]) (⟨Or.inr rfl, ⟨Or.inl rfl, ⟨Or.inl rfl, True.intro⟩⟩⟩) ?_
        exact c_X6_either5_39 (F_X6_either5_5 n) ih m15 hS
theorem kc_X6_either5 (m : Mem) (hS : ShM m) : ∀ v mE, F_X6_either5 m = some (v, mE) → Con true kX6_either5 9 [.ref 40] m (eI v) mE := by
  refine Con.of (ini := false) (ls0 := [.ref 40, .null, .null]) (ri := .ireturn) (by decide) (by intro z; cases z) rfl (Nat.le_of_ble_eq_true rfl) (fun v mE _ => RetTy.i) ?_
  show Cv true (cX6_either5, 3, RX6, 9, ((false, none) : IK)) .ireturn eI (F_X6_either5 m) m 0 [.ref 40, .null, .null] []
  unfold F_X6_either5
  refine Cv.go (pc' := 1) (go_aload_n (i := 0) (x := 40) dX6_either5_0 rfl rfl) ?_
  refine Cv.bnd fun v1 m2 e3 => ?_
  have C4 := kc_X6_both5 m hS v1 m2 e3
  refine Cv.go (pc' := 4) (st' := [.int v1]) (go_callV (As := []) (st := []) C4 (by decide) ok_X6_both5 li_X6_both5 ls_X6_both5 lm_X6_225 cls6 (sx_k40 hS) rfl rfl (Nat.le_of_ble_eq_true rfl) dX6_either5_1) ?_
  have zm2 := C4.1.2.2 rfl
  have hS := hS.sh zm2
  refine Cv.go (pc' := 5) (ls' := [.ref 40, .int v1, .null]) (go_istore_n dX6_either5_4 rfl (by decide) rfl) ?_
  exact c_X6_either5_5 FU m2 v1 hS
theorem c_X6_atom4_71 : ∀ (m : Mem) (a1 : Int32) (hS : ShM m), Cv true (cX6_atom4, 2, RX6, 10, ((false, none) : IK)) .ireturn eI (F_X6_atom4_71 m a1) m 71 [.ref 40, .int a1] [] := by
  intro m a1 hS
  unfold F_X6_atom4_71
  refine Cv.go (pc' := 72) (go_aload_n (i := 0) (x := 40) dX6_atom4_71 rfl rfl) ?_
  refine Cv.go (pc' := 73) (go_dup_a dX6_atom4_72) ?_
  refine Cv.go (pc' := 76) (go_getI (i := 23) cls6 (sx_k40 hS) (by decide) rfl lf_X6_167 (by decide) dX6_atom4_73) ?_
  refine Cv.go (pc' := 77) (go_iconst dX6_atom4_76 ic_1) ?_
  refine Cv.go (pc' := 78) (go_isub dX6_atom4_77) ?_
  refine Cv.go (pc' := 81) (go_putI (i := 23) cls6 (sx_k40 hS) (by decide) rfl lf_X6_167 (by decide) rfl rfl rfl dX6_atom4_78) ?_
  refine Cv.namM fun m47 em47 => ?_
  have zm47 : SameSh m m47 := em47 ▸ SameSh.d
  have hS := hS.sh zm47
  refine Cv.go (pc' := 82) (go_aload_n (i := 0) (x := 40) dX6_atom4_81 rfl rfl) ?_
  refine Cv.go (pc' := 85) (go_getI (i := 24) cls6 (sx_k40 hS) (by decide) rfl lf_X6_156 (by decide) dX6_atom4_82) ?_
  refine Cv.ite (fun h48 => ?_) (fun h48 => ?_)
  · refine Cv.go (pc' := 88) (go_if_ne_f 161 dX6_atom4_85 rfl h48) ?_
    refine Cv.go (pc' := 89) (go_aload_n (i := 0) (x := 40) dX6_atom4_88 rfl rfl) ?_
    refine Cv.bnd fun v49 m50 e51 => ?_
    have C52 := kc_X6_next m47 hS v49 m50 e51
    refine Cv.go (pc' := 92) (st' := []) (go_callV (As := []) (st := []) C52 (by decide) ok_X6_next li_X6_next ls_X6_next lm_X6_173 cls6 (sx_k40 hS) rfl rfl (Nat.le_of_ble_eq_true rfl) dX6_atom4_89) ?_
    have zm50 := C52.1.2.2 rfl
    have hS := hS.sh zm50
    refine Cv.go (pc' := 161) (go_goto (tgt := 161) dX6_atom4_92 rfl) ?_
    refine Cv.go (pc' := 162) (go_iload_n (i := 1) (x := a1) dX6_atom4_161 rfl rfl) ?_
    exact Cv.ret dX6_atom4_162 rfl
  · refine Cv.go (pc' := 161) (go_if_ne_t (tgt := 161) dX6_atom4_85 rfl h48) ?_
    refine Cv.go (pc' := 162) (go_iload_n (i := 1) (x := a1) dX6_atom4_161 rfl rfl) ?_
    exact Cv.ret dX6_atom4_162 rfl
theorem c_X6_atom4_157 : ∀ (m : Mem) (a1 : Int32) (hS : ShM m), Cv true (cX6_atom4, 2, RX6, 10, ((false, none) : IK)) .ireturn eI (F_X6_atom4_157 m a1) m 157 [.ref 40, .int a1] [] := by
  intro m a1 hS
  unfold F_X6_atom4_157
  refine Cv.go (pc' := 158) (go_aload_n (i := 0) (x := 40) dX6_atom4_157 rfl rfl) ?_
  refine Cv.bnd fun v64 m65 e66 => ?_
  have C67 := kc_X6_fail m hS v64 m65 e66
  refine Cv.go (pc' := 161) (st' := []) (go_callV (As := []) (st := []) C67 (by decide) ok_X6_fail li_X6_fail ls_X6_fail lm_X6_170 cls6 (sx_k40 hS) rfl rfl (Nat.le_of_ble_eq_true rfl) dX6_atom4_158) ?_
  have zm65 := C67.1.2.2 rfl
  have hS := hS.sh zm65
  refine Cv.go (pc' := 162) (go_iload_n (i := 1) (x := a1) dX6_atom4_161 rfl rfl) ?_
  exact Cv.ret dX6_atom4_162 rfl
theorem c_X6_atom4_123 : ∀ (m : Mem) (a1 : Int32) (hS : ShM m), Cv true (cX6_atom4, 2, RX6, 10, ((false, none) : IK)) .ireturn eI (F_X6_atom4_123 m a1) m 123 [.ref 40, .int a1] [] := by
  intro m a1 hS
  unfold F_X6_atom4_123
  refine Cv.go (pc' := 124) (go_aload_n (i := 0) (x := 40) dX6_atom4_123 rfl rfl) ?_
  refine Cv.go (pc' := 127) (go_getI (i := 24) cls6 (sx_k40 hS) (by decide) rfl lf_X6_156 (by decide) dX6_atom4_124) ?_
  refine Cv.ite (fun h53 => ?_) (fun h53 => ?_)
  · refine Cv.go (pc' := 130) (go_if_ne_f 157 dX6_atom4_127 rfl h53) ?_
    refine Cv.go (pc' := 131) (go_aload_n (i := 0) (x := 40) dX6_atom4_130 rfl rfl) ?_
    refine Cv.go (pc' := 134) (go_getI (i := 20) cls6 (sx_k40 hS) (by decide) rfl lf_X6_139 (by decide) dX6_atom4_131) ?_
    refine Cv.go (pc' := 135) (go_iconst dX6_atom4_134 ic_1) ?_
    refine Cv.ite (fun h54 => ?_) (fun h54 => ?_)
    · refine Cv.go (pc' := 138) (go_icmp_ne_f 157 dX6_atom4_135 rfl h54) ?_
      refine Cv.go (pc' := 139) (go_aload_n (i := 0) (x := 40) dX6_atom4_138 rfl rfl) ?_
      refine Cv.bnd fun v55 m56 e57 => ?_
      have C58 := kc_X6_name m hS v55 m56 e57
      refine Cv.go (pc' := 142) (st' := [.int v55]) (go_callV (As := []) (st := []) C58 (by decide) ok_X6_name li_X6_name ls_X6_name lm_X6_205 cls6 (sx_k40 hS) rfl rfl (Nat.le_of_ble_eq_true rfl) dX6_atom4_139) ?_
      have zm56 := C58.1.2.2 rfl
      have hS := hS.sh zm56
      refine Cv.go (pc' := 143) (ls' := [.ref 40, .int v55]) (go_istore_n dX6_atom4_142 rfl (by decide) rfl) ?_
      refine Cv.go (pc' := 144) (go_aload_n (i := 0) (x := 40) dX6_atom4_143 rfl rfl) ?_
      refine Cv.go (pc' := 147) (go_getI (i := 24) cls6 (sx_k40 hS) (by decide) rfl lf_X6_156 (by decide) dX6_atom4_144) ?_
      refine Cv.ite (fun h59 => ?_) (fun h59 => ?_)
      · refine Cv.go (pc' := 150) (go_if_ne_f 161 dX6_atom4_147 rfl h59) ?_
        refine Cv.go (pc' := 151) (go_aload_n (i := 0) (x := 40) dX6_atom4_150 rfl rfl) ?_
        refine Cv.bnd fun v60 m61 e62 => ?_
        have C63 := kc_X6_next m56 hS v60 m61 e62
        refine Cv.go (pc' := 154) (st' := []) (go_callV (As := []) (st := []) C63 (by decide) ok_X6_next li_X6_next ls_X6_next lm_X6_173 cls6 (sx_k40 hS) rfl rfl (Nat.le_of_ble_eq_true rfl) dX6_atom4_151) ?_
        have zm61 := C63.1.2.2 rfl
        have hS := hS.sh zm61
        refine Cv.go (pc' := 161) (go_goto (tgt := 161) dX6_atom4_154 rfl) ?_
        refine Cv.go (pc' := 162) (go_iload_n (i := 1) (x := v55) dX6_atom4_161 rfl rfl) ?_
        exact Cv.ret dX6_atom4_162 rfl
      · refine Cv.go (pc' := 161) (go_if_ne_t (tgt := 161) dX6_atom4_147 rfl h59) ?_
        refine Cv.go (pc' := 162) (go_iload_n (i := 1) (x := v55) dX6_atom4_161 rfl rfl) ?_
        exact Cv.ret dX6_atom4_162 rfl
    · refine Cv.go (pc' := 157) (go_icmp_ne_t (tgt := 157) dX6_atom4_135 rfl h54) ?_
      exact c_X6_atom4_157 m a1 hS
  · refine Cv.go (pc' := 157) (go_if_ne_t (tgt := 157) dX6_atom4_127 rfl h53) ?_
    exact c_X6_atom4_157 m a1 hS
theorem kc_X6_atom4 (m : Mem) (hS : ShM m) : ∀ v mE, F_X6_atom4 m = some (v, mE) → Con true kX6_atom4 10 [.ref 40] m (eI v) mE := by
  refine Con.of (ini := false) (ls0 := [.ref 40, .null]) (ri := .ireturn) (by decide) (by intro z; cases z) rfl (Nat.le_of_ble_eq_true rfl) (fun v mE _ => RetTy.i) ?_
  show Cv true (cX6_atom4, 2, RX6, 10, ((false, none) : IK)) .ireturn eI (F_X6_atom4 m) m 0 [.ref 40, .null] []
  unfold F_X6_atom4
  refine Cv.go (pc' := 1) (go_iconst dX6_atom4_0 ic_0) ?_
  refine Cv.go (pc' := 2) (ls' := [.ref 40, .int (0 : Int32)]) (go_istore_n dX6_atom4_1 rfl (by decide) rfl) ?_
  refine Cv.go (pc' := 3) (go_aload_n (i := 0) (x := 40) dX6_atom4_2 rfl rfl) ?_
  refine Cv.go (pc' := 5) (go_bipush dX6_atom4_3 ib_45) ?_
  refine Cv.bnd fun v1 m2 e3 => ?_
  have C4 := kc_X6_isSign m (45 : Int32) hS v1 m2 e3
  refine Cv.go (pc' := 8) (st' := [.int (bz v1)]) (go_callV (As := [.int (45 : Int32)]) (st := []) C4 (by decide) ok_X6_isSign li_X6_isSign ls_X6_isSign lm_X6_198 cls6 (sx_k40 hS) rfl rfl (Nat.le_of_ble_eq_true rfl) dX6_atom4_5) ?_
  have zm2 := C4.1.2.2 rfl
  have hS := hS.sh zm2
  refine Cv.ite (fun h5 => ?_) (fun h5 => ?_)
  · refine Cv.go (pc' := 37) (go_if_eq_t (tgt := 37) dX6_atom4_8 rfl h5) ?_
    refine Cv.go (pc' := 38) (go_aload_n (i := 0) (x := 40) dX6_atom4_37 rfl rfl) ?_
    refine Cv.go (pc' := 40) (go_bipush dX6_atom4_38 ib_40) ?_
    refine Cv.bnd fun v6 m7 e8 => ?_
    have C9 := kc_X6_isSign m2 (40 : Int32) hS v6 m7 e8
    refine Cv.go (pc' := 43) (st' := [.int (bz v6)]) (go_callV (As := [.int (40 : Int32)]) (st := []) C9 (by decide) ok_X6_isSign li_X6_isSign ls_X6_isSign lm_X6_198 cls6 (sx_k40 hS) rfl rfl (Nat.le_of_ble_eq_true rfl) dX6_atom4_40) ?_
    have zm7 := C9.1.2.2 rfl
    have hS := hS.sh zm7
    refine Cv.ite (fun h10 => ?_) (fun h10 => ?_)
    · refine Cv.go (pc' := 95) (go_if_eq_t (tgt := 95) dX6_atom4_43 rfl h10) ?_
      refine Cv.go (pc' := 96) (go_aload_n (i := 0) (x := 40) dX6_atom4_95 rfl rfl) ?_
      refine Cv.go (pc' := 99) (go_getI (i := 24) cls6 (sx_k40 hS) (by decide) rfl lf_X6_156 (by decide) dX6_atom4_96) ?_
      refine Cv.ite (fun h11 => ?_) (fun h11 => ?_)
      · refine Cv.go (pc' := 102) (go_if_ne_f 123 dX6_atom4_99 rfl h11) ?_
        refine Cv.go (pc' := 103) (go_aload_n (i := 0) (x := 40) dX6_atom4_102 rfl rfl) ?_
        refine Cv.go (pc' := 106) (go_getI (i := 20) cls6 (sx_k40 hS) (by decide) rfl lf_X6_139 (by decide) dX6_atom4_103) ?_
        refine Cv.go (pc' := 107) (go_iconst dX6_atom4_106 ic_2) ?_
        refine Cv.ite (fun h12 => ?_) (fun h12 => ?_)
        · refine Cv.go (pc' := 110) (go_icmp_ne_f 123 dX6_atom4_107 rfl h12) ?_
          refine Cv.go (pc' := 111) (go_aload_n (i := 0) (x := 40) dX6_atom4_110 rfl rfl) ?_
          refine Cv.go (pc' := 114) (go_getL (i := 22) cls6 (sx_k40 hS) (by decide) rfl lf_X6_150 rfl dX6_atom4_111) ?_
          refine Cv.go (pc' := 115) (go_l2i dX6_atom4_114) ?_
          refine Cv.namI fun x13 ex13 => ?_
          refine Cv.go (pc' := 116) (ls' := [.ref 40, .int x13]) (go_istore_n dX6_atom4_115 rfl (by decide) rfl) ?_
          refine Cv.go (pc' := 117) (go_aload_n (i := 0) (x := 40) dX6_atom4_116 rfl rfl) ?_
          refine Cv.bnd fun v14 m15 e16 => ?_
          have C17 := kc_X6_next m7 hS v14 m15 e16
          refine Cv.go (pc' := 120) (st' := []) (go_callV (As := []) (st := []) C17 (by decide) ok_X6_next li_X6_next ls_X6_next lm_X6_173 cls6 (sx_k40 hS) rfl rfl (Nat.le_of_ble_eq_true rfl) dX6_atom4_117) ?_
          have zm15 := C17.1.2.2 rfl
          have hS := hS.sh zm15
          refine Cv.go (pc' := 161) (go_goto (tgt := 161) dX6_atom4_120 rfl) ?_
          refine Cv.go (pc' := 162) (go_iload_n (i := 1) (x := x13) dX6_atom4_161 rfl rfl) ?_
          exact Cv.ret dX6_atom4_162 rfl
        · refine Cv.go (pc' := 123) (go_icmp_ne_t (tgt := 123) dX6_atom4_107 rfl h12) ?_
          exact c_X6_atom4_123 m7 (0 : Int32) hS
      · refine Cv.go (pc' := 123) (go_if_ne_t (tgt := 123) dX6_atom4_99 rfl h11) ?_
        exact c_X6_atom4_123 m7 (0 : Int32) hS
    · refine Cv.go (pc' := 46) (go_if_eq_f 95 dX6_atom4_43 rfl h10) ?_
      refine Cv.go (pc' := 47) (go_aload_n (i := 0) (x := 40) dX6_atom4_46 rfl rfl) ?_
      refine Cv.bnd fun v18 m19 e20 => ?_
      have C21 := kc_X6_opens m7 hS v18 m19 e20
      refine Cv.go (pc' := 50) (st' := [.int (bz v18)]) (go_callV (As := []) (st := []) C21 (by decide) ok_X6_opens li_X6_opens ls_X6_opens lm_X6_201 cls6 (sx_k40 hS) rfl rfl (Nat.le_of_ble_eq_true rfl) dX6_atom4_47) ?_
      have zm19 := C21.1.2.2 rfl
      have hS := hS.sh zm19
      refine Cv.ite (fun h22 => ?_) (fun h22 => ?_)
      · refine Cv.go (pc' := 161) (go_if_eq_t (tgt := 161) dX6_atom4_50 rfl h22) ?_
        refine Cv.go (pc' := 162) (go_iload_n (i := 1) (x := (0 : Int32)) dX6_atom4_161 rfl rfl) ?_
        exact Cv.ret dX6_atom4_162 rfl
      · refine Cv.go (pc' := 53) (go_if_eq_f 161 dX6_atom4_50 rfl h22) ?_
        refine Cv.go (pc' := 54) (go_aload_n (i := 0) (x := 40) dX6_atom4_53 rfl rfl) ?_
        refine Cv.bnd fun v23 m24 e25 => ?_
        have C26 := kc_X6_either5 m19 hS v23 m24 e25
        refine Cv.go (pc' := 57) (st' := [.int v23]) (go_callV (As := []) (st := []) C26 (by decide) ok_X6_either5 li_X6_either5 ls_X6_either5 lm_X6_228 cls6 (sx_k40 hS) rfl rfl (Nat.le_of_ble_eq_true rfl) dX6_atom4_54) ?_
        have zm24 := C26.1.2.2 rfl
        have hS := hS.sh zm24
        refine Cv.go (pc' := 58) (ls' := [.ref 40, .int v23]) (go_istore_n dX6_atom4_57 rfl (by decide) rfl) ?_
        refine Cv.go (pc' := 59) (go_aload_n (i := 0) (x := 40) dX6_atom4_58 rfl rfl) ?_
        refine Cv.go (pc' := 61) (go_bipush dX6_atom4_59 ib_41) ?_
        refine Cv.bnd fun v27 m28 e29 => ?_
        have C30 := kc_X6_isSign m24 (41 : Int32) hS v27 m28 e29
        refine Cv.go (pc' := 64) (st' := [.int (bz v27)]) (go_callV (As := [.int (41 : Int32)]) (st := []) C30 (by decide) ok_X6_isSign li_X6_isSign ls_X6_isSign lm_X6_198 cls6 (sx_k40 hS) rfl rfl (Nat.le_of_ble_eq_true rfl) dX6_atom4_61) ?_
        have zm28 := C30.1.2.2 rfl
        have hS := hS.sh zm28
        refine Cv.ite (fun h31 => ?_) (fun h31 => ?_)
        · refine Cv.go (pc' := 67) (go_if_ne_f 71 dX6_atom4_64 rfl h31) ?_
          refine Cv.go (pc' := 68) (go_aload_n (i := 0) (x := 40) dX6_atom4_67 rfl rfl) ?_
          refine Cv.bnd fun v32 m33 e34 => ?_
          have C35 := kc_X6_fail m28 hS v32 m33 e34
          refine Cv.go (pc' := 71) (st' := []) (go_callV (As := []) (st := []) C35 (by decide) ok_X6_fail li_X6_fail ls_X6_fail lm_X6_170 cls6 (sx_k40 hS) rfl rfl (Nat.le_of_ble_eq_true rfl) dX6_atom4_68) ?_
          have zm33 := C35.1.2.2 rfl
          have hS := hS.sh zm33
          exact c_X6_atom4_71 m33 v23 hS
        · refine Cv.go (pc' := 71) (go_if_ne_t (tgt := 71) dX6_atom4_64 rfl h31) ?_
          exact c_X6_atom4_71 m28 v23 hS
  · refine Cv.go (pc' := 11) (go_if_eq_f 37 dX6_atom4_8 rfl h5) ?_
    refine Cv.go (pc' := 12) (go_aload_n (i := 0) (x := 40) dX6_atom4_11 rfl rfl) ?_
    refine Cv.bnd fun v36 m37 e38 => ?_
    have C39 := kc_X6_opens m2 hS v36 m37 e38
    refine Cv.go (pc' := 15) (st' := [.int (bz v36)]) (go_callV (As := []) (st := []) C39 (by decide) ok_X6_opens li_X6_opens ls_X6_opens lm_X6_201 cls6 (sx_k40 hS) rfl rfl (Nat.le_of_ble_eq_true rfl) dX6_atom4_12) ?_
    have zm37 := C39.1.2.2 rfl
    have hS := hS.sh zm37
    refine Cv.ite (fun h40 => ?_) (fun h40 => ?_)
    · refine Cv.go (pc' := 161) (go_if_eq_t (tgt := 161) dX6_atom4_15 rfl h40) ?_
      refine Cv.go (pc' := 162) (go_iload_n (i := 1) (x := (0 : Int32)) dX6_atom4_161 rfl rfl) ?_
      exact Cv.ret dX6_atom4_162 rfl
    · refine Cv.go (pc' := 18) (go_if_eq_f 161 dX6_atom4_15 rfl h40) ?_
      refine Cv.go (pc' := 19) (go_aload_n (i := 0) (x := 40) dX6_atom4_18 rfl rfl) ?_
      refine Cv.bnd fun v41 m42 e43 => ?_
      have C44 := kc_X6_atom5 m37 hS v41 m42 e43
      refine Cv.go (pc' := 22) (st' := [.int v41]) (go_callV (As := []) (st := []) C44 (by decide) ok_X6_atom5 li_X6_atom5 ls_X6_atom5 lm_X6_209 cls6 (sx_k40 hS) rfl rfl (Nat.le_of_ble_eq_true rfl) dX6_atom4_19) ?_
      have zm42 := C44.1.2.2 rfl
      have hS := hS.sh zm42
      refine Cv.go (pc' := 23) (go_ineg dX6_atom4_22) ?_
      refine Cv.namI fun x45 ex45 => ?_
      refine Cv.go (pc' := 24) (ls' := [.ref 40, .int x45]) (go_istore_n dX6_atom4_23 rfl (by decide) rfl) ?_
      refine Cv.go (pc' := 25) (go_aload_n (i := 0) (x := 40) dX6_atom4_24 rfl rfl) ?_
      refine Cv.go (pc' := 26) (go_dup_a dX6_atom4_25) ?_
      refine Cv.go (pc' := 29) (go_getI (i := 23) cls6 (sx_k40 hS) (by decide) rfl lf_X6_167 (by decide) dX6_atom4_26) ?_
      refine Cv.go (pc' := 30) (go_iconst dX6_atom4_29 ic_1) ?_
      refine Cv.go (pc' := 31) (go_isub dX6_atom4_30) ?_
      refine Cv.go (pc' := 34) (go_putI (i := 23) cls6 (sx_k40 hS) (by decide) rfl lf_X6_167 (by decide) rfl rfl rfl dX6_atom4_31) ?_
      refine Cv.namM fun m46 em46 => ?_
      have zm46 : SameSh m42 m46 := em46 ▸ SameSh.d
      have hS := hS.sh zm46
      refine Cv.go (pc' := 161) (go_goto (tgt := 161) dX6_atom4_34 rfl) ?_
      refine Cv.go (pc' := 162) (go_iload_n (i := 1) (x := x45) dX6_atom4_161 rfl rfl) ?_
      exact Cv.ret dX6_atom4_162 rfl
theorem c_X6_term4_5 : ∀ n, ∀ (m : Mem) (a1 : Int32) (hS : ShM m), Cv true (cX6_term4, 2, RX6, 11, ((false, none) : IK)) .ireturn eI (F_X6_term4_5 n m a1) m 5 [.ref 40, .int a1] [] := by
  intro n
  induction n with
  | zero => intro m a1 hS; exact Cv.no
  | succ n ih =>
    intro m a1 hS
    unfold F_X6_term4_5
    refine Cv.go (pc' := 6) (go_aload_n (i := 0) (x := 40) dX6_term4_5 rfl rfl) ?_
    refine Cv.go (pc' := 8) (go_bipush dX6_term4_6 ib_42) ?_
    refine Cv.bnd fun v5 m6 e7 => ?_
    have C8 := kc_X6_isSign m (42 : Int32) hS v5 m6 e7
    refine Cv.go (pc' := 11) (st' := [.int (bz v5)]) (go_callV (As := [.int (42 : Int32)]) (st := []) C8 (by decide) ok_X6_isSign li_X6_isSign ls_X6_isSign lm_X6_198 cls6 (sx_k40 hS) rfl rfl (Nat.le_of_ble_eq_true rfl) dX6_term4_8) ?_
    have zm6 := C8.1.2.2 rfl
    have hS := hS.sh zm6
    refine Cv.ite (fun h9 => ?_) (fun h9 => ?_)
    · refine Cv.go (pc' := 28) (go_if_eq_t (tgt := 28) dX6_term4_11 rfl h9) ?_
      refine Cv.go (pc' := 29) (go_iload_n (i := 1) (x := a1) dX6_term4_28 rfl rfl) ?_
      exact Cv.ret dX6_term4_29 rfl
    · refine Cv.go (pc' := 14) (go_if_eq_f 28 dX6_term4_11 rfl h9) ?_
      refine Cv.go (pc' := 15) (go_aload_n (i := 0) (x := 40) dX6_term4_14 rfl rfl) ?_
      refine Cv.bnd fun v10 m11 e12 => ?_
      have C13 := kc_X6_next m6 hS v10 m11 e12
      refine Cv.go (pc' := 18) (st' := []) (go_callV (As := []) (st := []) C13 (by decide) ok_X6_next li_X6_next ls_X6_next lm_X6_173 cls6 (sx_k40 hS) rfl rfl (Nat.le_of_ble_eq_true rfl) dX6_term4_15) ?_
      have zm11 := C13.1.2.2 rfl
      have hS := hS.sh zm11
      refine Cv.go (pc' := 19) (go_iload_n (i := 1) (x := a1) dX6_term4_18 rfl rfl) ?_
      refine Cv.go (pc' := 20) (go_aload_n (i := 0) (x := 40) dX6_term4_19 rfl rfl) ?_
      refine Cv.bnd fun v14 m15 e16 => ?_
      have C17 := kc_X6_atom4 m11 hS v14 m15 e16
      refine Cv.go (pc' := 23) (st' := [.int v14, .int a1]) (go_callV (As := []) (st := [.int a1]) C17 (by decide) ok_X6_atom4 li_X6_atom4 ls_X6_atom4 lm_X6_231 cls6 (sx_k40 hS) rfl rfl (Nat.le_of_ble_eq_true rfl) dX6_term4_20) ?_
      have zm15 := C17.1.2.2 rfl
      have hS := hS.sh zm15
      refine Cv.go (pc' := 24) (go_imul dX6_term4_23) ?_
      refine Cv.namI fun x18 ex18 => ?_
      refine Cv.go (pc' := 25) (ls' := [.ref 40, .int x18]) (go_istore_n dX6_term4_24 rfl (by decide) rfl) ?_
      refine Cv.go (pc' := 5) (go_goto (tgt := 5) dX6_term4_25 rfl) ?_
      exact ih m15 x18 hS
theorem kc_X6_term4 (m : Mem) (hS : ShM m) : ∀ v mE, F_X6_term4 m = some (v, mE) → Con true kX6_term4 11 [.ref 40] m (eI v) mE := by
  refine Con.of (ini := false) (ls0 := [.ref 40, .null]) (ri := .ireturn) (by decide) (by intro z; cases z) rfl (Nat.le_of_ble_eq_true rfl) (fun v mE _ => RetTy.i) ?_
  show Cv true (cX6_term4, 2, RX6, 11, ((false, none) : IK)) .ireturn eI (F_X6_term4 m) m 0 [.ref 40, .null] []
  unfold F_X6_term4
  refine Cv.go (pc' := 1) (go_aload_n (i := 0) (x := 40) dX6_term4_0 rfl rfl) ?_
  refine Cv.bnd fun v1 m2 e3 => ?_
  have C4 := kc_X6_atom4 m hS v1 m2 e3
  refine Cv.go (pc' := 4) (st' := [.int v1]) (go_callV (As := []) (st := []) C4 (by decide) ok_X6_atom4 li_X6_atom4 ls_X6_atom4 lm_X6_231 cls6 (sx_k40 hS) rfl rfl (Nat.le_of_ble_eq_true rfl) dX6_term4_1) ?_
  have zm2 := C4.1.2.2 rfl
  have hS := hS.sh zm2
  refine Cv.go (pc' := 5) (ls' := [.ref 40, .int v1]) (go_istore_n dX6_term4_4 rfl (by decide) rfl) ?_
  exact c_X6_term4_5 FU m2 v1 hS
theorem c_X6_added4_62 (K5 : Mem → Int32 → Option (Int32 × Mem)) (hK5 : ∀ (m : Mem) (a1 : Int32) (hS : ShM m), Cv true (cX6_added4, 4, RX6, 12, ((false, none) : IK)) .ireturn eI (K5 m a1) m 5 [.ref 40, .int a1, .null, .null] []) : ∀ (m : Mem) (s0 : Int32) (hS : ShM m), Cv true (cX6_added4, 4, RX6, 12, ((false, none) : IK)) .ireturn eI (F_X6_added4_62 K5 m s0) m 62 [.ref 40, .null, .null, .null] [.int s0] := by
  intro m s0 hS
  unfold F_X6_added4_62
  refine Cv.go (pc' := 63) (ls' := [.ref 40, .int s0, .null, .null]) (go_istore_n dX6_added4_62 rfl (by decide) rfl) ?_
  refine Cv.go (pc' := 5) (go_goto (tgt := 5) dX6_added4_63 rfl) ?_
  exact hK5 m s0 hS
theorem c_X6_added4_39 (K5 : Mem → Int32 → Option (Int32 × Mem)) (hK5 : ∀ (m : Mem) (a1 : Int32) (hS : ShM m), Cv true (cX6_added4, 4, RX6, 12, ((false, none) : IK)) .ireturn eI (K5 m a1) m 5 [.ref 40, .int a1, .null, .null] []) : ∀ (m : Mem) (a1 : Int32) (s0 : Int32) (hS : ShM m), Cv true (cX6_added4, 4, RX6, 12, ((false, none) : IK)) .ireturn eI (F_X6_added4_39 K5 m a1 s0) m 39 [.ref 40, .int a1, .null, .null] [.int s0] := by
  intro m a1 s0 hS
  unfold F_X6_added4_39
  refine Cv.go (pc' := 40) (ls' := [.ref 40, .int a1, .int s0, .null]) (go_istore_n dX6_added4_39 rfl (by decide) rfl) ?_
  refine Cv.go (pc' := 41) (go_aload_n (i := 0) (x := 40) dX6_added4_40 rfl rfl) ?_
  refine Cv.bnd fun v16 m17 e18 => ?_
  have C19 := kc_X6_next m hS v16 m17 e18
  refine Cv.go (pc' := 44) (st' := []) (go_callV (As := []) (st := []) C19 (by decide) ok_X6_next li_X6_next ls_X6_next lm_X6_173 cls6 (sx_k40 hS) rfl rfl (Nat.le_of_ble_eq_true rfl) dX6_added4_41) ?_
  have zm17 := C19.1.2.2 rfl
  have hS := hS.sh zm17
  refine Cv.go (pc' := 45) (go_aload_n (i := 0) (x := 40) dX6_added4_44 rfl rfl) ?_
  refine Cv.bnd fun v20 m21 e22 => ?_
  have C23 := kc_X6_term4 m17 hS v20 m21 e22
  refine Cv.go (pc' := 48) (st' := [.int v20]) (go_callV (As := []) (st := []) C23 (by decide) ok_X6_term4 li_X6_term4 ls_X6_term4 lm_X6_234 cls6 (sx_k40 hS) rfl rfl (Nat.le_of_ble_eq_true rfl) dX6_added4_45) ?_
  have zm21 := C23.1.2.2 rfl
  have hS := hS.sh zm21
  refine Cv.go (pc' := 49) (ls' := [.ref 40, .int a1, .int s0, .int v20]) (go_istore_n dX6_added4_48 rfl (by decide) rfl) ?_
  refine Cv.go (pc' := 50) (go_iload_n (i := 2) (x := s0) dX6_added4_49 rfl rfl) ?_
  refine Cv.ite (fun h24 => ?_) (fun h24 => ?_)
  · refine Cv.go (pc' := 59) (go_if_eq_t (tgt := 59) dX6_added4_50 rfl h24) ?_
    refine Cv.go (pc' := 60) (go_iload_n (i := 1) (x := a1) dX6_added4_59 rfl rfl) ?_
    refine Cv.go (pc' := 61) (go_iload_n (i := 3) (x := v20) dX6_added4_60 rfl rfl) ?_
    refine Cv.go (pc' := 62) (go_isub dX6_added4_61) ?_
    refine Cv.weak (ls' := [.ref 40, .null, .null, .null]) (⟨Or.inr rfl, ⟨Or.inl rfl, ⟨Or.inl rfl, ⟨Or.inl rfl, True.intro⟩⟩⟩⟩) ?_
    exact c_X6_added4_62 K5 hK5 m21 (a1 - v20) hS
  · refine Cv.go (pc' := 53) (go_if_eq_f 59 dX6_added4_50 rfl h24) ?_
    refine Cv.go (pc' := 54) (go_iload_n (i := 1) (x := a1) dX6_added4_53 rfl rfl) ?_
    refine Cv.go (pc' := 55) (go_iload_n (i := 3) (x := v20) dX6_added4_54 rfl rfl) ?_
    refine Cv.go (pc' := 56) (go_iadd dX6_added4_55) ?_
    refine Cv.go (pc' := 62) (go_goto (tgt := 62) dX6_added4_56 rfl) ?_
    refine Cv.weak (ls' := [.ref 40, .null, .null, .null]) (⟨Or.inr rfl, ⟨Or.inl rfl, ⟨Or.inl rfl, ⟨Or.inl rfl, True.intro⟩⟩⟩⟩) ?_
    exact c_X6_added4_62 K5 hK5 m21 (a1 + v20) hS
theorem c_X6_added4_23 (K5 : Mem → Int32 → Option (Int32 × Mem)) (hK5 : ∀ (m : Mem) (a1 : Int32) (hS : ShM m), Cv true (cX6_added4, 4, RX6, 12, ((false, none) : IK)) .ireturn eI (K5 m a1) m 5 [.ref 40, .int a1, .null, .null] []) : ∀ (m : Mem) (a1 : Int32) (hS : ShM m), Cv true (cX6_added4, 4, RX6, 12, ((false, none) : IK)) .ireturn eI (F_X6_added4_23 K5 m a1) m 23 [.ref 40, .int a1, .null, .null] [] := by
  intro m a1 hS
  unfold F_X6_added4_23
  refine Cv.go (pc' := 24) (go_aload_n (i := 0) (x := 40) dX6_added4_23 rfl rfl) ?_
  refine Cv.go (pc' := 27) (go_getL (i := 22) cls6 (sx_k40 hS) (by decide) rfl lf_X6_150 rfl dX6_added4_24) ?_
  refine Cv.go (pc' := 30) (go_ldc2 dX6_added4_27 ll_X6_215) ?_
  refine Cv.go (pc' := 31) (go_lcmp dX6_added4_30) ?_
  refine Cv.ite (fun h15 => ?_) (fun h15 => ?_)
  · refine Cv.go (pc' := 34) (go_if_ne_f 38 dX6_added4_31 rfl h15) ?_
    refine Cv.go (pc' := 35) (go_iconst dX6_added4_34 ic_1) ?_
    refine Cv.go (pc' := 39) (go_goto (tgt := 39) dX6_added4_35 rfl) ?_
    exact c_X6_added4_39 K5 hK5 m a1 (1 : Int32) hS
  · refine Cv.go (pc' := 38) (go_if_ne_t (tgt := 38) dX6_added4_31 rfl h15) ?_
    refine Cv.go (pc' := 39) (go_iconst dX6_added4_38 ic_0) ?_
    exact c_X6_added4_39 K5 hK5 m a1 (0 : Int32) hS
theorem c_X6_added4_5 : ∀ n, ∀ (m : Mem) (a1 : Int32) (hS : ShM m), Cv true (cX6_added4, 4, RX6, 12, ((false, none) : IK)) .ireturn eI (F_X6_added4_5 n m a1) m 5 [.ref 40, .int a1, .null, .null] [] := by
  intro n
  induction n with
  | zero => intro m a1 hS; exact Cv.no
  | succ n ih =>
    intro m a1 hS
    unfold F_X6_added4_5
    refine Cv.go (pc' := 6) (go_aload_n (i := 0) (x := 40) dX6_added4_5 rfl rfl) ?_
    refine Cv.go (pc' := 8) (go_bipush dX6_added4_6 ib_43) ?_
    refine Cv.bnd fun v5 m6 e7 => ?_
    have C8 := kc_X6_isSign m (43 : Int32) hS v5 m6 e7
    refine Cv.go (pc' := 11) (st' := [.int (bz v5)]) (go_callV (As := [.int (43 : Int32)]) (st := []) C8 (by decide) ok_X6_isSign li_X6_isSign ls_X6_isSign lm_X6_198 cls6 (sx_k40 hS) rfl rfl (Nat.le_of_ble_eq_true rfl) dX6_added4_8) ?_
    have zm6 := C8.1.2.2 rfl
    have hS := hS.sh zm6
    refine Cv.ite (fun h9 => ?_) (fun h9 => ?_)
    · refine Cv.go (pc' := 14) (go_if_ne_f 23 dX6_added4_11 rfl h9) ?_
      refine Cv.go (pc' := 15) (go_aload_n (i := 0) (x := 40) dX6_added4_14 rfl rfl) ?_
      refine Cv.go (pc' := 17) (go_bipush dX6_added4_15 ib_45) ?_
      refine Cv.bnd fun v10 m11 e12 => ?_
      have C13 := kc_X6_isSign m6 (45 : Int32) hS v10 m11 e12
      refine Cv.go (pc' := 20) (st' := [.int (bz v10)]) (go_callV (As := [.int (45 : Int32)]) (st := []) C13 (by decide) ok_X6_isSign li_X6_isSign ls_X6_isSign lm_X6_198 cls6 (sx_k40 hS) rfl rfl (Nat.le_of_ble_eq_true rfl) dX6_added4_17) ?_
      have zm11 := C13.1.2.2 rfl
      have hS := hS.sh zm11
      refine Cv.ite (fun h14 => ?_) (fun h14 => ?_)
      · refine Cv.go (pc' := 66) (go_if_eq_t (tgt := 66) dX6_added4_20 rfl h14) ?_
        refine Cv.go (pc' := 67) (go_iload_n (i := 1) (x := a1) dX6_added4_66 rfl rfl) ?_
        exact Cv.ret dX6_added4_67 rfl
      · refine Cv.go (pc' := 23) (go_if_eq_f 66 dX6_added4_20 rfl h14) ?_
        exact c_X6_added4_23 (F_X6_added4_5 n) ih m11 a1 hS
    · refine Cv.go (pc' := 23) (go_if_ne_t (tgt := 23) dX6_added4_11 rfl h9) ?_
      exact c_X6_added4_23 (F_X6_added4_5 n) ih m6 a1 hS
theorem kc_X6_added4 (m : Mem) (hS : ShM m) : ∀ v mE, F_X6_added4 m = some (v, mE) → Con true kX6_added4 12 [.ref 40] m (eI v) mE := by
  refine Con.of (ini := false) (ls0 := [.ref 40, .null, .null, .null]) (ri := .ireturn) (by decide) (by intro z; cases z) rfl (Nat.le_of_ble_eq_true rfl) (fun v mE _ => RetTy.i) ?_
  show Cv true (cX6_added4, 4, RX6, 12, ((false, none) : IK)) .ireturn eI (F_X6_added4 m) m 0 [.ref 40, .null, .null, .null] []
  unfold F_X6_added4
  refine Cv.go (pc' := 1) (go_aload_n (i := 0) (x := 40) dX6_added4_0 rfl rfl) ?_
  refine Cv.bnd fun v1 m2 e3 => ?_
  have C4 := kc_X6_term4 m hS v1 m2 e3
  refine Cv.go (pc' := 4) (st' := [.int v1]) (go_callV (As := []) (st := []) C4 (by decide) ok_X6_term4 li_X6_term4 ls_X6_term4 lm_X6_234 cls6 (sx_k40 hS) rfl rfl (Nat.le_of_ble_eq_true rfl) dX6_added4_1) ?_
  have zm2 := C4.1.2.2 rfl
  have hS := hS.sh zm2
  refine Cv.go (pc' := 5) (ls' := [.ref 40, .int v1, .null, .null]) (go_istore_n dX6_added4_4 rfl (by decide) rfl) ?_
  exact c_X6_added4_5 FU m2 v1 hS
theorem c_X6_not4_93 : ∀ (m : Mem) (a1 : Int32) (s0 : Int32) (hS : ShM m), Cv true (cX6_not4, 4, RX6, 13, ((false, none) : IK)) .ireturn eI (F_X6_not4_93 m a1 s0) m 93 [.ref 40, .int a1, .null, .null] [.int s0] := by
  intro m a1 s0 hS
  unfold F_X6_not4_93
  refine Cv.go (pc' := 94) (ls' := [.ref 40, .int a1, .int s0, .null]) (go_istore_n dX6_not4_93 rfl (by decide) rfl) ?_
  refine Cv.go (pc' := 95) (go_aload_n (i := 0) (x := 40) dX6_not4_94 rfl rfl) ?_
  refine Cv.bnd fun v32 m33 e34 => ?_
  have C35 := kc_X6_next m hS v32 m33 e34
  refine Cv.go (pc' := 98) (st' := []) (go_callV (As := []) (st := []) C35 (by decide) ok_X6_next li_X6_next ls_X6_next lm_X6_173 cls6 (sx_k40 hS) rfl rfl (Nat.le_of_ble_eq_true rfl) dX6_not4_95) ?_
  have zm33 := C35.1.2.2 rfl
  have hS := hS.sh zm33
  refine Cv.go (pc' := 99) (go_aload_n (i := 0) (x := 40) dX6_not4_98 rfl rfl) ?_
  refine Cv.bnd fun v36 m37 e38 => ?_
  have C39 := kc_X6_added4 m33 hS v36 m37 e38
  refine Cv.go (pc' := 102) (st' := [.int v36]) (go_callV (As := []) (st := []) C39 (by decide) ok_X6_added4 li_X6_added4 ls_X6_added4 lm_X6_237 cls6 (sx_k40 hS) rfl rfl (Nat.le_of_ble_eq_true rfl) dX6_not4_99) ?_
  have zm37 := C39.1.2.2 rfl
  have hS := hS.sh zm37
  refine Cv.go (pc' := 103) (ls' := [.ref 40, .int a1, .int s0, .int v36]) (go_istore_n dX6_not4_102 rfl (by decide) rfl) ?_
  refine Cv.go (pc' := 104) (go_iload_n (i := 2) (x := s0) dX6_not4_103 rfl rfl) ?_
  refine Cv.ite (fun h40 => ?_) (fun h40 => ?_)
  · refine Cv.go (pc' := 115) (go_if_eq_t (tgt := 115) dX6_not4_104 rfl h40) ?_
    refine Cv.go (pc' := 116) (go_iload_n (i := 1) (x := a1) dX6_not4_115 rfl rfl) ?_
    refine Cv.go (pc' := 117) (go_iload_n (i := 3) (x := v36) dX6_not4_116 rfl rfl) ?_
    refine Cv.ite (fun h41 => ?_) (fun h41 => ?_)
    · refine Cv.go (pc' := 120) (go_icmp_ne_f 124 dX6_not4_117 rfl h41) ?_
      refine Cv.go (pc' := 121) (go_iconst dX6_not4_120 ic_1) ?_
      refine Cv.go (pc' := 125) (go_goto (tgt := 125) dX6_not4_121 rfl) ?_
      exact Cv.ret dX6_not4_125 rfl
    · refine Cv.go (pc' := 124) (go_icmp_ne_t (tgt := 124) dX6_not4_117 rfl h41) ?_
      refine Cv.go (pc' := 125) (go_iconst dX6_not4_124 ic_0) ?_
      exact Cv.ret dX6_not4_125 rfl
  · refine Cv.go (pc' := 107) (go_if_eq_f 115 dX6_not4_104 rfl h40) ?_
    refine Cv.go (pc' := 108) (go_iload_n (i := 1) (x := a1) dX6_not4_107 rfl rfl) ?_
    refine Cv.go (pc' := 109) (go_iload_n (i := 3) (x := v36) dX6_not4_108 rfl rfl) ?_
    refine Cv.ite (fun h42 => ?_) (fun h42 => ?_)
    · refine Cv.go (pc' := 124) (go_icmp_ge_t (tgt := 124) dX6_not4_109 rfl h42) ?_
      refine Cv.go (pc' := 125) (go_iconst dX6_not4_124 ic_0) ?_
      exact Cv.ret dX6_not4_125 rfl
    · refine Cv.go (pc' := 112) (go_icmp_ge_f 124 dX6_not4_109 rfl h42) ?_
      refine Cv.go (pc' := 120) (go_goto (tgt := 120) dX6_not4_112 rfl) ?_
      refine Cv.go (pc' := 121) (go_iconst dX6_not4_120 ic_1) ?_
      refine Cv.go (pc' := 125) (go_goto (tgt := 125) dX6_not4_121 rfl) ?_
      exact Cv.ret dX6_not4_125 rfl
theorem c_X6_not4_77 : ∀ (m : Mem) (a1 : Int32) (hS : ShM m), Cv true (cX6_not4, 4, RX6, 13, ((false, none) : IK)) .ireturn eI (F_X6_not4_77 m a1) m 77 [.ref 40, .int a1, .null, .null] [] := by
  intro m a1 hS
  unfold F_X6_not4_77
  refine Cv.go (pc' := 78) (go_aload_n (i := 0) (x := 40) dX6_not4_77 rfl rfl) ?_
  refine Cv.go (pc' := 81) (go_getL (i := 22) cls6 (sx_k40 hS) (by decide) rfl lf_X6_150 rfl dX6_not4_78) ?_
  refine Cv.go (pc' := 84) (go_ldc2 dX6_not4_81 ll_X6_220) ?_
  refine Cv.go (pc' := 85) (go_lcmp dX6_not4_84) ?_
  refine Cv.ite (fun h31 => ?_) (fun h31 => ?_)
  · refine Cv.go (pc' := 88) (go_if_ne_f 92 dX6_not4_85 rfl h31) ?_
    refine Cv.go (pc' := 89) (go_iconst dX6_not4_88 ic_1) ?_
    refine Cv.go (pc' := 93) (go_goto (tgt := 93) dX6_not4_89 rfl) ?_
    exact c_X6_not4_93 m a1 (1 : Int32) hS
  · refine Cv.go (pc' := 92) (go_if_ne_t (tgt := 92) dX6_not4_85 rfl h31) ?_
    refine Cv.go (pc' := 93) (go_iconst dX6_not4_92 ic_0) ?_
    exact c_X6_not4_93 m a1 (0 : Int32) hS
theorem kc_X6_not4 (m : Mem) (hS : ShM m) : ∀ v mE, F_X6_not4 m = some (v, mE) → Con true kX6_not4 13 [.ref 40] m (eI v) mE := by
  refine Con.of (ini := false) (ls0 := [.ref 40, .null, .null, .null]) (ri := .ireturn) (by decide) (by intro z; cases z) rfl (Nat.le_of_ble_eq_true rfl) (fun v mE _ => RetTy.i) ?_
  show Cv true (cX6_not4, 4, RX6, 13, ((false, none) : IK)) .ireturn eI (F_X6_not4 m) m 0 [.ref 40, .null, .null, .null] []
  unfold F_X6_not4
  refine Cv.go (pc' := 1) (go_aload_n (i := 0) (x := 40) dX6_not4_0 rfl rfl) ?_
  refine Cv.go (pc' := 3) (go_bipush dX6_not4_1 ib_110) ?_
  refine Cv.go (pc' := 5) (go_bipush dX6_not4_3 ib_111) ?_
  refine Cv.go (pc' := 7) (go_bipush dX6_not4_5 ib_116) ?_
  refine Cv.go (pc' := 8) (go_iconst dX6_not4_7 ic_0) ?_
  refine Cv.go (pc' := 9) (go_iconst dX6_not4_8 ic_0) ?_
  refine Cv.go (pc' := 10) (go_iconst dX6_not4_9 ic_0) ?_
  refine Cv.go (pc' := 11) (go_iconst dX6_not4_10 ic_0) ?_
  refine Cv.go (pc' := 12) (go_iconst dX6_not4_11 ic_0) ?_
  refine Cv.bnd fun v1 m2 e3 => ?_
  have C4 := kc_X6_isWord m (110 : Int32) (111 : Int32) (116 : Int32) (0 : Int32) (0 : Int32) (0 : Int32) (0 : Int32) (0 : Int32) hS v1 m2 e3
  refine Cv.go (pc' := 15) (st' := [.int (bz v1)]) (go_callV (As := [.int (110 : Int32), .int (111 : Int32), .int (116 : Int32), .int (0 : Int32), .int (0 : Int32), .int (0 : Int32), .int (0 : Int32), .int (0 : Int32)]) (st := []) C4 (by decide) ok_X6_isWord li_X6_isWord ls_X6_isWord lm_X6_176 cls6 (sx_k40 hS) rfl rfl (Nat.le_of_ble_eq_true rfl) dX6_not4_12) ?_
  have zm2 := C4.1.2.2 rfl
  have hS := hS.sh zm2
  refine Cv.ite (fun h5 => ?_) (fun h5 => ?_)
  · refine Cv.go (pc' := 52) (go_if_eq_t (tgt := 52) dX6_not4_15 rfl h5) ?_
    refine Cv.go (pc' := 53) (go_aload_n (i := 0) (x := 40) dX6_not4_52 rfl rfl) ?_
    refine Cv.bnd fun v6 m7 e8 => ?_
    have C9 := kc_X6_added4 m2 hS v6 m7 e8
    refine Cv.go (pc' := 56) (st' := [.int v6]) (go_callV (As := []) (st := []) C9 (by decide) ok_X6_added4 li_X6_added4 ls_X6_added4 lm_X6_237 cls6 (sx_k40 hS) rfl rfl (Nat.le_of_ble_eq_true rfl) dX6_not4_53) ?_
    have zm7 := C9.1.2.2 rfl
    have hS := hS.sh zm7
    refine Cv.go (pc' := 57) (ls' := [.ref 40, .int v6, .null, .null]) (go_istore_n dX6_not4_56 rfl (by decide) rfl) ?_
    refine Cv.go (pc' := 58) (go_aload_n (i := 0) (x := 40) dX6_not4_57 rfl rfl) ?_
    refine Cv.go (pc' := 60) (go_bipush dX6_not4_58 ib_60) ?_
    refine Cv.bnd fun v10 m11 e12 => ?_
    have C13 := kc_X6_isSign m7 (60 : Int32) hS v10 m11 e12
    refine Cv.go (pc' := 63) (st' := [.int (bz v10)]) (go_callV (As := [.int (60 : Int32)]) (st := []) C13 (by decide) ok_X6_isSign li_X6_isSign ls_X6_isSign lm_X6_198 cls6 (sx_k40 hS) rfl rfl (Nat.le_of_ble_eq_true rfl) dX6_not4_60) ?_
    have zm11 := C13.1.2.2 rfl
    have hS := hS.sh zm11
    refine Cv.ite (fun h14 => ?_) (fun h14 => ?_)
    · refine Cv.go (pc' := 66) (go_if_ne_f 77 dX6_not4_63 rfl h14) ?_
      refine Cv.go (pc' := 67) (go_aload_n (i := 0) (x := 40) dX6_not4_66 rfl rfl) ?_
      refine Cv.go (pc' := 69) (go_bipush dX6_not4_67 ib_61) ?_
      refine Cv.bnd fun v15 m16 e17 => ?_
      have C18 := kc_X6_isSign m11 (61 : Int32) hS v15 m16 e17
      refine Cv.go (pc' := 72) (st' := [.int (bz v15)]) (go_callV (As := [.int (61 : Int32)]) (st := []) C18 (by decide) ok_X6_isSign li_X6_isSign ls_X6_isSign lm_X6_198 cls6 (sx_k40 hS) rfl rfl (Nat.le_of_ble_eq_true rfl) dX6_not4_69) ?_
      have zm16 := C18.1.2.2 rfl
      have hS := hS.sh zm16
      refine Cv.ite (fun h19 => ?_) (fun h19 => ?_)
      · refine Cv.go (pc' := 75) (go_if_ne_f 77 dX6_not4_72 rfl h19) ?_
        refine Cv.go (pc' := 76) (go_iload_n (i := 1) (x := v6) dX6_not4_75 rfl rfl) ?_
        exact Cv.ret dX6_not4_76 rfl
      · refine Cv.go (pc' := 77) (go_if_ne_t (tgt := 77) dX6_not4_72 rfl h19) ?_
        exact c_X6_not4_77 m16 v6 hS
    · refine Cv.go (pc' := 77) (go_if_ne_t (tgt := 77) dX6_not4_63 rfl h14) ?_
      exact c_X6_not4_77 m11 v6 hS
  · refine Cv.go (pc' := 18) (go_if_eq_f 52 dX6_not4_15 rfl h5) ?_
    refine Cv.go (pc' := 19) (go_aload_n (i := 0) (x := 40) dX6_not4_18 rfl rfl) ?_
    refine Cv.bnd fun v20 m21 e22 => ?_
    have C23 := kc_X6_opens m2 hS v20 m21 e22
    refine Cv.go (pc' := 22) (st' := [.int (bz v20)]) (go_callV (As := []) (st := []) C23 (by decide) ok_X6_opens li_X6_opens ls_X6_opens lm_X6_201 cls6 (sx_k40 hS) rfl rfl (Nat.le_of_ble_eq_true rfl) dX6_not4_19) ?_
    have zm21 := C23.1.2.2 rfl
    have hS := hS.sh zm21
    refine Cv.ite (fun h24 => ?_) (fun h24 => ?_)
    · refine Cv.go (pc' := 25) (go_if_ne_f 27 dX6_not4_22 rfl h24) ?_
      refine Cv.go (pc' := 26) (go_iconst dX6_not4_25 ic_0) ?_
      exact Cv.ret dX6_not4_26 rfl
    · refine Cv.go (pc' := 27) (go_if_ne_t (tgt := 27) dX6_not4_22 rfl h24) ?_
      refine Cv.go (pc' := 28) (go_aload_n (i := 0) (x := 40) dX6_not4_27 rfl rfl) ?_
      refine Cv.bnd fun v25 m26 e27 => ?_
      have C28 := kc_X6_not5 m21 hS v25 m26 e27
      refine Cv.go (pc' := 31) (st' := [.int v25]) (go_callV (As := []) (st := []) C28 (by decide) ok_X6_not5 li_X6_not5 ls_X6_not5 lm_X6_222 cls6 (sx_k40 hS) rfl rfl (Nat.le_of_ble_eq_true rfl) dX6_not4_28) ?_
      have zm26 := C28.1.2.2 rfl
      have hS := hS.sh zm26
      refine Cv.go (pc' := 32) (ls' := [.ref 40, .int v25, .null, .null]) (go_istore_n dX6_not4_31 rfl (by decide) rfl) ?_
      refine Cv.go (pc' := 33) (go_aload_n (i := 0) (x := 40) dX6_not4_32 rfl rfl) ?_
      refine Cv.go (pc' := 34) (go_dup_a dX6_not4_33) ?_
      refine Cv.go (pc' := 37) (go_getI (i := 23) cls6 (sx_k40 hS) (by decide) rfl lf_X6_167 (by decide) dX6_not4_34) ?_
      refine Cv.go (pc' := 38) (go_iconst dX6_not4_37 ic_1) ?_
      refine Cv.go (pc' := 39) (go_isub dX6_not4_38) ?_
      refine Cv.go (pc' := 42) (go_putI (i := 23) cls6 (sx_k40 hS) (by decide) rfl lf_X6_167 (by decide) rfl rfl rfl dX6_not4_39) ?_
      refine Cv.namM fun m29 em29 => ?_
      have zm29 : SameSh m26 m29 := em29 ▸ SameSh.d
      have hS := hS.sh zm29
      refine Cv.go (pc' := 43) (go_iload_n (i := 1) (x := v25) dX6_not4_42 rfl rfl) ?_
      refine Cv.ite (fun h30 => ?_) (fun h30 => ?_)
      · refine Cv.go (pc' := 46) (go_if_ne_f 50 dX6_not4_43 rfl h30) ?_
        refine Cv.go (pc' := 47) (go_iconst dX6_not4_46 ic_1) ?_
        refine Cv.go (pc' := 51) (go_goto (tgt := 51) dX6_not4_47 rfl) ?_
        exact Cv.ret dX6_not4_51 rfl
      · refine Cv.go (pc' := 50) (go_if_ne_t (tgt := 50) dX6_not4_43 rfl h30) ?_
        refine Cv.go (pc' := 51) (go_iconst dX6_not4_50 ic_0) ?_
        exact Cv.ret dX6_not4_51 rfl
theorem c_X6_both4_45 (K5 : Mem → Int32 → Option (Int32 × Mem)) (hK5 : ∀ (m : Mem) (a1 : Int32) (hS : ShM m), Cv true (cX6_both4, 3, RX6, 14, ((false, none) : IK)) .ireturn eI (K5 m a1) m 5 [.ref 40, .int a1, .null] []) : ∀ (m : Mem) (s0 : Int32) (hS : ShM m), Cv true (cX6_both4, 3, RX6, 14, ((false, none) : IK)) .ireturn eI (F_X6_both4_45 K5 m s0) m 45 [.ref 40, .null, .null] [.int s0] := by
  intro m s0 hS
  unfold F_X6_both4_45
  refine Cv.go (pc' := 46) (ls' := [.ref 40, .int s0, .null]) (go_istore_n dX6_both4_45 rfl (by decide) rfl) ?_
  refine Cv.go (pc' := 5) (go_goto (tgt := 5) dX6_both4_46 rfl) ?_
  exact hK5 m s0 hS
theorem c_X6_both4_44 (K5 : Mem → Int32 → Option (Int32 × Mem)) (hK5 : ∀ (m : Mem) (a1 : Int32) (hS : ShM m), Cv true (cX6_both4, 3, RX6, 14, ((false, none) : IK)) .ireturn eI (K5 m a1) m 5 [.ref 40, .int a1, .null] []) : ∀ (m : Mem) (hS : ShM m), Cv true (cX6_both4, 3, RX6, 14, ((false, none) : IK)) .ireturn eI (F_X6_both4_44 K5 m) m 44 [.ref 40, .null, .null] [] := by
  intro m hS
  unfold F_X6_both4_44
  refine Cv.go (pc' := 45) (go_iconst dX6_both4_44 ic_0) ?_
  exact c_X6_both4_45 K5 hK5 m (0 : Int32) hS
theorem c_X6_both4_5 : ∀ n, ∀ (m : Mem) (a1 : Int32) (hS : ShM m), Cv true (cX6_both4, 3, RX6, 14, ((false, none) : IK)) .ireturn eI (F_X6_both4_5 n m a1) m 5 [.ref 40, .int a1, .null] [] := by
  intro n
  induction n with
  | zero => intro m a1 hS; exact Cv.no
  | succ n ih =>
    intro m a1 hS
    unfold F_X6_both4_5
    refine Cv.go (pc' := 6) (go_aload_n (i := 0) (x := 40) dX6_both4_5 rfl rfl) ?_
    refine Cv.go (pc' := 8) (go_bipush dX6_both4_6 ib_97) ?_
    refine Cv.go (pc' := 10) (go_bipush dX6_both4_8 ib_110) ?_
    refine Cv.go (pc' := 12) (go_bipush dX6_both4_10 ib_100) ?_
    refine Cv.go (pc' := 13) (go_iconst dX6_both4_12 ic_0) ?_
    refine Cv.go (pc' := 14) (go_iconst dX6_both4_13 ic_0) ?_
    refine Cv.go (pc' := 15) (go_iconst dX6_both4_14 ic_0) ?_
    refine Cv.go (pc' := 16) (go_iconst dX6_both4_15 ic_0) ?_
    refine Cv.go (pc' := 17) (go_iconst dX6_both4_16 ic_0) ?_
    refine Cv.bnd fun v5 m6 e7 => ?_
    have C8 := kc_X6_isWord m (97 : Int32) (110 : Int32) (100 : Int32) (0 : Int32) (0 : Int32) (0 : Int32) (0 : Int32) (0 : Int32) hS v5 m6 e7
    refine Cv.go (pc' := 20) (st' := [.int (bz v5)]) (go_callV (As := [.int (97 : Int32), .int (110 : Int32), .int (100 : Int32), .int (0 : Int32), .int (0 : Int32), .int (0 : Int32), .int (0 : Int32), .int (0 : Int32)]) (st := []) C8 (by decide) ok_X6_isWord li_X6_isWord ls_X6_isWord lm_X6_176 cls6 (sx_k40 hS) rfl rfl (Nat.le_of_ble_eq_true rfl) dX6_both4_17) ?_
    have zm6 := C8.1.2.2 rfl
    have hS := hS.sh zm6
    refine Cv.ite (fun h9 => ?_) (fun h9 => ?_)
    · refine Cv.go (pc' := 49) (go_if_eq_t (tgt := 49) dX6_both4_20 rfl h9) ?_
      refine Cv.go (pc' := 50) (go_iload_n (i := 1) (x := a1) dX6_both4_49 rfl rfl) ?_
      exact Cv.ret dX6_both4_50 rfl
    · refine Cv.go (pc' := 23) (go_if_eq_f 49 dX6_both4_20 rfl h9) ?_
      refine Cv.go (pc' := 24) (go_aload_n (i := 0) (x := 40) dX6_both4_23 rfl rfl) ?_
      refine Cv.bnd fun v10 m11 e12 => ?_
      have C13 := kc_X6_next m6 hS v10 m11 e12
      refine Cv.go (pc' := 27) (st' := []) (go_callV (As := []) (st := []) C13 (by decide) ok_X6_next li_X6_next ls_X6_next lm_X6_173 cls6 (sx_k40 hS) rfl rfl (Nat.le_of_ble_eq_true rfl) dX6_both4_24) ?_
      have zm11 := C13.1.2.2 rfl
      have hS := hS.sh zm11
      refine Cv.go (pc' := 28) (go_aload_n (i := 0) (x := 40) dX6_both4_27 rfl rfl) ?_
      refine Cv.bnd fun v14 m15 e16 => ?_
      have C17 := kc_X6_not4 m11 hS v14 m15 e16
      refine Cv.go (pc' := 31) (st' := [.int v14]) (go_callV (As := []) (st := []) C17 (by decide) ok_X6_not4 li_X6_not4 ls_X6_not4 lm_X6_240 cls6 (sx_k40 hS) rfl rfl (Nat.le_of_ble_eq_true rfl) dX6_both4_28) ?_
      have zm15 := C17.1.2.2 rfl
      have hS := hS.sh zm15
      refine Cv.go (pc' := 32) (ls' := [.ref 40, .int a1, .int v14]) (go_istore_n dX6_both4_31 rfl (by decide) rfl) ?_
      refine Cv.go (pc' := 33) (go_iload_n (i := 1) (x := a1) dX6_both4_32 rfl rfl) ?_
      refine Cv.ite (fun h18 => ?_) (fun h18 => ?_)
      · refine Cv.go (pc' := 44) (go_if_eq_t (tgt := 44) dX6_both4_33 rfl h18) ?_
        refine Cv.weak (ls' := [.ref 40, .null, .null]) (⟨Or.inr rfl, ⟨Or.inl rfl, ⟨Or.inl rfl, True.intro⟩⟩⟩) ?_
        exact c_X6_both4_44 (F_X6_both4_5 n) ih m15 hS
      · refine Cv.go (pc' := 36) (go_if_eq_f 44 dX6_both4_33 rfl h18) ?_
        refine Cv.go (pc' := 37) (go_iload_n (i := 2) (x := v14) dX6_both4_36 rfl rfl) ?_
        refine Cv.ite (fun h19 => ?_) (fun h19 => ?_)
        · refine Cv.go (pc' := 44) (go_if_eq_t (tgt := 44) dX6_both4_37 rfl h19) ?_
          refine Cv.weak (ls' := [.ref 40, .null, .null]) (⟨Or.inr rfl, ⟨Or.inl rfl, ⟨Or.inl rfl, True.intro⟩⟩⟩) ?_
          exact c_X6_both4_44 (F_X6_both4_5 n) ih m15 hS
        · refine Cv.go (pc' := 40) (go_if_eq_f 44 dX6_both4_37 rfl h19) ?_
          refine Cv.go (pc' := 41) (go_iconst dX6_both4_40 ic_1) ?_
          refine Cv.go (pc' := 45) (go_goto (tgt := 45) dX6_both4_41 rfl) ?_
          refine Cv.weak (ls' := [.ref 40, .null, .null]) (⟨Or.inr rfl, ⟨Or.inl rfl, ⟨Or.inl rfl, True.intro⟩⟩⟩) ?_
          exact c_X6_both4_45 (F_X6_both4_5 n) ih m15 (1 : Int32) hS
theorem kc_X6_both4 (m : Mem) (hS : ShM m) : ∀ v mE, F_X6_both4 m = some (v, mE) → Con true kX6_both4 14 [.ref 40] m (eI v) mE := by
  refine Con.of (ini := false) (ls0 := [.ref 40, .null, .null]) (ri := .ireturn) (by decide) (by intro z; cases z) rfl (Nat.le_of_ble_eq_true rfl) (fun v mE _ => RetTy.i) ?_
  show Cv true (cX6_both4, 3, RX6, 14, ((false, none) : IK)) .ireturn eI (F_X6_both4 m) m 0 [.ref 40, .null, .null] []
  unfold F_X6_both4
  refine Cv.go (pc' := 1) (go_aload_n (i := 0) (x := 40) dX6_both4_0 rfl rfl) ?_
  refine Cv.bnd fun v1 m2 e3 => ?_
  have C4 := kc_X6_not4 m hS v1 m2 e3
  refine Cv.go (pc' := 4) (st' := [.int v1]) (go_callV (As := []) (st := []) C4 (by decide) ok_X6_not4 li_X6_not4 ls_X6_not4 lm_X6_240 cls6 (sx_k40 hS) rfl rfl (Nat.le_of_ble_eq_true rfl) dX6_both4_1) ?_
  have zm2 := C4.1.2.2 rfl
  have hS := hS.sh zm2
  refine Cv.go (pc' := 5) (ls' := [.ref 40, .int v1, .null]) (go_istore_n dX6_both4_4 rfl (by decide) rfl) ?_
  exact c_X6_both4_5 FU m2 v1 hS
theorem c_X6_either4_44 (K5 : Mem → Int32 → Option (Int32 × Mem)) (hK5 : ∀ (m : Mem) (a1 : Int32) (hS : ShM m), Cv true (cX6_either4, 3, RX6, 15, ((false, none) : IK)) .ireturn eI (K5 m a1) m 5 [.ref 40, .int a1, .null] []) : ∀ (m : Mem) (s0 : Int32) (hS : ShM m), Cv true (cX6_either4, 3, RX6, 15, ((false, none) : IK)) .ireturn eI (F_X6_either4_44 K5 m s0) m 44 [.ref 40, .null, .null] [.int s0] := by
  intro m s0 hS
  unfold F_X6_either4_44
  refine Cv.go (pc' := 45) (ls' := [.ref 40, .int s0, .null]) (go_istore_n dX6_either4_44 rfl (by decide) rfl) ?_
  refine Cv.go (pc' := 5) (go_goto (tgt := 5) dX6_either4_45 rfl) ?_
  exact hK5 m s0 hS
theorem c_X6_either4_39 (K5 : Mem → Int32 → Option (Int32 × Mem)) (hK5 : ∀ (m : Mem) (a1 : Int32) (hS : ShM m), Cv true (cX6_either4, 3, RX6, 15, ((false, none) : IK)) .ireturn eI (K5 m a1) m 5 [.ref 40, .int a1, .null] []) : ∀ (m : Mem) (hS : ShM m), Cv true (cX6_either4, 3, RX6, 15, ((false, none) : IK)) .ireturn eI (F_X6_either4_39 K5 m) m 39 [.ref 40, .null, .null] [] := by
  intro m hS
  unfold F_X6_either4_39
  refine Cv.go (pc' := 40) (go_iconst dX6_either4_39 ic_1) ?_
  refine Cv.go (pc' := 44) (go_goto (tgt := 44) dX6_either4_40 rfl) ?_
  exact c_X6_either4_44 K5 hK5 m (1 : Int32) hS
theorem c_X6_either4_5 : ∀ n, ∀ (m : Mem) (a1 : Int32) (hS : ShM m), Cv true (cX6_either4, 3, RX6, 15, ((false, none) : IK)) .ireturn eI (F_X6_either4_5 n m a1) m 5 [.ref 40, .int a1, .null] [] := by
  intro n
  induction n with
  | zero => intro m a1 hS; exact Cv.no
  | succ n ih =>
    intro m a1 hS
    unfold F_X6_either4_5
    refine Cv.go (pc' := 6) (go_aload_n (i := 0) (x := 40) dX6_either4_5 rfl rfl) ?_
    refine Cv.go (pc' := 8) (go_bipush dX6_either4_6 ib_111) ?_
    refine Cv.go (pc' := 10) (go_bipush dX6_either4_8 ib_114) ?_
    refine Cv.go (pc' := 11) (go_iconst dX6_either4_10 ic_0) ?_
    refine Cv.go (pc' := 12) (go_iconst dX6_either4_11 ic_0) ?_
    refine Cv.go (pc' := 13) (go_iconst dX6_either4_12 ic_0) ?_
    refine Cv.go (pc' := 14) (go_iconst dX6_either4_13 ic_0) ?_
    refine Cv.go (pc' := 15) (go_iconst dX6_either4_14 ic_0) ?_
    refine Cv.go (pc' := 16) (go_iconst dX6_either4_15 ic_0) ?_
    refine Cv.bnd fun v5 m6 e7 => ?_
    have C8 := kc_X6_isWord m (111 : Int32) (114 : Int32) (0 : Int32) (0 : Int32) (0 : Int32) (0 : Int32) (0 : Int32) (0 : Int32) hS v5 m6 e7
    refine Cv.go (pc' := 19) (st' := [.int (bz v5)]) (go_callV (As := [.int (111 : Int32), .int (114 : Int32), .int (0 : Int32), .int (0 : Int32), .int (0 : Int32), .int (0 : Int32), .int (0 : Int32), .int (0 : Int32)]) (st := []) C8 (by decide) ok_X6_isWord li_X6_isWord ls_X6_isWord lm_X6_176 cls6 (sx_k40 hS) rfl rfl (Nat.le_of_ble_eq_true rfl) dX6_either4_16) ?_
    have zm6 := C8.1.2.2 rfl
    have hS := hS.sh zm6
    refine Cv.ite (fun h9 => ?_) (fun h9 => ?_)
    · refine Cv.go (pc' := 48) (go_if_eq_t (tgt := 48) dX6_either4_19 rfl h9) ?_
      refine Cv.go (pc' := 49) (go_iload_n (i := 1) (x := a1) dX6_either4_48 rfl rfl) ?_
      exact Cv.ret dX6_either4_49 rfl
    · refine Cv.go (pc' := 22) (go_if_eq_f 48 dX6_either4_19 rfl h9) ?_
      refine Cv.go (pc' := 23) (go_aload_n (i := 0) (x := 40) dX6_either4_22 rfl rfl) ?_
      refine Cv.bnd fun v10 m11 e12 => ?_
      have C13 := kc_X6_next m6 hS v10 m11 e12
      refine Cv.go (pc' := 26) (st' := []) (go_callV (As := []) (st := []) C13 (by decide) ok_X6_next li_X6_next ls_X6_next lm_X6_173 cls6 (sx_k40 hS) rfl rfl (Nat.le_of_ble_eq_true rfl) dX6_either4_23) ?_
      have zm11 := C13.1.2.2 rfl
      have hS := hS.sh zm11
      refine Cv.go (pc' := 27) (go_aload_n (i := 0) (x := 40) dX6_either4_26 rfl rfl) ?_
      refine Cv.bnd fun v14 m15 e16 => ?_
      have C17 := kc_X6_both4 m11 hS v14 m15 e16
      refine Cv.go (pc' := 30) (st' := [.int v14]) (go_callV (As := []) (st := []) C17 (by decide) ok_X6_both4 li_X6_both4 ls_X6_both4 lm_X6_243 cls6 (sx_k40 hS) rfl rfl (Nat.le_of_ble_eq_true rfl) dX6_either4_27) ?_
      have zm15 := C17.1.2.2 rfl
      have hS := hS.sh zm15
      refine Cv.go (pc' := 31) (ls' := [.ref 40, .int a1, .int v14]) (go_istore_n dX6_either4_30 rfl (by decide) rfl) ?_
      refine Cv.go (pc' := 32) (go_iload_n (i := 1) (x := a1) dX6_either4_31 rfl rfl) ?_
      refine Cv.ite (fun h18 => ?_) (fun h18 => ?_)
      · refine Cv.go (pc' := 35) (go_if_ne_f 39 dX6_either4_32 rfl h18) ?_
        refine Cv.go (pc' := 36) (go_iload_n (i := 2) (x := v14) dX6_either4_35 rfl rfl) ?_
        refine Cv.ite (fun h19 => ?_) (fun h19 => ?_)
        · refine Cv.go (pc' := 43) (go_if_eq_t (tgt := 43) dX6_either4_36 rfl h19) ?_
          refine Cv.go (pc' := 44) (go_iconst dX6_either4_43 ic_0) ?_
          refine Cv.weak (ls' := [.ref 40, .null, .null]) (⟨Or.inr rfl, ⟨Or.inl rfl, ⟨Or.inl rfl, True.intro⟩⟩⟩) ?_
          exact c_X6_either4_44 (F_X6_either4_5 n) ih m15 (0 : Int32) hS
        · refine Cv.go (pc' := 39) (go_if_eq_f 43 dX6_either4_36 rfl h19) ?_
          refine Cv.weak (ls' := [.ref 40, .null, .null]) (⟨Or.inr rfl, ⟨Or.inl rfl, ⟨Or.inl rfl, True.intro⟩⟩⟩) ?_
          exact c_X6_either4_39 (F_X6_either4_5 n) ih m15 hS
      · refine Cv.go (pc' := 39) (go_if_ne_t (tgt := 39) dX6_either4_32 rfl h18) ?_
        refine Cv.weak (ls' := [.ref 40, .null, .null]) (⟨Or.inr rfl, ⟨Or.inl rfl, ⟨Or.inl rfl, True.intro⟩⟩⟩) ?_
        exact c_X6_either4_39 (F_X6_either4_5 n) ih m15 hS
theorem kc_X6_either4 (m : Mem) (hS : ShM m) : ∀ v mE, F_X6_either4 m = some (v, mE) → Con true kX6_either4 15 [.ref 40] m (eI v) mE := by
  refine Con.of (ini := false) (ls0 := [.ref 40, .null, .null]) (ri := .ireturn) (by decide) (by intro z; cases z) rfl (Nat.le_of_ble_eq_true rfl) (fun v mE _ => RetTy.i) ?_
  show Cv true (cX6_either4, 3, RX6, 15, ((false, none) : IK)) .ireturn eI (F_X6_either4 m) m 0 [.ref 40, .null, .null] []
  unfold F_X6_either4
  refine Cv.go (pc' := 1) (go_aload_n (i := 0) (x := 40) dX6_either4_0 rfl rfl) ?_
  refine Cv.bnd fun v1 m2 e3 => ?_
  have C4 := kc_X6_both4 m hS v1 m2 e3
  refine Cv.go (pc' := 4) (st' := [.int v1]) (go_callV (As := []) (st := []) C4 (by decide) ok_X6_both4 li_X6_both4 ls_X6_both4 lm_X6_243 cls6 (sx_k40 hS) rfl rfl (Nat.le_of_ble_eq_true rfl) dX6_either4_1) ?_
  have zm2 := C4.1.2.2 rfl
  have hS := hS.sh zm2
  refine Cv.go (pc' := 5) (ls' := [.ref 40, .int v1, .null]) (go_istore_n dX6_either4_4 rfl (by decide) rfl) ?_
  exact c_X6_either4_5 FU m2 v1 hS
theorem c_X6_atom3_71 : ∀ (m : Mem) (a1 : Int32) (hS : ShM m), Cv true (cX6_atom3, 2, RX6, 16, ((false, none) : IK)) .ireturn eI (F_X6_atom3_71 m a1) m 71 [.ref 40, .int a1] [] := by
  intro m a1 hS
  unfold F_X6_atom3_71
  refine Cv.go (pc' := 72) (go_aload_n (i := 0) (x := 40) dX6_atom3_71 rfl rfl) ?_
  refine Cv.go (pc' := 73) (go_dup_a dX6_atom3_72) ?_
  refine Cv.go (pc' := 76) (go_getI (i := 23) cls6 (sx_k40 hS) (by decide) rfl lf_X6_167 (by decide) dX6_atom3_73) ?_
  refine Cv.go (pc' := 77) (go_iconst dX6_atom3_76 ic_1) ?_
  refine Cv.go (pc' := 78) (go_isub dX6_atom3_77) ?_
  refine Cv.go (pc' := 81) (go_putI (i := 23) cls6 (sx_k40 hS) (by decide) rfl lf_X6_167 (by decide) rfl rfl rfl dX6_atom3_78) ?_
  refine Cv.namM fun m47 em47 => ?_
  have zm47 : SameSh m m47 := em47 ▸ SameSh.d
  have hS := hS.sh zm47
  refine Cv.go (pc' := 82) (go_aload_n (i := 0) (x := 40) dX6_atom3_81 rfl rfl) ?_
  refine Cv.go (pc' := 85) (go_getI (i := 24) cls6 (sx_k40 hS) (by decide) rfl lf_X6_156 (by decide) dX6_atom3_82) ?_
  refine Cv.ite (fun h48 => ?_) (fun h48 => ?_)
  · refine Cv.go (pc' := 88) (go_if_ne_f 161 dX6_atom3_85 rfl h48) ?_
    refine Cv.go (pc' := 89) (go_aload_n (i := 0) (x := 40) dX6_atom3_88 rfl rfl) ?_
    refine Cv.bnd fun v49 m50 e51 => ?_
    have C52 := kc_X6_next m47 hS v49 m50 e51
    refine Cv.go (pc' := 92) (st' := []) (go_callV (As := []) (st := []) C52 (by decide) ok_X6_next li_X6_next ls_X6_next lm_X6_173 cls6 (sx_k40 hS) rfl rfl (Nat.le_of_ble_eq_true rfl) dX6_atom3_89) ?_
    have zm50 := C52.1.2.2 rfl
    have hS := hS.sh zm50
    refine Cv.go (pc' := 161) (go_goto (tgt := 161) dX6_atom3_92 rfl) ?_
    refine Cv.go (pc' := 162) (go_iload_n (i := 1) (x := a1) dX6_atom3_161 rfl rfl) ?_
    exact Cv.ret dX6_atom3_162 rfl
  · refine Cv.go (pc' := 161) (go_if_ne_t (tgt := 161) dX6_atom3_85 rfl h48) ?_
    refine Cv.go (pc' := 162) (go_iload_n (i := 1) (x := a1) dX6_atom3_161 rfl rfl) ?_
    exact Cv.ret dX6_atom3_162 rfl
theorem c_X6_atom3_157 : ∀ (m : Mem) (a1 : Int32) (hS : ShM m), Cv true (cX6_atom3, 2, RX6, 16, ((false, none) : IK)) .ireturn eI (F_X6_atom3_157 m a1) m 157 [.ref 40, .int a1] [] := by
  intro m a1 hS
  unfold F_X6_atom3_157
  refine Cv.go (pc' := 158) (go_aload_n (i := 0) (x := 40) dX6_atom3_157 rfl rfl) ?_
  refine Cv.bnd fun v64 m65 e66 => ?_
  have C67 := kc_X6_fail m hS v64 m65 e66
  refine Cv.go (pc' := 161) (st' := []) (go_callV (As := []) (st := []) C67 (by decide) ok_X6_fail li_X6_fail ls_X6_fail lm_X6_170 cls6 (sx_k40 hS) rfl rfl (Nat.le_of_ble_eq_true rfl) dX6_atom3_158) ?_
  have zm65 := C67.1.2.2 rfl
  have hS := hS.sh zm65
  refine Cv.go (pc' := 162) (go_iload_n (i := 1) (x := a1) dX6_atom3_161 rfl rfl) ?_
  exact Cv.ret dX6_atom3_162 rfl
theorem c_X6_atom3_123 : ∀ (m : Mem) (a1 : Int32) (hS : ShM m), Cv true (cX6_atom3, 2, RX6, 16, ((false, none) : IK)) .ireturn eI (F_X6_atom3_123 m a1) m 123 [.ref 40, .int a1] [] := by
  intro m a1 hS
  unfold F_X6_atom3_123
  refine Cv.go (pc' := 124) (go_aload_n (i := 0) (x := 40) dX6_atom3_123 rfl rfl) ?_
  refine Cv.go (pc' := 127) (go_getI (i := 24) cls6 (sx_k40 hS) (by decide) rfl lf_X6_156 (by decide) dX6_atom3_124) ?_
  refine Cv.ite (fun h53 => ?_) (fun h53 => ?_)
  · refine Cv.go (pc' := 130) (go_if_ne_f 157 dX6_atom3_127 rfl h53) ?_
    refine Cv.go (pc' := 131) (go_aload_n (i := 0) (x := 40) dX6_atom3_130 rfl rfl) ?_
    refine Cv.go (pc' := 134) (go_getI (i := 20) cls6 (sx_k40 hS) (by decide) rfl lf_X6_139 (by decide) dX6_atom3_131) ?_
    refine Cv.go (pc' := 135) (go_iconst dX6_atom3_134 ic_1) ?_
    refine Cv.ite (fun h54 => ?_) (fun h54 => ?_)
    · refine Cv.go (pc' := 138) (go_icmp_ne_f 157 dX6_atom3_135 rfl h54) ?_
      refine Cv.go (pc' := 139) (go_aload_n (i := 0) (x := 40) dX6_atom3_138 rfl rfl) ?_
      refine Cv.bnd fun v55 m56 e57 => ?_
      have C58 := kc_X6_name m hS v55 m56 e57
      refine Cv.go (pc' := 142) (st' := [.int v55]) (go_callV (As := []) (st := []) C58 (by decide) ok_X6_name li_X6_name ls_X6_name lm_X6_205 cls6 (sx_k40 hS) rfl rfl (Nat.le_of_ble_eq_true rfl) dX6_atom3_139) ?_
      have zm56 := C58.1.2.2 rfl
      have hS := hS.sh zm56
      refine Cv.go (pc' := 143) (ls' := [.ref 40, .int v55]) (go_istore_n dX6_atom3_142 rfl (by decide) rfl) ?_
      refine Cv.go (pc' := 144) (go_aload_n (i := 0) (x := 40) dX6_atom3_143 rfl rfl) ?_
      refine Cv.go (pc' := 147) (go_getI (i := 24) cls6 (sx_k40 hS) (by decide) rfl lf_X6_156 (by decide) dX6_atom3_144) ?_
      refine Cv.ite (fun h59 => ?_) (fun h59 => ?_)
      · refine Cv.go (pc' := 150) (go_if_ne_f 161 dX6_atom3_147 rfl h59) ?_
        refine Cv.go (pc' := 151) (go_aload_n (i := 0) (x := 40) dX6_atom3_150 rfl rfl) ?_
        refine Cv.bnd fun v60 m61 e62 => ?_
        have C63 := kc_X6_next m56 hS v60 m61 e62
        refine Cv.go (pc' := 154) (st' := []) (go_callV (As := []) (st := []) C63 (by decide) ok_X6_next li_X6_next ls_X6_next lm_X6_173 cls6 (sx_k40 hS) rfl rfl (Nat.le_of_ble_eq_true rfl) dX6_atom3_151) ?_
        have zm61 := C63.1.2.2 rfl
        have hS := hS.sh zm61
        refine Cv.go (pc' := 161) (go_goto (tgt := 161) dX6_atom3_154 rfl) ?_
        refine Cv.go (pc' := 162) (go_iload_n (i := 1) (x := v55) dX6_atom3_161 rfl rfl) ?_
        exact Cv.ret dX6_atom3_162 rfl
      · refine Cv.go (pc' := 161) (go_if_ne_t (tgt := 161) dX6_atom3_147 rfl h59) ?_
        refine Cv.go (pc' := 162) (go_iload_n (i := 1) (x := v55) dX6_atom3_161 rfl rfl) ?_
        exact Cv.ret dX6_atom3_162 rfl
    · refine Cv.go (pc' := 157) (go_icmp_ne_t (tgt := 157) dX6_atom3_135 rfl h54) ?_
      exact c_X6_atom3_157 m a1 hS
  · refine Cv.go (pc' := 157) (go_if_ne_t (tgt := 157) dX6_atom3_127 rfl h53) ?_
    exact c_X6_atom3_157 m a1 hS
theorem kc_X6_atom3 (m : Mem) (hS : ShM m) : ∀ v mE, F_X6_atom3 m = some (v, mE) → Con true kX6_atom3 16 [.ref 40] m (eI v) mE := by
  refine Con.of (ini := false) (ls0 := [.ref 40, .null]) (ri := .ireturn) (by decide) (by intro z; cases z) rfl (Nat.le_of_ble_eq_true rfl) (fun v mE _ => RetTy.i) ?_
  show Cv true (cX6_atom3, 2, RX6, 16, ((false, none) : IK)) .ireturn eI (F_X6_atom3 m) m 0 [.ref 40, .null] []
  unfold F_X6_atom3
  refine Cv.go (pc' := 1) (go_iconst dX6_atom3_0 ic_0) ?_
  refine Cv.go (pc' := 2) (ls' := [.ref 40, .int (0 : Int32)]) (go_istore_n dX6_atom3_1 rfl (by decide) rfl) ?_
  refine Cv.go (pc' := 3) (go_aload_n (i := 0) (x := 40) dX6_atom3_2 rfl rfl) ?_
  refine Cv.go (pc' := 5) (go_bipush dX6_atom3_3 ib_45) ?_
  refine Cv.bnd fun v1 m2 e3 => ?_
  have C4 := kc_X6_isSign m (45 : Int32) hS v1 m2 e3
  refine Cv.go (pc' := 8) (st' := [.int (bz v1)]) (go_callV (As := [.int (45 : Int32)]) (st := []) C4 (by decide) ok_X6_isSign li_X6_isSign ls_X6_isSign lm_X6_198 cls6 (sx_k40 hS) rfl rfl (Nat.le_of_ble_eq_true rfl) dX6_atom3_5) ?_
  have zm2 := C4.1.2.2 rfl
  have hS := hS.sh zm2
  refine Cv.ite (fun h5 => ?_) (fun h5 => ?_)
  · refine Cv.go (pc' := 37) (go_if_eq_t (tgt := 37) dX6_atom3_8 rfl h5) ?_
    refine Cv.go (pc' := 38) (go_aload_n (i := 0) (x := 40) dX6_atom3_37 rfl rfl) ?_
    refine Cv.go (pc' := 40) (go_bipush dX6_atom3_38 ib_40) ?_
    refine Cv.bnd fun v6 m7 e8 => ?_
    have C9 := kc_X6_isSign m2 (40 : Int32) hS v6 m7 e8
    refine Cv.go (pc' := 43) (st' := [.int (bz v6)]) (go_callV (As := [.int (40 : Int32)]) (st := []) C9 (by decide) ok_X6_isSign li_X6_isSign ls_X6_isSign lm_X6_198 cls6 (sx_k40 hS) rfl rfl (Nat.le_of_ble_eq_true rfl) dX6_atom3_40) ?_
    have zm7 := C9.1.2.2 rfl
    have hS := hS.sh zm7
    refine Cv.ite (fun h10 => ?_) (fun h10 => ?_)
    · refine Cv.go (pc' := 95) (go_if_eq_t (tgt := 95) dX6_atom3_43 rfl h10) ?_
      refine Cv.go (pc' := 96) (go_aload_n (i := 0) (x := 40) dX6_atom3_95 rfl rfl) ?_
      refine Cv.go (pc' := 99) (go_getI (i := 24) cls6 (sx_k40 hS) (by decide) rfl lf_X6_156 (by decide) dX6_atom3_96) ?_
      refine Cv.ite (fun h11 => ?_) (fun h11 => ?_)
      · refine Cv.go (pc' := 102) (go_if_ne_f 123 dX6_atom3_99 rfl h11) ?_
        refine Cv.go (pc' := 103) (go_aload_n (i := 0) (x := 40) dX6_atom3_102 rfl rfl) ?_
        refine Cv.go (pc' := 106) (go_getI (i := 20) cls6 (sx_k40 hS) (by decide) rfl lf_X6_139 (by decide) dX6_atom3_103) ?_
        refine Cv.go (pc' := 107) (go_iconst dX6_atom3_106 ic_2) ?_
        refine Cv.ite (fun h12 => ?_) (fun h12 => ?_)
        · refine Cv.go (pc' := 110) (go_icmp_ne_f 123 dX6_atom3_107 rfl h12) ?_
          refine Cv.go (pc' := 111) (go_aload_n (i := 0) (x := 40) dX6_atom3_110 rfl rfl) ?_
          refine Cv.go (pc' := 114) (go_getL (i := 22) cls6 (sx_k40 hS) (by decide) rfl lf_X6_150 rfl dX6_atom3_111) ?_
          refine Cv.go (pc' := 115) (go_l2i dX6_atom3_114) ?_
          refine Cv.namI fun x13 ex13 => ?_
          refine Cv.go (pc' := 116) (ls' := [.ref 40, .int x13]) (go_istore_n dX6_atom3_115 rfl (by decide) rfl) ?_
          refine Cv.go (pc' := 117) (go_aload_n (i := 0) (x := 40) dX6_atom3_116 rfl rfl) ?_
          refine Cv.bnd fun v14 m15 e16 => ?_
          have C17 := kc_X6_next m7 hS v14 m15 e16
          refine Cv.go (pc' := 120) (st' := []) (go_callV (As := []) (st := []) C17 (by decide) ok_X6_next li_X6_next ls_X6_next lm_X6_173 cls6 (sx_k40 hS) rfl rfl (Nat.le_of_ble_eq_true rfl) dX6_atom3_117) ?_
          have zm15 := C17.1.2.2 rfl
          have hS := hS.sh zm15
          refine Cv.go (pc' := 161) (go_goto (tgt := 161) dX6_atom3_120 rfl) ?_
          refine Cv.go (pc' := 162) (go_iload_n (i := 1) (x := x13) dX6_atom3_161 rfl rfl) ?_
          exact Cv.ret dX6_atom3_162 rfl
        · refine Cv.go (pc' := 123) (go_icmp_ne_t (tgt := 123) dX6_atom3_107 rfl h12) ?_
          exact c_X6_atom3_123 m7 (0 : Int32) hS
      · refine Cv.go (pc' := 123) (go_if_ne_t (tgt := 123) dX6_atom3_99 rfl h11) ?_
        exact c_X6_atom3_123 m7 (0 : Int32) hS
    · refine Cv.go (pc' := 46) (go_if_eq_f 95 dX6_atom3_43 rfl h10) ?_
      refine Cv.go (pc' := 47) (go_aload_n (i := 0) (x := 40) dX6_atom3_46 rfl rfl) ?_
      refine Cv.bnd fun v18 m19 e20 => ?_
      have C21 := kc_X6_opens m7 hS v18 m19 e20
      refine Cv.go (pc' := 50) (st' := [.int (bz v18)]) (go_callV (As := []) (st := []) C21 (by decide) ok_X6_opens li_X6_opens ls_X6_opens lm_X6_201 cls6 (sx_k40 hS) rfl rfl (Nat.le_of_ble_eq_true rfl) dX6_atom3_47) ?_
      have zm19 := C21.1.2.2 rfl
      have hS := hS.sh zm19
      refine Cv.ite (fun h22 => ?_) (fun h22 => ?_)
      · refine Cv.go (pc' := 161) (go_if_eq_t (tgt := 161) dX6_atom3_50 rfl h22) ?_
        refine Cv.go (pc' := 162) (go_iload_n (i := 1) (x := (0 : Int32)) dX6_atom3_161 rfl rfl) ?_
        exact Cv.ret dX6_atom3_162 rfl
      · refine Cv.go (pc' := 53) (go_if_eq_f 161 dX6_atom3_50 rfl h22) ?_
        refine Cv.go (pc' := 54) (go_aload_n (i := 0) (x := 40) dX6_atom3_53 rfl rfl) ?_
        refine Cv.bnd fun v23 m24 e25 => ?_
        have C26 := kc_X6_either4 m19 hS v23 m24 e25
        refine Cv.go (pc' := 57) (st' := [.int v23]) (go_callV (As := []) (st := []) C26 (by decide) ok_X6_either4 li_X6_either4 ls_X6_either4 lm_X6_246 cls6 (sx_k40 hS) rfl rfl (Nat.le_of_ble_eq_true rfl) dX6_atom3_54) ?_
        have zm24 := C26.1.2.2 rfl
        have hS := hS.sh zm24
        refine Cv.go (pc' := 58) (ls' := [.ref 40, .int v23]) (go_istore_n dX6_atom3_57 rfl (by decide) rfl) ?_
        refine Cv.go (pc' := 59) (go_aload_n (i := 0) (x := 40) dX6_atom3_58 rfl rfl) ?_
        refine Cv.go (pc' := 61) (go_bipush dX6_atom3_59 ib_41) ?_
        refine Cv.bnd fun v27 m28 e29 => ?_
        have C30 := kc_X6_isSign m24 (41 : Int32) hS v27 m28 e29
        refine Cv.go (pc' := 64) (st' := [.int (bz v27)]) (go_callV (As := [.int (41 : Int32)]) (st := []) C30 (by decide) ok_X6_isSign li_X6_isSign ls_X6_isSign lm_X6_198 cls6 (sx_k40 hS) rfl rfl (Nat.le_of_ble_eq_true rfl) dX6_atom3_61) ?_
        have zm28 := C30.1.2.2 rfl
        have hS := hS.sh zm28
        refine Cv.ite (fun h31 => ?_) (fun h31 => ?_)
        · refine Cv.go (pc' := 67) (go_if_ne_f 71 dX6_atom3_64 rfl h31) ?_
          refine Cv.go (pc' := 68) (go_aload_n (i := 0) (x := 40) dX6_atom3_67 rfl rfl) ?_
          refine Cv.bnd fun v32 m33 e34 => ?_
          have C35 := kc_X6_fail m28 hS v32 m33 e34
          refine Cv.go (pc' := 71) (st' := []) (go_callV (As := []) (st := []) C35 (by decide) ok_X6_fail li_X6_fail ls_X6_fail lm_X6_170 cls6 (sx_k40 hS) rfl rfl (Nat.le_of_ble_eq_true rfl) dX6_atom3_68) ?_
          have zm33 := C35.1.2.2 rfl
          have hS := hS.sh zm33
          exact c_X6_atom3_71 m33 v23 hS
        · refine Cv.go (pc' := 71) (go_if_ne_t (tgt := 71) dX6_atom3_64 rfl h31) ?_
          exact c_X6_atom3_71 m28 v23 hS
  · refine Cv.go (pc' := 11) (go_if_eq_f 37 dX6_atom3_8 rfl h5) ?_
    refine Cv.go (pc' := 12) (go_aload_n (i := 0) (x := 40) dX6_atom3_11 rfl rfl) ?_
    refine Cv.bnd fun v36 m37 e38 => ?_
    have C39 := kc_X6_opens m2 hS v36 m37 e38
    refine Cv.go (pc' := 15) (st' := [.int (bz v36)]) (go_callV (As := []) (st := []) C39 (by decide) ok_X6_opens li_X6_opens ls_X6_opens lm_X6_201 cls6 (sx_k40 hS) rfl rfl (Nat.le_of_ble_eq_true rfl) dX6_atom3_12) ?_
    have zm37 := C39.1.2.2 rfl
    have hS := hS.sh zm37
    refine Cv.ite (fun h40 => ?_) (fun h40 => ?_)
    · refine Cv.go (pc' := 161) (go_if_eq_t (tgt := 161) dX6_atom3_15 rfl h40) ?_
      refine Cv.go (pc' := 162) (go_iload_n (i := 1) (x := (0 : Int32)) dX6_atom3_161 rfl rfl) ?_
      exact Cv.ret dX6_atom3_162 rfl
    · refine Cv.go (pc' := 18) (go_if_eq_f 161 dX6_atom3_15 rfl h40) ?_
      refine Cv.go (pc' := 19) (go_aload_n (i := 0) (x := 40) dX6_atom3_18 rfl rfl) ?_
      refine Cv.bnd fun v41 m42 e43 => ?_
      have C44 := kc_X6_atom4 m37 hS v41 m42 e43
      refine Cv.go (pc' := 22) (st' := [.int v41]) (go_callV (As := []) (st := []) C44 (by decide) ok_X6_atom4 li_X6_atom4 ls_X6_atom4 lm_X6_231 cls6 (sx_k40 hS) rfl rfl (Nat.le_of_ble_eq_true rfl) dX6_atom3_19) ?_
      have zm42 := C44.1.2.2 rfl
      have hS := hS.sh zm42
      refine Cv.go (pc' := 23) (go_ineg dX6_atom3_22) ?_
      refine Cv.namI fun x45 ex45 => ?_
      refine Cv.go (pc' := 24) (ls' := [.ref 40, .int x45]) (go_istore_n dX6_atom3_23 rfl (by decide) rfl) ?_
      refine Cv.go (pc' := 25) (go_aload_n (i := 0) (x := 40) dX6_atom3_24 rfl rfl) ?_
      refine Cv.go (pc' := 26) (go_dup_a dX6_atom3_25) ?_
      refine Cv.go (pc' := 29) (go_getI (i := 23) cls6 (sx_k40 hS) (by decide) rfl lf_X6_167 (by decide) dX6_atom3_26) ?_
      refine Cv.go (pc' := 30) (go_iconst dX6_atom3_29 ic_1) ?_
      refine Cv.go (pc' := 31) (go_isub dX6_atom3_30) ?_
      refine Cv.go (pc' := 34) (go_putI (i := 23) cls6 (sx_k40 hS) (by decide) rfl lf_X6_167 (by decide) rfl rfl rfl dX6_atom3_31) ?_
      refine Cv.namM fun m46 em46 => ?_
      have zm46 : SameSh m42 m46 := em46 ▸ SameSh.d
      have hS := hS.sh zm46
      refine Cv.go (pc' := 161) (go_goto (tgt := 161) dX6_atom3_34 rfl) ?_
      refine Cv.go (pc' := 162) (go_iload_n (i := 1) (x := x45) dX6_atom3_161 rfl rfl) ?_
      exact Cv.ret dX6_atom3_162 rfl
theorem c_X6_term3_5 : ∀ n, ∀ (m : Mem) (a1 : Int32) (hS : ShM m), Cv true (cX6_term3, 2, RX6, 17, ((false, none) : IK)) .ireturn eI (F_X6_term3_5 n m a1) m 5 [.ref 40, .int a1] [] := by
  intro n
  induction n with
  | zero => intro m a1 hS; exact Cv.no
  | succ n ih =>
    intro m a1 hS
    unfold F_X6_term3_5
    refine Cv.go (pc' := 6) (go_aload_n (i := 0) (x := 40) dX6_term3_5 rfl rfl) ?_
    refine Cv.go (pc' := 8) (go_bipush dX6_term3_6 ib_42) ?_
    refine Cv.bnd fun v5 m6 e7 => ?_
    have C8 := kc_X6_isSign m (42 : Int32) hS v5 m6 e7
    refine Cv.go (pc' := 11) (st' := [.int (bz v5)]) (go_callV (As := [.int (42 : Int32)]) (st := []) C8 (by decide) ok_X6_isSign li_X6_isSign ls_X6_isSign lm_X6_198 cls6 (sx_k40 hS) rfl rfl (Nat.le_of_ble_eq_true rfl) dX6_term3_8) ?_
    have zm6 := C8.1.2.2 rfl
    have hS := hS.sh zm6
    refine Cv.ite (fun h9 => ?_) (fun h9 => ?_)
    · refine Cv.go (pc' := 28) (go_if_eq_t (tgt := 28) dX6_term3_11 rfl h9) ?_
      refine Cv.go (pc' := 29) (go_iload_n (i := 1) (x := a1) dX6_term3_28 rfl rfl) ?_
      exact Cv.ret dX6_term3_29 rfl
    · refine Cv.go (pc' := 14) (go_if_eq_f 28 dX6_term3_11 rfl h9) ?_
      refine Cv.go (pc' := 15) (go_aload_n (i := 0) (x := 40) dX6_term3_14 rfl rfl) ?_
      refine Cv.bnd fun v10 m11 e12 => ?_
      have C13 := kc_X6_next m6 hS v10 m11 e12
      refine Cv.go (pc' := 18) (st' := []) (go_callV (As := []) (st := []) C13 (by decide) ok_X6_next li_X6_next ls_X6_next lm_X6_173 cls6 (sx_k40 hS) rfl rfl (Nat.le_of_ble_eq_true rfl) dX6_term3_15) ?_
      have zm11 := C13.1.2.2 rfl
      have hS := hS.sh zm11
      refine Cv.go (pc' := 19) (go_iload_n (i := 1) (x := a1) dX6_term3_18 rfl rfl) ?_
      refine Cv.go (pc' := 20) (go_aload_n (i := 0) (x := 40) dX6_term3_19 rfl rfl) ?_
      refine Cv.bnd fun v14 m15 e16 => ?_
      have C17 := kc_X6_atom3 m11 hS v14 m15 e16
      refine Cv.go (pc' := 23) (st' := [.int v14, .int a1]) (go_callV (As := []) (st := [.int a1]) C17 (by decide) ok_X6_atom3 li_X6_atom3 ls_X6_atom3 lm_X6_249 cls6 (sx_k40 hS) rfl rfl (Nat.le_of_ble_eq_true rfl) dX6_term3_20) ?_
      have zm15 := C17.1.2.2 rfl
      have hS := hS.sh zm15
      refine Cv.go (pc' := 24) (go_imul dX6_term3_23) ?_
      refine Cv.namI fun x18 ex18 => ?_
      refine Cv.go (pc' := 25) (ls' := [.ref 40, .int x18]) (go_istore_n dX6_term3_24 rfl (by decide) rfl) ?_
      refine Cv.go (pc' := 5) (go_goto (tgt := 5) dX6_term3_25 rfl) ?_
      exact ih m15 x18 hS
theorem kc_X6_term3 (m : Mem) (hS : ShM m) : ∀ v mE, F_X6_term3 m = some (v, mE) → Con true kX6_term3 17 [.ref 40] m (eI v) mE := by
  refine Con.of (ini := false) (ls0 := [.ref 40, .null]) (ri := .ireturn) (by decide) (by intro z; cases z) rfl (Nat.le_of_ble_eq_true rfl) (fun v mE _ => RetTy.i) ?_
  show Cv true (cX6_term3, 2, RX6, 17, ((false, none) : IK)) .ireturn eI (F_X6_term3 m) m 0 [.ref 40, .null] []
  unfold F_X6_term3
  refine Cv.go (pc' := 1) (go_aload_n (i := 0) (x := 40) dX6_term3_0 rfl rfl) ?_
  refine Cv.bnd fun v1 m2 e3 => ?_
  have C4 := kc_X6_atom3 m hS v1 m2 e3
  refine Cv.go (pc' := 4) (st' := [.int v1]) (go_callV (As := []) (st := []) C4 (by decide) ok_X6_atom3 li_X6_atom3 ls_X6_atom3 lm_X6_249 cls6 (sx_k40 hS) rfl rfl (Nat.le_of_ble_eq_true rfl) dX6_term3_1) ?_
  have zm2 := C4.1.2.2 rfl
  have hS := hS.sh zm2
  refine Cv.go (pc' := 5) (ls' := [.ref 40, .int v1]) (go_istore_n dX6_term3_4 rfl (by decide) rfl) ?_
  exact c_X6_term3_5 FU m2 v1 hS
theorem c_X6_added3_62 (K5 : Mem → Int32 → Option (Int32 × Mem)) (hK5 : ∀ (m : Mem) (a1 : Int32) (hS : ShM m), Cv true (cX6_added3, 4, RX6, 18, ((false, none) : IK)) .ireturn eI (K5 m a1) m 5 [.ref 40, .int a1, .null, .null] []) : ∀ (m : Mem) (s0 : Int32) (hS : ShM m), Cv true (cX6_added3, 4, RX6, 18, ((false, none) : IK)) .ireturn eI (F_X6_added3_62 K5 m s0) m 62 [.ref 40, .null, .null, .null] [.int s0] := by
  intro m s0 hS
  unfold F_X6_added3_62
  refine Cv.go (pc' := 63) (ls' := [.ref 40, .int s0, .null, .null]) (go_istore_n dX6_added3_62 rfl (by decide) rfl) ?_
  refine Cv.go (pc' := 5) (go_goto (tgt := 5) dX6_added3_63 rfl) ?_
  exact hK5 m s0 hS
theorem c_X6_added3_39 (K5 : Mem → Int32 → Option (Int32 × Mem)) (hK5 : ∀ (m : Mem) (a1 : Int32) (hS : ShM m), Cv true (cX6_added3, 4, RX6, 18, ((false, none) : IK)) .ireturn eI (K5 m a1) m 5 [.ref 40, .int a1, .null, .null] []) : ∀ (m : Mem) (a1 : Int32) (s0 : Int32) (hS : ShM m), Cv true (cX6_added3, 4, RX6, 18, ((false, none) : IK)) .ireturn eI (F_X6_added3_39 K5 m a1 s0) m 39 [.ref 40, .int a1, .null, .null] [.int s0] := by
  intro m a1 s0 hS
  unfold F_X6_added3_39
  refine Cv.go (pc' := 40) (ls' := [.ref 40, .int a1, .int s0, .null]) (go_istore_n dX6_added3_39 rfl (by decide) rfl) ?_
  refine Cv.go (pc' := 41) (go_aload_n (i := 0) (x := 40) dX6_added3_40 rfl rfl) ?_
  refine Cv.bnd fun v16 m17 e18 => ?_
  have C19 := kc_X6_next m hS v16 m17 e18
  refine Cv.go (pc' := 44) (st' := []) (go_callV (As := []) (st := []) C19 (by decide) ok_X6_next li_X6_next ls_X6_next lm_X6_173 cls6 (sx_k40 hS) rfl rfl (Nat.le_of_ble_eq_true rfl) dX6_added3_41) ?_
  have zm17 := C19.1.2.2 rfl
  have hS := hS.sh zm17
  refine Cv.go (pc' := 45) (go_aload_n (i := 0) (x := 40) dX6_added3_44 rfl rfl) ?_
  refine Cv.bnd fun v20 m21 e22 => ?_
  have C23 := kc_X6_term3 m17 hS v20 m21 e22
  refine Cv.go (pc' := 48) (st' := [.int v20]) (go_callV (As := []) (st := []) C23 (by decide) ok_X6_term3 li_X6_term3 ls_X6_term3 lm_X6_252 cls6 (sx_k40 hS) rfl rfl (Nat.le_of_ble_eq_true rfl) dX6_added3_45) ?_
  have zm21 := C23.1.2.2 rfl
  have hS := hS.sh zm21
  refine Cv.go (pc' := 49) (ls' := [.ref 40, .int a1, .int s0, .int v20]) (go_istore_n dX6_added3_48 rfl (by decide) rfl) ?_
  refine Cv.go (pc' := 50) (go_iload_n (i := 2) (x := s0) dX6_added3_49 rfl rfl) ?_
  refine Cv.ite (fun h24 => ?_) (fun h24 => ?_)
  · refine Cv.go (pc' := 59) (go_if_eq_t (tgt := 59) dX6_added3_50 rfl h24) ?_
    refine Cv.go (pc' := 60) (go_iload_n (i := 1) (x := a1) dX6_added3_59 rfl rfl) ?_
    refine Cv.go (pc' := 61) (go_iload_n (i := 3) (x := v20) dX6_added3_60 rfl rfl) ?_
    refine Cv.go (pc' := 62) (go_isub dX6_added3_61) ?_
    refine Cv.weak (ls' := [.ref 40, .null, .null, .null]) (⟨Or.inr rfl, ⟨Or.inl rfl, ⟨Or.inl rfl, ⟨Or.inl rfl, True.intro⟩⟩⟩⟩) ?_
    exact c_X6_added3_62 K5 hK5 m21 (a1 - v20) hS
  · refine Cv.go (pc' := 53) (go_if_eq_f 59 dX6_added3_50 rfl h24) ?_
    refine Cv.go (pc' := 54) (go_iload_n (i := 1) (x := a1) dX6_added3_53 rfl rfl) ?_
    refine Cv.go (pc' := 55) (go_iload_n (i := 3) (x := v20) dX6_added3_54 rfl rfl) ?_
    refine Cv.go (pc' := 56) (go_iadd dX6_added3_55) ?_
    refine Cv.go (pc' := 62) (go_goto (tgt := 62) dX6_added3_56 rfl) ?_
    refine Cv.weak (ls' := [.ref 40, .null, .null, .null]) (⟨Or.inr rfl, ⟨Or.inl rfl, ⟨Or.inl rfl, ⟨Or.inl rfl, True.intro⟩⟩⟩⟩) ?_
    exact c_X6_added3_62 K5 hK5 m21 (a1 + v20) hS
theorem c_X6_added3_23 (K5 : Mem → Int32 → Option (Int32 × Mem)) (hK5 : ∀ (m : Mem) (a1 : Int32) (hS : ShM m), Cv true (cX6_added3, 4, RX6, 18, ((false, none) : IK)) .ireturn eI (K5 m a1) m 5 [.ref 40, .int a1, .null, .null] []) : ∀ (m : Mem) (a1 : Int32) (hS : ShM m), Cv true (cX6_added3, 4, RX6, 18, ((false, none) : IK)) .ireturn eI (F_X6_added3_23 K5 m a1) m 23 [.ref 40, .int a1, .null, .null] [] := by
  intro m a1 hS
  unfold F_X6_added3_23
  refine Cv.go (pc' := 24) (go_aload_n (i := 0) (x := 40) dX6_added3_23 rfl rfl) ?_
  refine Cv.go (pc' := 27) (go_getL (i := 22) cls6 (sx_k40 hS) (by decide) rfl lf_X6_150 rfl dX6_added3_24) ?_
  refine Cv.go (pc' := 30) (go_ldc2 dX6_added3_27 ll_X6_215) ?_
  refine Cv.go (pc' := 31) (go_lcmp dX6_added3_30) ?_
  refine Cv.ite (fun h15 => ?_) (fun h15 => ?_)
  · refine Cv.go (pc' := 34) (go_if_ne_f 38 dX6_added3_31 rfl h15) ?_
    refine Cv.go (pc' := 35) (go_iconst dX6_added3_34 ic_1) ?_
    refine Cv.go (pc' := 39) (go_goto (tgt := 39) dX6_added3_35 rfl) ?_
    exact c_X6_added3_39 K5 hK5 m a1 (1 : Int32) hS
  · refine Cv.go (pc' := 38) (go_if_ne_t (tgt := 38) dX6_added3_31 rfl h15) ?_
    refine Cv.go (pc' := 39) (go_iconst dX6_added3_38 ic_0) ?_
    exact c_X6_added3_39 K5 hK5 m a1 (0 : Int32) hS
theorem c_X6_added3_5 : ∀ n, ∀ (m : Mem) (a1 : Int32) (hS : ShM m), Cv true (cX6_added3, 4, RX6, 18, ((false, none) : IK)) .ireturn eI (F_X6_added3_5 n m a1) m 5 [.ref 40, .int a1, .null, .null] [] := by
  intro n
  induction n with
  | zero => intro m a1 hS; exact Cv.no
  | succ n ih =>
    intro m a1 hS
    unfold F_X6_added3_5
    refine Cv.go (pc' := 6) (go_aload_n (i := 0) (x := 40) dX6_added3_5 rfl rfl) ?_
    refine Cv.go (pc' := 8) (go_bipush dX6_added3_6 ib_43) ?_
    refine Cv.bnd fun v5 m6 e7 => ?_
    have C8 := kc_X6_isSign m (43 : Int32) hS v5 m6 e7
    refine Cv.go (pc' := 11) (st' := [.int (bz v5)]) (go_callV (As := [.int (43 : Int32)]) (st := []) C8 (by decide) ok_X6_isSign li_X6_isSign ls_X6_isSign lm_X6_198 cls6 (sx_k40 hS) rfl rfl (Nat.le_of_ble_eq_true rfl) dX6_added3_8) ?_
    have zm6 := C8.1.2.2 rfl
    have hS := hS.sh zm6
    refine Cv.ite (fun h9 => ?_) (fun h9 => ?_)
    · refine Cv.go (pc' := 14) (go_if_ne_f 23 dX6_added3_11 rfl h9) ?_
      refine Cv.go (pc' := 15) (go_aload_n (i := 0) (x := 40) dX6_added3_14 rfl rfl) ?_
      refine Cv.go (pc' := 17) (go_bipush dX6_added3_15 ib_45) ?_
      refine Cv.bnd fun v10 m11 e12 => ?_
      have C13 := kc_X6_isSign m6 (45 : Int32) hS v10 m11 e12
      refine Cv.go (pc' := 20) (st' := [.int (bz v10)]) (go_callV (As := [.int (45 : Int32)]) (st := []) C13 (by decide) ok_X6_isSign li_X6_isSign ls_X6_isSign lm_X6_198 cls6 (sx_k40 hS) rfl rfl (Nat.le_of_ble_eq_true rfl) dX6_added3_17) ?_
      have zm11 := C13.1.2.2 rfl
      have hS := hS.sh zm11
      refine Cv.ite (fun h14 => ?_) (fun h14 => ?_)
      · refine Cv.go (pc' := 66) (go_if_eq_t (tgt := 66) dX6_added3_20 rfl h14) ?_
        refine Cv.go (pc' := 67) (go_iload_n (i := 1) (x := a1) dX6_added3_66 rfl rfl) ?_
        exact Cv.ret dX6_added3_67 rfl
      · refine Cv.go (pc' := 23) (go_if_eq_f 66 dX6_added3_20 rfl h14) ?_
        exact c_X6_added3_23 (F_X6_added3_5 n) ih m11 a1 hS
    · refine Cv.go (pc' := 23) (go_if_ne_t (tgt := 23) dX6_added3_11 rfl h9) ?_
      exact c_X6_added3_23 (F_X6_added3_5 n) ih m6 a1 hS
theorem kc_X6_added3 (m : Mem) (hS : ShM m) : ∀ v mE, F_X6_added3 m = some (v, mE) → Con true kX6_added3 18 [.ref 40] m (eI v) mE := by
  refine Con.of (ini := false) (ls0 := [.ref 40, .null, .null, .null]) (ri := .ireturn) (by decide) (by intro z; cases z) rfl (Nat.le_of_ble_eq_true rfl) (fun v mE _ => RetTy.i) ?_
  show Cv true (cX6_added3, 4, RX6, 18, ((false, none) : IK)) .ireturn eI (F_X6_added3 m) m 0 [.ref 40, .null, .null, .null] []
  unfold F_X6_added3
  refine Cv.go (pc' := 1) (go_aload_n (i := 0) (x := 40) dX6_added3_0 rfl rfl) ?_
  refine Cv.bnd fun v1 m2 e3 => ?_
  have C4 := kc_X6_term3 m hS v1 m2 e3
  refine Cv.go (pc' := 4) (st' := [.int v1]) (go_callV (As := []) (st := []) C4 (by decide) ok_X6_term3 li_X6_term3 ls_X6_term3 lm_X6_252 cls6 (sx_k40 hS) rfl rfl (Nat.le_of_ble_eq_true rfl) dX6_added3_1) ?_
  have zm2 := C4.1.2.2 rfl
  have hS := hS.sh zm2
  refine Cv.go (pc' := 5) (ls' := [.ref 40, .int v1, .null, .null]) (go_istore_n dX6_added3_4 rfl (by decide) rfl) ?_
  exact c_X6_added3_5 FU m2 v1 hS
theorem c_X6_not3_93 : ∀ (m : Mem) (a1 : Int32) (s0 : Int32) (hS : ShM m), Cv true (cX6_not3, 4, RX6, 19, ((false, none) : IK)) .ireturn eI (F_X6_not3_93 m a1 s0) m 93 [.ref 40, .int a1, .null, .null] [.int s0] := by
  intro m a1 s0 hS
  unfold F_X6_not3_93
  refine Cv.go (pc' := 94) (ls' := [.ref 40, .int a1, .int s0, .null]) (go_istore_n dX6_not3_93 rfl (by decide) rfl) ?_
  refine Cv.go (pc' := 95) (go_aload_n (i := 0) (x := 40) dX6_not3_94 rfl rfl) ?_
  refine Cv.bnd fun v32 m33 e34 => ?_
  have C35 := kc_X6_next m hS v32 m33 e34
  refine Cv.go (pc' := 98) (st' := []) (go_callV (As := []) (st := []) C35 (by decide) ok_X6_next li_X6_next ls_X6_next lm_X6_173 cls6 (sx_k40 hS) rfl rfl (Nat.le_of_ble_eq_true rfl) dX6_not3_95) ?_
  have zm33 := C35.1.2.2 rfl
  have hS := hS.sh zm33
  refine Cv.go (pc' := 99) (go_aload_n (i := 0) (x := 40) dX6_not3_98 rfl rfl) ?_
  refine Cv.bnd fun v36 m37 e38 => ?_
  have C39 := kc_X6_added3 m33 hS v36 m37 e38
  refine Cv.go (pc' := 102) (st' := [.int v36]) (go_callV (As := []) (st := []) C39 (by decide) ok_X6_added3 li_X6_added3 ls_X6_added3 lm_X6_255 cls6 (sx_k40 hS) rfl rfl (Nat.le_of_ble_eq_true rfl) dX6_not3_99) ?_
  have zm37 := C39.1.2.2 rfl
  have hS := hS.sh zm37
  refine Cv.go (pc' := 103) (ls' := [.ref 40, .int a1, .int s0, .int v36]) (go_istore_n dX6_not3_102 rfl (by decide) rfl) ?_
  refine Cv.go (pc' := 104) (go_iload_n (i := 2) (x := s0) dX6_not3_103 rfl rfl) ?_
  refine Cv.ite (fun h40 => ?_) (fun h40 => ?_)
  · refine Cv.go (pc' := 115) (go_if_eq_t (tgt := 115) dX6_not3_104 rfl h40) ?_
    refine Cv.go (pc' := 116) (go_iload_n (i := 1) (x := a1) dX6_not3_115 rfl rfl) ?_
    refine Cv.go (pc' := 117) (go_iload_n (i := 3) (x := v36) dX6_not3_116 rfl rfl) ?_
    refine Cv.ite (fun h41 => ?_) (fun h41 => ?_)
    · refine Cv.go (pc' := 120) (go_icmp_ne_f 124 dX6_not3_117 rfl h41) ?_
      refine Cv.go (pc' := 121) (go_iconst dX6_not3_120 ic_1) ?_
      refine Cv.go (pc' := 125) (go_goto (tgt := 125) dX6_not3_121 rfl) ?_
      exact Cv.ret dX6_not3_125 rfl
    · refine Cv.go (pc' := 124) (go_icmp_ne_t (tgt := 124) dX6_not3_117 rfl h41) ?_
      refine Cv.go (pc' := 125) (go_iconst dX6_not3_124 ic_0) ?_
      exact Cv.ret dX6_not3_125 rfl
  · refine Cv.go (pc' := 107) (go_if_eq_f 115 dX6_not3_104 rfl h40) ?_
    refine Cv.go (pc' := 108) (go_iload_n (i := 1) (x := a1) dX6_not3_107 rfl rfl) ?_
    refine Cv.go (pc' := 109) (go_iload_n (i := 3) (x := v36) dX6_not3_108 rfl rfl) ?_
    refine Cv.ite (fun h42 => ?_) (fun h42 => ?_)
    · refine Cv.go (pc' := 124) (go_icmp_ge_t (tgt := 124) dX6_not3_109 rfl h42) ?_
      refine Cv.go (pc' := 125) (go_iconst dX6_not3_124 ic_0) ?_
      exact Cv.ret dX6_not3_125 rfl
    · refine Cv.go (pc' := 112) (go_icmp_ge_f 124 dX6_not3_109 rfl h42) ?_
      refine Cv.go (pc' := 120) (go_goto (tgt := 120) dX6_not3_112 rfl) ?_
      refine Cv.go (pc' := 121) (go_iconst dX6_not3_120 ic_1) ?_
      refine Cv.go (pc' := 125) (go_goto (tgt := 125) dX6_not3_121 rfl) ?_
      exact Cv.ret dX6_not3_125 rfl
theorem c_X6_not3_77 : ∀ (m : Mem) (a1 : Int32) (hS : ShM m), Cv true (cX6_not3, 4, RX6, 19, ((false, none) : IK)) .ireturn eI (F_X6_not3_77 m a1) m 77 [.ref 40, .int a1, .null, .null] [] := by
  intro m a1 hS
  unfold F_X6_not3_77
  refine Cv.go (pc' := 78) (go_aload_n (i := 0) (x := 40) dX6_not3_77 rfl rfl) ?_
  refine Cv.go (pc' := 81) (go_getL (i := 22) cls6 (sx_k40 hS) (by decide) rfl lf_X6_150 rfl dX6_not3_78) ?_
  refine Cv.go (pc' := 84) (go_ldc2 dX6_not3_81 ll_X6_220) ?_
  refine Cv.go (pc' := 85) (go_lcmp dX6_not3_84) ?_
  refine Cv.ite (fun h31 => ?_) (fun h31 => ?_)
  · refine Cv.go (pc' := 88) (go_if_ne_f 92 dX6_not3_85 rfl h31) ?_
    refine Cv.go (pc' := 89) (go_iconst dX6_not3_88 ic_1) ?_
    refine Cv.go (pc' := 93) (go_goto (tgt := 93) dX6_not3_89 rfl) ?_
    exact c_X6_not3_93 m a1 (1 : Int32) hS
  · refine Cv.go (pc' := 92) (go_if_ne_t (tgt := 92) dX6_not3_85 rfl h31) ?_
    refine Cv.go (pc' := 93) (go_iconst dX6_not3_92 ic_0) ?_
    exact c_X6_not3_93 m a1 (0 : Int32) hS
theorem kc_X6_not3 (m : Mem) (hS : ShM m) : ∀ v mE, F_X6_not3 m = some (v, mE) → Con true kX6_not3 19 [.ref 40] m (eI v) mE := by
  refine Con.of (ini := false) (ls0 := [.ref 40, .null, .null, .null]) (ri := .ireturn) (by decide) (by intro z; cases z) rfl (Nat.le_of_ble_eq_true rfl) (fun v mE _ => RetTy.i) ?_
  show Cv true (cX6_not3, 4, RX6, 19, ((false, none) : IK)) .ireturn eI (F_X6_not3 m) m 0 [.ref 40, .null, .null, .null] []
  unfold F_X6_not3
  refine Cv.go (pc' := 1) (go_aload_n (i := 0) (x := 40) dX6_not3_0 rfl rfl) ?_
  refine Cv.go (pc' := 3) (go_bipush dX6_not3_1 ib_110) ?_
  refine Cv.go (pc' := 5) (go_bipush dX6_not3_3 ib_111) ?_
  refine Cv.go (pc' := 7) (go_bipush dX6_not3_5 ib_116) ?_
  refine Cv.go (pc' := 8) (go_iconst dX6_not3_7 ic_0) ?_
  refine Cv.go (pc' := 9) (go_iconst dX6_not3_8 ic_0) ?_
  refine Cv.go (pc' := 10) (go_iconst dX6_not3_9 ic_0) ?_
  refine Cv.go (pc' := 11) (go_iconst dX6_not3_10 ic_0) ?_
  refine Cv.go (pc' := 12) (go_iconst dX6_not3_11 ic_0) ?_
  refine Cv.bnd fun v1 m2 e3 => ?_
  have C4 := kc_X6_isWord m (110 : Int32) (111 : Int32) (116 : Int32) (0 : Int32) (0 : Int32) (0 : Int32) (0 : Int32) (0 : Int32) hS v1 m2 e3
  refine Cv.go (pc' := 15) (st' := [.int (bz v1)]) (go_callV (As := [.int (110 : Int32), .int (111 : Int32), .int (116 : Int32), .int (0 : Int32), .int (0 : Int32), .int (0 : Int32), .int (0 : Int32), .int (0 : Int32)]) (st := []) C4 (by decide) ok_X6_isWord li_X6_isWord ls_X6_isWord lm_X6_176 cls6 (sx_k40 hS) rfl rfl (Nat.le_of_ble_eq_true rfl) dX6_not3_12) ?_
  have zm2 := C4.1.2.2 rfl
  have hS := hS.sh zm2
  refine Cv.ite (fun h5 => ?_) (fun h5 => ?_)
  · refine Cv.go (pc' := 52) (go_if_eq_t (tgt := 52) dX6_not3_15 rfl h5) ?_
    refine Cv.go (pc' := 53) (go_aload_n (i := 0) (x := 40) dX6_not3_52 rfl rfl) ?_
    refine Cv.bnd fun v6 m7 e8 => ?_
    have C9 := kc_X6_added3 m2 hS v6 m7 e8
    refine Cv.go (pc' := 56) (st' := [.int v6]) (go_callV (As := []) (st := []) C9 (by decide) ok_X6_added3 li_X6_added3 ls_X6_added3 lm_X6_255 cls6 (sx_k40 hS) rfl rfl (Nat.le_of_ble_eq_true rfl) dX6_not3_53) ?_
    have zm7 := C9.1.2.2 rfl
    have hS := hS.sh zm7
    refine Cv.go (pc' := 57) (ls' := [.ref 40, .int v6, .null, .null]) (go_istore_n dX6_not3_56 rfl (by decide) rfl) ?_
    refine Cv.go (pc' := 58) (go_aload_n (i := 0) (x := 40) dX6_not3_57 rfl rfl) ?_
    refine Cv.go (pc' := 60) (go_bipush dX6_not3_58 ib_60) ?_
    refine Cv.bnd fun v10 m11 e12 => ?_
    have C13 := kc_X6_isSign m7 (60 : Int32) hS v10 m11 e12
    refine Cv.go (pc' := 63) (st' := [.int (bz v10)]) (go_callV (As := [.int (60 : Int32)]) (st := []) C13 (by decide) ok_X6_isSign li_X6_isSign ls_X6_isSign lm_X6_198 cls6 (sx_k40 hS) rfl rfl (Nat.le_of_ble_eq_true rfl) dX6_not3_60) ?_
    have zm11 := C13.1.2.2 rfl
    have hS := hS.sh zm11
    refine Cv.ite (fun h14 => ?_) (fun h14 => ?_)
    · refine Cv.go (pc' := 66) (go_if_ne_f 77 dX6_not3_63 rfl h14) ?_
      refine Cv.go (pc' := 67) (go_aload_n (i := 0) (x := 40) dX6_not3_66 rfl rfl) ?_
      refine Cv.go (pc' := 69) (go_bipush dX6_not3_67 ib_61) ?_
      refine Cv.bnd fun v15 m16 e17 => ?_
      have C18 := kc_X6_isSign m11 (61 : Int32) hS v15 m16 e17
      refine Cv.go (pc' := 72) (st' := [.int (bz v15)]) (go_callV (As := [.int (61 : Int32)]) (st := []) C18 (by decide) ok_X6_isSign li_X6_isSign ls_X6_isSign lm_X6_198 cls6 (sx_k40 hS) rfl rfl (Nat.le_of_ble_eq_true rfl) dX6_not3_69) ?_
      have zm16 := C18.1.2.2 rfl
      have hS := hS.sh zm16
      refine Cv.ite (fun h19 => ?_) (fun h19 => ?_)
      · refine Cv.go (pc' := 75) (go_if_ne_f 77 dX6_not3_72 rfl h19) ?_
        refine Cv.go (pc' := 76) (go_iload_n (i := 1) (x := v6) dX6_not3_75 rfl rfl) ?_
        exact Cv.ret dX6_not3_76 rfl
      · refine Cv.go (pc' := 77) (go_if_ne_t (tgt := 77) dX6_not3_72 rfl h19) ?_
        exact c_X6_not3_77 m16 v6 hS
    · refine Cv.go (pc' := 77) (go_if_ne_t (tgt := 77) dX6_not3_63 rfl h14) ?_
      exact c_X6_not3_77 m11 v6 hS
  · refine Cv.go (pc' := 18) (go_if_eq_f 52 dX6_not3_15 rfl h5) ?_
    refine Cv.go (pc' := 19) (go_aload_n (i := 0) (x := 40) dX6_not3_18 rfl rfl) ?_
    refine Cv.bnd fun v20 m21 e22 => ?_
    have C23 := kc_X6_opens m2 hS v20 m21 e22
    refine Cv.go (pc' := 22) (st' := [.int (bz v20)]) (go_callV (As := []) (st := []) C23 (by decide) ok_X6_opens li_X6_opens ls_X6_opens lm_X6_201 cls6 (sx_k40 hS) rfl rfl (Nat.le_of_ble_eq_true rfl) dX6_not3_19) ?_
    have zm21 := C23.1.2.2 rfl
    have hS := hS.sh zm21
    refine Cv.ite (fun h24 => ?_) (fun h24 => ?_)
    · refine Cv.go (pc' := 25) (go_if_ne_f 27 dX6_not3_22 rfl h24) ?_
      refine Cv.go (pc' := 26) (go_iconst dX6_not3_25 ic_0) ?_
      exact Cv.ret dX6_not3_26 rfl
    · refine Cv.go (pc' := 27) (go_if_ne_t (tgt := 27) dX6_not3_22 rfl h24) ?_
      refine Cv.go (pc' := 28) (go_aload_n (i := 0) (x := 40) dX6_not3_27 rfl rfl) ?_
      refine Cv.bnd fun v25 m26 e27 => ?_
      have C28 := kc_X6_not4 m21 hS v25 m26 e27
      refine Cv.go (pc' := 31) (st' := [.int v25]) (go_callV (As := []) (st := []) C28 (by decide) ok_X6_not4 li_X6_not4 ls_X6_not4 lm_X6_240 cls6 (sx_k40 hS) rfl rfl (Nat.le_of_ble_eq_true rfl) dX6_not3_28) ?_
      have zm26 := C28.1.2.2 rfl
      have hS := hS.sh zm26
      refine Cv.go (pc' := 32) (ls' := [.ref 40, .int v25, .null, .null]) (go_istore_n dX6_not3_31 rfl (by decide) rfl) ?_
      refine Cv.go (pc' := 33) (go_aload_n (i := 0) (x := 40) dX6_not3_32 rfl rfl) ?_
      refine Cv.go (pc' := 34) (go_dup_a dX6_not3_33) ?_
      refine Cv.go (pc' := 37) (go_getI (i := 23) cls6 (sx_k40 hS) (by decide) rfl lf_X6_167 (by decide) dX6_not3_34) ?_
      refine Cv.go (pc' := 38) (go_iconst dX6_not3_37 ic_1) ?_
      refine Cv.go (pc' := 39) (go_isub dX6_not3_38) ?_
      refine Cv.go (pc' := 42) (go_putI (i := 23) cls6 (sx_k40 hS) (by decide) rfl lf_X6_167 (by decide) rfl rfl rfl dX6_not3_39) ?_
      refine Cv.namM fun m29 em29 => ?_
      have zm29 : SameSh m26 m29 := em29 ▸ SameSh.d
      have hS := hS.sh zm29
      refine Cv.go (pc' := 43) (go_iload_n (i := 1) (x := v25) dX6_not3_42 rfl rfl) ?_
      refine Cv.ite (fun h30 => ?_) (fun h30 => ?_)
      · refine Cv.go (pc' := 46) (go_if_ne_f 50 dX6_not3_43 rfl h30) ?_
        refine Cv.go (pc' := 47) (go_iconst dX6_not3_46 ic_1) ?_
        refine Cv.go (pc' := 51) (go_goto (tgt := 51) dX6_not3_47 rfl) ?_
        exact Cv.ret dX6_not3_51 rfl
      · refine Cv.go (pc' := 50) (go_if_ne_t (tgt := 50) dX6_not3_43 rfl h30) ?_
        refine Cv.go (pc' := 51) (go_iconst dX6_not3_50 ic_0) ?_
        exact Cv.ret dX6_not3_51 rfl
