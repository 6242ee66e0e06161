theorem c_X6_both1_45 (K5 : Mem → Int32 → Option (Int32 × Mem)) (hK5 : ∀ (m : Mem) (a1 : Int32) (hS : ShM m), Cv true (cX6_both1, 3, RX6, 32, ((false, none) : IK)) .ireturn eI (K5 m a1) m 5 [.ref 40, .int a1, .null] []) : ∀ (m : Mem) (s0 : Int32) (hS : ShM m), Cv true (cX6_both1, 3, RX6, 32, ((false, none) : IK)) .ireturn eI (F_X6_both1_45 K5 m s0) m 45 [.ref 40, .null, .null] [.int s0] := by
  intro m s0 hS
  unfold F_X6_both1_45
  refine Cv.go (pc' := 46) (ls' := [.ref 40, .int s0, .null]) (go_istore_n dX6_both1_45 rfl (by decide) rfl) ?_
  refine Cv.go (pc' := 5) (go_goto (tgt := 5) dX6_both1_46 rfl) ?_
  exact hK5 m s0 hS
theorem c_X6_both1_44 (K5 : Mem → Int32 → Option (Int32 × Mem)) (hK5 : ∀ (m : Mem) (a1 : Int32) (hS : ShM m), Cv true (cX6_both1, 3, RX6, 32, ((false, none) : IK)) .ireturn eI (K5 m a1) m 5 [.ref 40, .int a1, .null] []) : ∀ (m : Mem) (hS : ShM m), Cv true (cX6_both1, 3, RX6, 32, ((false, none) : IK)) .ireturn eI (F_X6_both1_44 K5 m) m 44 [.ref 40, .null, .null] [] := by
  intro m hS
  unfold F_X6_both1_44
  refine Cv.go (pc' := 45) (go_iconst dX6_both1_44 ic_0) ?_
  exact c_X6_both1_45 K5 hK5 m (0 : Int32) hS
theorem c_X6_both1_5 : ∀ n, ∀ (m : Mem) (a1 : Int32) (hS : ShM m), Cv true (cX6_both1, 3, RX6, 32, ((false, none) : IK)) .ireturn eI (F_X6_both1_5 n m a1) m 5 [.ref 40, .int a1, .null] [] := by
  intro n
  induction n with
  | zero => intro m a1 hS; exact Cv.no
  | succ n ih =>
    intro m a1 hS
    unfold F_X6_both1_5
    refine Cv.go (pc' := 6) (go_aload_n (i := 0) (x := 40) dX6_both1_5 rfl rfl) ?_
    refine Cv.go (pc' := 8) (go_bipush dX6_both1_6 ib_97) ?_
    refine Cv.go (pc' := 10) (go_bipush dX6_both1_8 ib_110) ?_
    refine Cv.go (pc' := 12) (go_bipush dX6_both1_10 ib_100) ?_
    refine Cv.go (pc' := 13) (go_iconst dX6_both1_12 ic_0) ?_
    refine Cv.go (pc' := 14) (go_iconst dX6_both1_13 ic_0) ?_
    refine Cv.go (pc' := 15) (go_iconst dX6_both1_14 ic_0) ?_
    refine Cv.go (pc' := 16) (go_iconst dX6_both1_15 ic_0) ?_
    refine Cv.go (pc' := 17) (go_iconst dX6_both1_16 ic_0) ?_
    refine Cv.bnd fun v5 m6 e7 => ?_
    have C8 := kc_X6_isWord m (97 : Int32) (110 : Int32) (100 : Int32) (0 : Int32) (0 : Int32) (0 : Int32) (0 : Int32) (0 : Int32) hS v5 m6 e7
    refine Cv.go (pc' := 20) (st' := [.int (bz v5)]) (go_callV (As := [.int (97 : Int32), .int (110 : Int32), .int (100 : Int32), .int (0 : Int32), .int (0 : Int32), .int (0 : Int32), .int (0 : Int32), .int (0 : Int32)]) (st := []) C8 (by decide) ok_X6_isWord li_X6_isWord ls_X6_isWord lm_X6_176 cls6 (sx_k40 hS) rfl rfl (Nat.le_of_ble_eq_true rfl) dX6_both1_17) ?_
    have zm6 := C8.1.2.2 rfl
    have hS := hS.sh zm6
    refine Cv.ite (fun h9 => ?_) (fun h9 => ?_)
    · refine Cv.go (pc' := 49) (go_if_eq_t (tgt := 49) dX6_both1_20 rfl h9) ?_
      refine Cv.go (pc' := 50) (go_iload_n (i := 1) (x := a1) dX6_both1_49 rfl rfl) ?_
      exact Cv.ret dX6_both1_50 rfl
    · refine Cv.go (pc' := 23) (go_if_eq_f 49 dX6_both1_20 rfl h9) ?_
      refine Cv.go (pc' := 24) (go_aload_n (i := 0) (x := 40) dX6_both1_23 rfl rfl) ?_
      refine Cv.bnd fun v10 m11 e12 => ?_
      have C13 := kc_X6_next m6 hS v10 m11 e12
      refine Cv.go (pc' := 27) (st' := []) (go_callV (As := []) (st := []) C13 (by decide) ok_X6_next li_X6_next ls_X6_next lm_X6_173 cls6 (sx_k40 hS) rfl rfl (Nat.le_of_ble_eq_true rfl) dX6_both1_24) ?_
      have zm11 := C13.1.2.2 rfl
      have hS := hS.sh zm11
      refine Cv.go (pc' := 28) (go_aload_n (i := 0) (x := 40) dX6_both1_27 rfl rfl) ?_
      refine Cv.bnd fun v14 m15 e16 => ?_
      have C17 := kc_X6_not1 m11 hS v14 m15 e16
      refine Cv.go (pc' := 31) (st' := [.int v14]) (go_callV (As := []) (st := []) C17 (by decide) ok_X6_not1 li_X6_not1 ls_X6_not1 lm_X6_294 cls6 (sx_k40 hS) rfl rfl (Nat.le_of_ble_eq_true rfl) dX6_both1_28) ?_
      have zm15 := C17.1.2.2 rfl
      have hS := hS.sh zm15
      refine Cv.go (pc' := 32) (ls' := [.ref 40, .int a1, .int v14]) (go_istore_n dX6_both1_31 rfl (by decide) rfl) ?_
      refine Cv.go (pc' := 33) (go_iload_n (i := 1) (x := a1) dX6_both1_32 rfl rfl) ?_
      refine Cv.ite (fun h18 => ?_) (fun h18 => ?_)
      · refine Cv.go (pc' := 44) (go_if_eq_t (tgt := 44) dX6_both1_33 rfl h18) ?_
        refine Cv.weak (ls' := [.ref 40, .null, .null]) (⟨Or.inr rfl, ⟨Or.inl rfl, ⟨Or.inl rfl, True.intro⟩⟩⟩) ?_
        exact c_X6_both1_44 (F_X6_both1_5 n) ih m15 hS
      · refine Cv.go (pc' := 36) (go_if_eq_f 44 dX6_both1_33 rfl h18) ?_
        refine Cv.go (pc' := 37) (go_iload_n (i := 2) (x := v14) dX6_both1_36 rfl rfl) ?_
        refine Cv.ite (fun h19 => ?_) (fun h19 => ?_)
        · refine Cv.go (pc' := 44) (go_if_eq_t (tgt := 44) dX6_both1_37 rfl h19) ?_
          refine Cv.weak (ls' := [.ref 40, .null, .null]) (⟨Or.inr rfl, ⟨Or.inl rfl, ⟨Or.inl rfl, True.intro⟩⟩⟩) ?_
          exact c_X6_both1_44 (F_X6_both1_5 n) ih m15 hS
        · refine Cv.go (pc' := 40) (go_if_eq_f 44 dX6_both1_37 rfl h19) ?_
          refine Cv.go (pc' := 41) (go_iconst dX6_both1_40 ic_1) ?_
          refine Cv.go (pc' := 45) (go_goto (tgt := 45) dX6_both1_41 rfl) ?_
          refine Cv.weak (ls' := [.ref 40, .null, .null]) (⟨Or.inr rfl, ⟨Or.inl rfl, ⟨Or.inl rfl, True.intro⟩⟩⟩) ?_
          exact c_X6_both1_45 (F_X6_both1_5 n) ih m15 (1 : Int32) hS
theorem kc_X6_both1 (m : Mem) (hS : ShM m) : ∀ v mE, F_X6_both1 m = some (v, mE) → Con true kX6_both1 32 [.ref 40] m (eI v) mE := by
  refine Con.of (ini := false) (ls0 := [.ref 40, .null, .null]) (ri := .ireturn) (by decide) (by intro z; cases z) rfl (Nat.le_of_ble_eq_true rfl) (fun v mE _ => RetTy.i) ?_
  show Cv true (cX6_both1, 3, RX6, 32, ((false, none) : IK)) .ireturn eI (F_X6_both1 m) m 0 [.ref 40, .null, .null] []
  unfold F_X6_both1
  refine Cv.go (pc' := 1) (go_aload_n (i := 0) (x := 40) dX6_both1_0 rfl rfl) ?_
  refine Cv.bnd fun v1 m2 e3 => ?_
  have C4 := kc_X6_not1 m hS v1 m2 e3
  refine Cv.go (pc' := 4) (st' := [.int v1]) (go_callV (As := []) (st := []) C4 (by decide) ok_X6_not1 li_X6_not1 ls_X6_not1 lm_X6_294 cls6 (sx_k40 hS) rfl rfl (Nat.le_of_ble_eq_true rfl) dX6_both1_1) ?_
  have zm2 := C4.1.2.2 rfl
  have hS := hS.sh zm2
  refine Cv.go (pc' := 5) (ls' := [.ref 40, .int v1, .null]) (go_istore_n dX6_both1_4 rfl (by decide) rfl) ?_
  exact c_X6_both1_5 FU m2 v1 hS
theorem c_X6_either1_44 (K5 : Mem → Int32 → Option (Int32 × Mem)) (hK5 : ∀ (m : Mem) (a1 : Int32) (hS : ShM m), Cv true (cX6_either1, 3, RX6, 33, ((false, none) : IK)) .ireturn eI (K5 m a1) m 5 [.ref 40, .int a1, .null] []) : ∀ (m : Mem) (s0 : Int32) (hS : ShM m), Cv true (cX6_either1, 3, RX6, 33, ((false, none) : IK)) .ireturn eI (F_X6_either1_44 K5 m s0) m 44 [.ref 40, .null, .null] [.int s0] := by
  intro m s0 hS
  unfold F_X6_either1_44
  refine Cv.go (pc' := 45) (ls' := [.ref 40, .int s0, .null]) (go_istore_n dX6_either1_44 rfl (by decide) rfl) ?_
  refine Cv.go (pc' := 5) (go_goto (tgt := 5) dX6_either1_45 rfl) ?_
  exact hK5 m s0 hS
theorem c_X6_either1_39 (K5 : Mem → Int32 → Option (Int32 × Mem)) (hK5 : ∀ (m : Mem) (a1 : Int32) (hS : ShM m), Cv true (cX6_either1, 3, RX6, 33, ((false, none) : IK)) .ireturn eI (K5 m a1) m 5 [.ref 40, .int a1, .null] []) : ∀ (m : Mem) (hS : ShM m), Cv true (cX6_either1, 3, RX6, 33, ((false, none) : IK)) .ireturn eI (F_X6_either1_39 K5 m) m 39 [.ref 40, .null, .null] [] := by
  intro m hS
  unfold F_X6_either1_39
  refine Cv.go (pc' := 40) (go_iconst dX6_either1_39 ic_1) ?_
  refine Cv.go (pc' := 44) (go_goto (tgt := 44) dX6_either1_40 rfl) ?_
  exact c_X6_either1_44 K5 hK5 m (1 : Int32) hS
theorem c_X6_either1_5 : ∀ n, ∀ (m : Mem) (a1 : Int32) (hS : ShM m), Cv true (cX6_either1, 3, RX6, 33, ((false, none) : IK)) .ireturn eI (F_X6_either1_5 n m a1) m 5 [.ref 40, .int a1, .null] [] := by
  intro n
  induction n with
  | zero => intro m a1 hS; exact Cv.no
  | succ n ih =>
    intro m a1 hS
    unfold F_X6_either1_5
    refine Cv.go (pc' := 6) (go_aload_n (i := 0) (x := 40) dX6_either1_5 rfl rfl) ?_
    refine Cv.go (pc' := 8) (go_bipush dX6_either1_6 ib_111) ?_
    refine Cv.go (pc' := 10) (go_bipush dX6_either1_8 ib_114) ?_
    refine Cv.go (pc' := 11) (go_iconst dX6_either1_10 ic_0) ?_
    refine Cv.go (pc' := 12) (go_iconst dX6_either1_11 ic_0) ?_
    refine Cv.go (pc' := 13) (go_iconst dX6_either1_12 ic_0) ?_
    refine Cv.go (pc' := 14) (go_iconst dX6_either1_13 ic_0) ?_
    refine Cv.go (pc' := 15) (go_iconst dX6_either1_14 ic_0) ?_
    refine Cv.go (pc' := 16) (go_iconst dX6_either1_15 ic_0) ?_
    refine Cv.bnd fun v5 m6 e7 => ?_
    have C8 := kc_X6_isWord m (111 : Int32) (114 : Int32) (0 : Int32) (0 : Int32) (0 : Int32) (0 : Int32) (0 : Int32) (0 : Int32) hS v5 m6 e7
    refine Cv.go (pc' := 19) (st' := [.int (bz v5)]) (go_callV (As := [.int (111 : Int32), .int (114 : Int32), .int (0 : Int32), .int (0 : Int32), .int (0 : Int32), .int (0 : Int32), .int (0 : Int32), .int (0 : Int32)]) (st := []) C8 (by decide) ok_X6_isWord li_X6_isWord ls_X6_isWord lm_X6_176 cls6 (sx_k40 hS) rfl rfl (Nat.le_of_ble_eq_true rfl) dX6_either1_16) ?_
    have zm6 := C8.1.2.2 rfl
    have hS := hS.sh zm6
    refine Cv.ite (fun h9 => ?_) (fun h9 => ?_)
    · refine Cv.go (pc' := 48) (go_if_eq_t (tgt := 48) dX6_either1_19 rfl h9) ?_
      refine Cv.go (pc' := 49) (go_iload_n (i := 1) (x := a1) dX6_either1_48 rfl rfl) ?_
      exact Cv.ret dX6_either1_49 rfl
    · refine Cv.go (pc' := 22) (go_if_eq_f 48 dX6_either1_19 rfl h9) ?_
      refine Cv.go (pc' := 23) (go_aload_n (i := 0) (x := 40) dX6_either1_22 rfl rfl) ?_
      refine Cv.bnd fun v10 m11 e12 => ?_
      have C13 := kc_X6_next m6 hS v10 m11 e12
      refine Cv.go (pc' := 26) (st' := []) (go_callV (As := []) (st := []) C13 (by decide) ok_X6_next li_X6_next ls_X6_next lm_X6_173 cls6 (sx_k40 hS) rfl rfl (Nat.le_of_ble_eq_true rfl) dX6_either1_23) ?_
      have zm11 := C13.1.2.2 rfl
      have hS := hS.sh zm11
      refine Cv.go (pc' := 27) (go_aload_n (i := 0) (x := 40) dX6_either1_26 rfl rfl) ?_
      refine Cv.bnd fun v14 m15 e16 => ?_
      have C17 := kc_X6_both1 m11 hS v14 m15 e16
      refine Cv.go (pc' := 30) (st' := [.int v14]) (go_callV (As := []) (st := []) C17 (by decide) ok_X6_both1 li_X6_both1 ls_X6_both1 lm_X6_297 cls6 (sx_k40 hS) rfl rfl (Nat.le_of_ble_eq_true rfl) dX6_either1_27) ?_
      have zm15 := C17.1.2.2 rfl
      have hS := hS.sh zm15
      refine Cv.go (pc' := 31) (ls' := [.ref 40, .int a1, .int v14]) (go_istore_n dX6_either1_30 rfl (by decide) rfl) ?_
      refine Cv.go (pc' := 32) (go_iload_n (i := 1) (x := a1) dX6_either1_31 rfl rfl) ?_
      refine Cv.ite (fun h18 => ?_) (fun h18 => ?_)
      · refine Cv.go (pc' := 35) (go_if_ne_f 39 dX6_either1_32 rfl h18) ?_
        refine Cv.go (pc' := 36) (go_iload_n (i := 2) (x := v14) dX6_either1_35 rfl rfl) ?_
        refine Cv.ite (fun h19 => ?_) (fun h19 => ?_)
        · refine Cv.go (pc' := 43) (go_if_eq_t (tgt := 43) dX6_either1_36 rfl h19) ?_
          refine Cv.go (pc' := 44) (go_iconst dX6_either1_43 ic_0) ?_
          refine Cv.weak (ls' := [.ref 40, .null, .null]) (⟨Or.inr rfl, ⟨Or.inl rfl, ⟨Or.inl rfl, True.intro⟩⟩⟩) ?_
          exact c_X6_either1_44 (F_X6_either1_5 n) ih m15 (0 : Int32) hS
        · refine Cv.go (pc' := 39) (go_if_eq_f 43 dX6_either1_36 rfl h19) ?_
          refine Cv.weak (ls' := [.ref 40, .null, .null]) (⟨Or.inr rfl, ⟨Or.inl rfl, ⟨Or.inl rfl, True.intro⟩⟩⟩) ?_
          exact c_X6_either1_39 (F_X6_either1_5 n) ih m15 hS
      · refine Cv.go (pc' := 39) (go_if_ne_t (tgt := 39) dX6_either1_32 rfl h18) ?_
        refine Cv.weak (ls' := [.ref 40, .null, .null]) (⟨Or.inr rfl, ⟨Or.inl rfl, ⟨Or.inl rfl, True.intro⟩⟩⟩) ?_
        exact c_X6_either1_39 (F_X6_either1_5 n) ih m15 hS
theorem kc_X6_either1 (m : Mem) (hS : ShM m) : ∀ v mE, F_X6_either1 m = some (v, mE) → Con true kX6_either1 33 [.ref 40] m (eI v) mE := by
  refine Con.of (ini := false) (ls0 := [.ref 40, .null, .null]) (ri := .ireturn) (by decide) (by intro z; cases z) rfl (Nat.le_of_ble_eq_true rfl) (fun v mE _ => RetTy.i) ?_
  show Cv true (cX6_either1, 3, RX6, 33, ((false, none) : IK)) .ireturn eI (F_X6_either1 m) m 0 [.ref 40, .null, .null] []
  unfold F_X6_either1
  refine Cv.go (pc' := 1) (go_aload_n (i := 0) (x := 40) dX6_either1_0 rfl rfl) ?_
  refine Cv.bnd fun v1 m2 e3 => ?_
  have C4 := kc_X6_both1 m hS v1 m2 e3
  refine Cv.go (pc' := 4) (st' := [.int v1]) (go_callV (As := []) (st := []) C4 (by decide) ok_X6_both1 li_X6_both1 ls_X6_both1 lm_X6_297 cls6 (sx_k40 hS) rfl rfl (Nat.le_of_ble_eq_true rfl) dX6_either1_1) ?_
  have zm2 := C4.1.2.2 rfl
  have hS := hS.sh zm2
  refine Cv.go (pc' := 5) (ls' := [.ref 40, .int v1, .null]) (go_istore_n dX6_either1_4 rfl (by decide) rfl) ?_
  exact c_X6_either1_5 FU m2 v1 hS
theorem c_X6_atom0_71 : ∀ (m : Mem) (a1 : Int32) (hS : ShM m), Cv true (cX6_atom0, 2, RX6, 34, ((false, none) : IK)) .ireturn eI (F_X6_atom0_71 m a1) m 71 [.ref 40, .int a1] [] := by
  intro m a1 hS
  unfold F_X6_atom0_71
  refine Cv.go (pc' := 72) (go_aload_n (i := 0) (x := 40) dX6_atom0_71 rfl rfl) ?_
  refine Cv.go (pc' := 73) (go_dup_a dX6_atom0_72) ?_
  refine Cv.go (pc' := 76) (go_getI (i := 23) cls6 (sx_k40 hS) (by decide) rfl lf_X6_167 (by decide) dX6_atom0_73) ?_
  refine Cv.go (pc' := 77) (go_iconst dX6_atom0_76 ic_1) ?_
  refine Cv.go (pc' := 78) (go_isub dX6_atom0_77) ?_
  refine Cv.go (pc' := 81) (go_putI (i := 23) cls6 (sx_k40 hS) (by decide) rfl lf_X6_167 (by decide) rfl rfl rfl dX6_atom0_78) ?_
  refine Cv.namM fun m47 em47 => ?_
  have zm47 : SameSh m m47 := em47 ▸ SameSh.d
  have hS := hS.sh zm47
  refine Cv.go (pc' := 82) (go_aload_n (i := 0) (x := 40) dX6_atom0_81 rfl rfl) ?_
  refine Cv.go (pc' := 85) (go_getI (i := 24) cls6 (sx_k40 hS) (by decide) rfl lf_X6_156 (by decide) dX6_atom0_82) ?_
  refine Cv.ite (fun h48 => ?_) (fun h48 => ?_)
  · refine Cv.go (pc' := 88) (go_if_ne_f 161 dX6_atom0_85 rfl h48) ?_
    refine Cv.go (pc' := 89) (go_aload_n (i := 0) (x := 40) dX6_atom0_88 rfl rfl) ?_
    refine Cv.bnd fun v49 m50 e51 => ?_
    have C52 := kc_X6_next m47 hS v49 m50 e51
    refine Cv.go (pc' := 92) (st' := []) (go_callV (As := []) (st := []) C52 (by decide) ok_X6_next li_X6_next ls_X6_next lm_X6_173 cls6 (sx_k40 hS) rfl rfl (Nat.le_of_ble_eq_true rfl) dX6_atom0_89) ?_
    have zm50 := C52.1.2.2 rfl
    have hS := hS.sh zm50
    refine Cv.go (pc' := 161) (go_goto (tgt := 161) dX6_atom0_92 rfl) ?_
    refine Cv.go (pc' := 162) (go_iload_n (i := 1) (x := a1) dX6_atom0_161 rfl rfl) ?_
    exact Cv.ret dX6_atom0_162 rfl
  · refine Cv.go (pc' := 161) (go_if_ne_t (tgt := 161) dX6_atom0_85 rfl h48) ?_
    refine Cv.go (pc' := 162) (go_iload_n (i := 1) (x := a1) dX6_atom0_161 rfl rfl) ?_
    exact Cv.ret dX6_atom0_162 rfl
theorem c_X6_atom0_157 : ∀ (m : Mem) (a1 : Int32) (hS : ShM m), Cv true (cX6_atom0, 2, RX6, 34, ((false, none) : IK)) .ireturn eI (F_X6_atom0_157 m a1) m 157 [.ref 40, .int a1] [] := by
  intro m a1 hS
  unfold F_X6_atom0_157
  refine Cv.go (pc' := 158) (go_aload_n (i := 0) (x := 40) dX6_atom0_157 rfl rfl) ?_
  refine Cv.bnd fun v64 m65 e66 => ?_
  have C67 := kc_X6_fail m hS v64 m65 e66
  refine Cv.go (pc' := 161) (st' := []) (go_callV (As := []) (st := []) C67 (by decide) ok_X6_fail li_X6_fail ls_X6_fail lm_X6_170 cls6 (sx_k40 hS) rfl rfl (Nat.le_of_ble_eq_true rfl) dX6_atom0_158) ?_
  have zm65 := C67.1.2.2 rfl
  have hS := hS.sh zm65
  refine Cv.go (pc' := 162) (go_iload_n (i := 1) (x := a1) dX6_atom0_161 rfl rfl) ?_
  exact Cv.ret dX6_atom0_162 rfl
theorem c_X6_atom0_123 : ∀ (m : Mem) (a1 : Int32) (hS : ShM m), Cv true (cX6_atom0, 2, RX6, 34, ((false, none) : IK)) .ireturn eI (F_X6_atom0_123 m a1) m 123 [.ref 40, .int a1] [] := by
  intro m a1 hS
  unfold F_X6_atom0_123
  refine Cv.go (pc' := 124) (go_aload_n (i := 0) (x := 40) dX6_atom0_123 rfl rfl) ?_
  refine Cv.go (pc' := 127) (go_getI (i := 24) cls6 (sx_k40 hS) (by decide) rfl lf_X6_156 (by decide) dX6_atom0_124) ?_
  refine Cv.ite (fun h53 => ?_) (fun h53 => ?_)
  · refine Cv.go (pc' := 130) (go_if_ne_f 157 dX6_atom0_127 rfl h53) ?_
    refine Cv.go (pc' := 131) (go_aload_n (i := 0) (x := 40) dX6_atom0_130 rfl rfl) ?_
    refine Cv.go (pc' := 134) (go_getI (i := 20) cls6 (sx_k40 hS) (by decide) rfl lf_X6_139 (by decide) dX6_atom0_131) ?_
    refine Cv.go (pc' := 135) (go_iconst dX6_atom0_134 ic_1) ?_
    refine Cv.ite (fun h54 => ?_) (fun h54 => ?_)
    · refine Cv.go (pc' := 138) (go_icmp_ne_f 157 dX6_atom0_135 rfl h54) ?_
      refine Cv.go (pc' := 139) (go_aload_n (i := 0) (x := 40) dX6_atom0_138 rfl rfl) ?_
      refine Cv.bnd fun v55 m56 e57 => ?_
      have C58 := kc_X6_name m hS v55 m56 e57
      refine Cv.go (pc' := 142) (st' := [.int v55]) (go_callV (As := []) (st := []) C58 (by decide) ok_X6_name li_X6_name ls_X6_name lm_X6_205 cls6 (sx_k40 hS) rfl rfl (Nat.le_of_ble_eq_true rfl) dX6_atom0_139) ?_
      have zm56 := C58.1.2.2 rfl
      have hS := hS.sh zm56
      refine Cv.go (pc' := 143) (ls' := [.ref 40, .int v55]) (go_istore_n dX6_atom0_142 rfl (by decide) rfl) ?_
      refine Cv.go (pc' := 144) (go_aload_n (i := 0) (x := 40) dX6_atom0_143 rfl rfl) ?_
      refine Cv.go (pc' := 147) (go_getI (i := 24) cls6 (sx_k40 hS) (by decide) rfl lf_X6_156 (by decide) dX6_atom0_144) ?_
      refine Cv.ite (fun h59 => ?_) (fun h59 => ?_)
      · refine Cv.go (pc' := 150) (go_if_ne_f 161 dX6_atom0_147 rfl h59) ?_
        refine Cv.go (pc' := 151) (go_aload_n (i := 0) (x := 40) dX6_atom0_150 rfl rfl) ?_
        refine Cv.bnd fun v60 m61 e62 => ?_
        have C63 := kc_X6_next m56 hS v60 m61 e62
        refine Cv.go (pc' := 154) (st' := []) (go_callV (As := []) (st := []) C63 (by decide) ok_X6_next li_X6_next ls_X6_next lm_X6_173 cls6 (sx_k40 hS) rfl rfl (Nat.le_of_ble_eq_true rfl) dX6_atom0_151) ?_
        have zm61 := C63.1.2.2 rfl
        have hS := hS.sh zm61
        refine Cv.go (pc' := 161) (go_goto (tgt := 161) dX6_atom0_154 rfl) ?_
        refine Cv.go (pc' := 162) (go_iload_n (i := 1) (x := v55) dX6_atom0_161 rfl rfl) ?_
        exact Cv.ret dX6_atom0_162 rfl
      · refine Cv.go (pc' := 161) (go_if_ne_t (tgt := 161) dX6_atom0_147 rfl h59) ?_
        refine Cv.go (pc' := 162) (go_iload_n (i := 1) (x := v55) dX6_atom0_161 rfl rfl) ?_
        exact Cv.ret dX6_atom0_162 rfl
    · refine Cv.go (pc' := 157) (go_icmp_ne_t (tgt := 157) dX6_atom0_135 rfl h54) ?_
      exact c_X6_atom0_157 m a1 hS
  · refine Cv.go (pc' := 157) (go_if_ne_t (tgt := 157) dX6_atom0_127 rfl h53) ?_
    exact c_X6_atom0_157 m a1 hS
theorem kc_X6_atom0 (m : Mem) (hS : ShM m) : ∀ v mE, F_X6_atom0 m = some (v, mE) → Con true kX6_atom0 34 [.ref 40] m (eI v) mE := by
  refine Con.of (ini := false) (ls0 := [.ref 40, .null]) (ri := .ireturn) (by decide) (by intro z; cases z) rfl (Nat.le_of_ble_eq_true rfl) (fun v mE _ => RetTy.i) ?_
  show Cv true (cX6_atom0, 2, RX6, 34, ((false, none) : IK)) .ireturn eI (F_X6_atom0 m) m 0 [.ref 40, .null] []
  unfold F_X6_atom0
  refine Cv.go (pc' := 1) (go_iconst dX6_atom0_0 ic_0) ?_
  refine Cv.go (pc' := 2) (ls' := [.ref 40, .int (0 : Int32)]) (go_istore_n dX6_atom0_1 rfl (by decide) rfl) ?_
  refine Cv.go (pc' := 3) (go_aload_n (i := 0) (x := 40) dX6_atom0_2 rfl rfl) ?_
  refine Cv.go (pc' := 5) (go_bipush dX6_atom0_3 ib_45) ?_
  refine Cv.bnd fun v1 m2 e3 => ?_
  have C4 := kc_X6_isSign m (45 : Int32) hS v1 m2 e3
  refine Cv.go (pc' := 8) (st' := [.int (bz v1)]) (go_callV (As := [.int (45 : Int32)]) (st := []) C4 (by decide) ok_X6_isSign li_X6_isSign ls_X6_isSign lm_X6_198 cls6 (sx_k40 hS) rfl rfl (Nat.le_of_ble_eq_true rfl) dX6_atom0_5) ?_
  have zm2 := C4.1.2.2 rfl
  have hS := hS.sh zm2
  refine Cv.ite (fun h5 => ?_) (fun h5 => ?_)
  · refine Cv.go (pc' := 37) (go_if_eq_t (tgt := 37) dX6_atom0_8 rfl h5) ?_
    refine Cv.go (pc' := 38) (go_aload_n (i := 0) (x := 40) dX6_atom0_37 rfl rfl) ?_
    refine Cv.go (pc' := 40) (go_bipush dX6_atom0_38 ib_40) ?_
    refine Cv.bnd fun v6 m7 e8 => ?_
    have C9 := kc_X6_isSign m2 (40 : Int32) hS v6 m7 e8
    refine Cv.go (pc' := 43) (st' := [.int (bz v6)]) (go_callV (As := [.int (40 : Int32)]) (st := []) C9 (by decide) ok_X6_isSign li_X6_isSign ls_X6_isSign lm_X6_198 cls6 (sx_k40 hS) rfl rfl (Nat.le_of_ble_eq_true rfl) dX6_atom0_40) ?_
    have zm7 := C9.1.2.2 rfl
    have hS := hS.sh zm7
    refine Cv.ite (fun h10 => ?_) (fun h10 => ?_)
    · refine Cv.go (pc' := 95) (go_if_eq_t (tgt := 95) dX6_atom0_43 rfl h10) ?_
      refine Cv.go (pc' := 96) (go_aload_n (i := 0) (x := 40) dX6_atom0_95 rfl rfl) ?_
      refine Cv.go (pc' := 99) (go_getI (i := 24) cls6 (sx_k40 hS) (by decide) rfl lf_X6_156 (by decide) dX6_atom0_96) ?_
      refine Cv.ite (fun h11 => ?_) (fun h11 => ?_)
      · refine Cv.go (pc' := 102) (go_if_ne_f 123 dX6_atom0_99 rfl h11) ?_
        refine Cv.go (pc' := 103) (go_aload_n (i := 0) (x := 40) dX6_atom0_102 rfl rfl) ?_
        refine Cv.go (pc' := 106) (go_getI (i := 20) cls6 (sx_k40 hS) (by decide) rfl lf_X6_139 (by decide) dX6_atom0_103) ?_
        refine Cv.go (pc' := 107) (go_iconst dX6_atom0_106 ic_2) ?_
        refine Cv.ite (fun h12 => ?_) (fun h12 => ?_)
        · refine Cv.go (pc' := 110) (go_icmp_ne_f 123 dX6_atom0_107 rfl h12) ?_
          refine Cv.go (pc' := 111) (go_aload_n (i := 0) (x := 40) dX6_atom0_110 rfl rfl) ?_
          refine Cv.go (pc' := 114) (go_getL (i := 22) cls6 (sx_k40 hS) (by decide) rfl lf_X6_150 rfl dX6_atom0_111) ?_
          refine Cv.go (pc' := 115) (go_l2i dX6_atom0_114) ?_
          refine Cv.namI fun x13 ex13 => ?_
          refine Cv.go (pc' := 116) (ls' := [.ref 40, .int x13]) (go_istore_n dX6_atom0_115 rfl (by decide) rfl) ?_
          refine Cv.go (pc' := 117) (go_aload_n (i := 0) (x := 40) dX6_atom0_116 rfl rfl) ?_
          refine Cv.bnd fun v14 m15 e16 => ?_
          have C17 := kc_X6_next m7 hS v14 m15 e16
          refine Cv.go (pc' := 120) (st' := []) (go_callV (As := []) (st := []) C17 (by decide) ok_X6_next li_X6_next ls_X6_next lm_X6_173 cls6 (sx_k40 hS) rfl rfl (Nat.le_of_ble_eq_true rfl) dX6_atom0_117) ?_
          have zm15 := C17.1.2.2 rfl
          have hS := hS.sh zm15
          refine Cv.go (pc' := 161) (go_goto (tgt := 161) dX6_atom0_120 rfl) ?_
          refine Cv.go (pc' := 162) (go_iload_n (i := 1) (x := x13) dX6_atom0_161 rfl rfl) ?_
          exact Cv.ret dX6_atom0_162 rfl
        · refine Cv.go (pc' := 123) (go_icmp_ne_t (tgt := 123) dX6_atom0_107 rfl h12) ?_
          exact c_X6_atom0_123 m7 (0 : Int32) hS
      · refine Cv.go (pc' := 123) (go_if_ne_t (tgt := 123) dX6_atom0_99 rfl h11) ?_
        exact c_X6_atom0_123 m7 (0 : Int32) hS
    · refine Cv.go (pc' := 46) (go_if_eq_f 95 dX6_atom0_43 rfl h10) ?_
      refine Cv.go (pc' := 47) (go_aload_n (i := 0) (x := 40) dX6_atom0_46 rfl rfl) ?_
      refine Cv.bnd fun v18 m19 e20 => ?_
      have C21 := kc_X6_opens m7 hS v18 m19 e20
      refine Cv.go (pc' := 50) (st' := [.int (bz v18)]) (go_callV (As := []) (st := []) C21 (by decide) ok_X6_opens li_X6_opens ls_X6_opens lm_X6_201 cls6 (sx_k40 hS) rfl rfl (Nat.le_of_ble_eq_true rfl) dX6_atom0_47) ?_
      have zm19 := C21.1.2.2 rfl
      have hS := hS.sh zm19
      refine Cv.ite (fun h22 => ?_) (fun h22 => ?_)
      · refine Cv.go (pc' := 161) (go_if_eq_t (tgt := 161) dX6_atom0_50 rfl h22) ?_
        refine Cv.go (pc' := 162) (go_iload_n (i := 1) (x := (0 : Int32)) dX6_atom0_161 rfl rfl) ?_
        exact Cv.ret dX6_atom0_162 rfl
      · refine Cv.go (pc' := 53) (go_if_eq_f 161 dX6_atom0_50 rfl h22) ?_
        refine Cv.go (pc' := 54) (go_aload_n (i := 0) (x := 40) dX6_atom0_53 rfl rfl) ?_
        refine Cv.bnd fun v23 m24 e25 => ?_
        have C26 := kc_X6_either1 m19 hS v23 m24 e25
        refine Cv.go (pc' := 57) (st' := [.int v23]) (go_callV (As := []) (st := []) C26 (by decide) ok_X6_either1 li_X6_either1 ls_X6_either1 lm_X6_300 cls6 (sx_k40 hS) rfl rfl (Nat.le_of_ble_eq_true rfl) dX6_atom0_54) ?_
        have zm24 := C26.1.2.2 rfl
        have hS := hS.sh zm24
        refine Cv.go (pc' := 58) (ls' := [.ref 40, .int v23]) (go_istore_n dX6_atom0_57 rfl (by decide) rfl) ?_
        refine Cv.go (pc' := 59) (go_aload_n (i := 0) (x := 40) dX6_atom0_58 rfl rfl) ?_
        refine Cv.go (pc' := 61) (go_bipush dX6_atom0_59 ib_41) ?_
        refine Cv.bnd fun v27 m28 e29 => ?_
        have C30 := kc_X6_isSign m24 (41 : Int32) hS v27 m28 e29
        refine Cv.go (pc' := 64) (st' := [.int (bz v27)]) (go_callV (As := [.int (41 : Int32)]) (st := []) C30 (by decide) ok_X6_isSign li_X6_isSign ls_X6_isSign lm_X6_198 cls6 (sx_k40 hS) rfl rfl (Nat.le_of_ble_eq_true rfl) dX6_atom0_61) ?_
        have zm28 := C30.1.2.2 rfl
        have hS := hS.sh zm28
        refine Cv.ite (fun h31 => ?_) (fun h31 => ?_)
        · refine Cv.go (pc' := 67) (go_if_ne_f 71 dX6_atom0_64 rfl h31) ?_
          refine Cv.go (pc' := 68) (go_aload_n (i := 0) (x := 40) dX6_atom0_67 rfl rfl) ?_
          refine Cv.bnd fun v32 m33 e34 => ?_
          have C35 := kc_X6_fail m28 hS v32 m33 e34
          refine Cv.go (pc' := 71) (st' := []) (go_callV (As := []) (st := []) C35 (by decide) ok_X6_fail li_X6_fail ls_X6_fail lm_X6_170 cls6 (sx_k40 hS) rfl rfl (Nat.le_of_ble_eq_true rfl) dX6_atom0_68) ?_
          have zm33 := C35.1.2.2 rfl
          have hS := hS.sh zm33
          exact c_X6_atom0_71 m33 v23 hS
        · refine Cv.go (pc' := 71) (go_if_ne_t (tgt := 71) dX6_atom0_64 rfl h31) ?_
          exact c_X6_atom0_71 m28 v23 hS
  · refine Cv.go (pc' := 11) (go_if_eq_f 37 dX6_atom0_8 rfl h5) ?_
    refine Cv.go (pc' := 12) (go_aload_n (i := 0) (x := 40) dX6_atom0_11 rfl rfl) ?_
    refine Cv.bnd fun v36 m37 e38 => ?_
    have C39 := kc_X6_opens m2 hS v36 m37 e38
    refine Cv.go (pc' := 15) (st' := [.int (bz v36)]) (go_callV (As := []) (st := []) C39 (by decide) ok_X6_opens li_X6_opens ls_X6_opens lm_X6_201 cls6 (sx_k40 hS) rfl rfl (Nat.le_of_ble_eq_true rfl) dX6_atom0_12) ?_
    have zm37 := C39.1.2.2 rfl
    have hS := hS.sh zm37
    refine Cv.ite (fun h40 => ?_) (fun h40 => ?_)
    · refine Cv.go (pc' := 161) (go_if_eq_t (tgt := 161) dX6_atom0_15 rfl h40) ?_
      refine Cv.go (pc' := 162) (go_iload_n (i := 1) (x := (0 : Int32)) dX6_atom0_161 rfl rfl) ?_
      exact Cv.ret dX6_atom0_162 rfl
    · refine Cv.go (pc' := 18) (go_if_eq_f 161 dX6_atom0_15 rfl h40) ?_
      refine Cv.go (pc' := 19) (go_aload_n (i := 0) (x := 40) dX6_atom0_18 rfl rfl) ?_
      refine Cv.bnd fun v41 m42 e43 => ?_
      have C44 := kc_X6_atom1 m37 hS v41 m42 e43
      refine Cv.go (pc' := 22) (st' := [.int v41]) (go_callV (As := []) (st := []) C44 (by decide) ok_X6_atom1 li_X6_atom1 ls_X6_atom1 lm_X6_285 cls6 (sx_k40 hS) rfl rfl (Nat.le_of_ble_eq_true rfl) dX6_atom0_19) ?_
      have zm42 := C44.1.2.2 rfl
      have hS := hS.sh zm42
      refine Cv.go (pc' := 23) (go_ineg dX6_atom0_22) ?_
      refine Cv.namI fun x45 ex45 => ?_
      refine Cv.go (pc' := 24) (ls' := [.ref 40, .int x45]) (go_istore_n dX6_atom0_23 rfl (by decide) rfl) ?_
      refine Cv.go (pc' := 25) (go_aload_n (i := 0) (x := 40) dX6_atom0_24 rfl rfl) ?_
      refine Cv.go (pc' := 26) (go_dup_a dX6_atom0_25) ?_
      refine Cv.go (pc' := 29) (go_getI (i := 23) cls6 (sx_k40 hS) (by decide) rfl lf_X6_167 (by decide) dX6_atom0_26) ?_
      refine Cv.go (pc' := 30) (go_iconst dX6_atom0_29 ic_1) ?_
      refine Cv.go (pc' := 31) (go_isub dX6_atom0_30) ?_
      refine Cv.go (pc' := 34) (go_putI (i := 23) cls6 (sx_k40 hS) (by decide) rfl lf_X6_167 (by decide) rfl rfl rfl dX6_atom0_31) ?_
      refine Cv.namM fun m46 em46 => ?_
      have zm46 : SameSh m42 m46 := em46 ▸ SameSh.d
      have hS := hS.sh zm46
      refine Cv.go (pc' := 161) (go_goto (tgt := 161) dX6_atom0_34 rfl) ?_
      refine Cv.go (pc' := 162) (go_iload_n (i := 1) (x := x45) dX6_atom0_161 rfl rfl) ?_
      exact Cv.ret dX6_atom0_162 rfl
theorem c_X6_term0_5 : ∀ n, ∀ (m : Mem) (a1 : Int32) (hS : ShM m), Cv true (cX6_term0, 2, RX6, 35, ((false, none) : IK)) .ireturn eI (F_X6_term0_5 n m a1) m 5 [.ref 40, .int a1] [] := by
  intro n
  induction n with
  | zero => intro m a1 hS; exact Cv.no
  | succ n ih =>
    intro m a1 hS
    unfold F_X6_term0_5
    refine Cv.go (pc' := 6) (go_aload_n (i := 0) (x := 40) dX6_term0_5 rfl rfl) ?_
    refine Cv.go (pc' := 8) (go_bipush dX6_term0_6 ib_42) ?_
    refine Cv.bnd fun v5 m6 e7 => ?_
    have C8 := kc_X6_isSign m (42 : Int32) hS v5 m6 e7
    refine Cv.go (pc' := 11) (st' := [.int (bz v5)]) (go_callV (As := [.int (42 : Int32)]) (st := []) C8 (by decide) ok_X6_isSign li_X6_isSign ls_X6_isSign lm_X6_198 cls6 (sx_k40 hS) rfl rfl (Nat.le_of_ble_eq_true rfl) dX6_term0_8) ?_
    have zm6 := C8.1.2.2 rfl
    have hS := hS.sh zm6
    refine Cv.ite (fun h9 => ?_) (fun h9 => ?_)
    · refine Cv.go (pc' := 28) (go_if_eq_t (tgt := 28) dX6_term0_11 rfl h9) ?_
      refine Cv.go (pc' := 29) (go_iload_n (i := 1) (x := a1) dX6_term0_28 rfl rfl) ?_
      exact Cv.ret dX6_term0_29 rfl
    · refine Cv.go (pc' := 14) (go_if_eq_f 28 dX6_term0_11 rfl h9) ?_
      refine Cv.go (pc' := 15) (go_aload_n (i := 0) (x := 40) dX6_term0_14 rfl rfl) ?_
      refine Cv.bnd fun v10 m11 e12 => ?_
      have C13 := kc_X6_next m6 hS v10 m11 e12
      refine Cv.go (pc' := 18) (st' := []) (go_callV (As := []) (st := []) C13 (by decide) ok_X6_next li_X6_next ls_X6_next lm_X6_173 cls6 (sx_k40 hS) rfl rfl (Nat.le_of_ble_eq_true rfl) dX6_term0_15) ?_
      have zm11 := C13.1.2.2 rfl
      have hS := hS.sh zm11
      refine Cv.go (pc' := 19) (go_iload_n (i := 1) (x := a1) dX6_term0_18 rfl rfl) ?_
      refine Cv.go (pc' := 20) (go_aload_n (i := 0) (x := 40) dX6_term0_19 rfl rfl) ?_
      refine Cv.bnd fun v14 m15 e16 => ?_
      have C17 := kc_X6_atom0 m11 hS v14 m15 e16
      refine Cv.go (pc' := 23) (st' := [.int v14, .int a1]) (go_callV (As := []) (st := [.int a1]) C17 (by decide) ok_X6_atom0 li_X6_atom0 ls_X6_atom0 lm_X6_303 cls6 (sx_k40 hS) rfl rfl (Nat.le_of_ble_eq_true rfl) dX6_term0_20) ?_
      have zm15 := C17.1.2.2 rfl
      have hS := hS.sh zm15
      refine Cv.go (pc' := 24) (go_imul dX6_term0_23) ?_
      refine Cv.namI fun x18 ex18 => ?_
      refine Cv.go (pc' := 25) (ls' := [.ref 40, .int x18]) (go_istore_n dX6_term0_24 rfl (by decide) rfl) ?_
      refine Cv.go (pc' := 5) (go_goto (tgt := 5) dX6_term0_25 rfl) ?_
      exact ih m15 x18 hS
theorem kc_X6_term0 (m : Mem) (hS : ShM m) : ∀ v mE, F_X6_term0 m = some (v, mE) → Con true kX6_term0 35 [.ref 40] m (eI v) mE := by
  refine Con.of (ini := false) (ls0 := [.ref 40, .null]) (ri := .ireturn) (by decide) (by intro z; cases z) rfl (Nat.le_of_ble_eq_true rfl) (fun v mE _ => RetTy.i) ?_
  show Cv true (cX6_term0, 2, RX6, 35, ((false, none) : IK)) .ireturn eI (F_X6_term0 m) m 0 [.ref 40, .null] []
  unfold F_X6_term0
  refine Cv.go (pc' := 1) (go_aload_n (i := 0) (x := 40) dX6_term0_0 rfl rfl) ?_
  refine Cv.bnd fun v1 m2 e3 => ?_
  have C4 := kc_X6_atom0 m hS v1 m2 e3
  refine Cv.go (pc' := 4) (st' := [.int v1]) (go_callV (As := []) (st := []) C4 (by decide) ok_X6_atom0 li_X6_atom0 ls_X6_atom0 lm_X6_303 cls6 (sx_k40 hS) rfl rfl (Nat.le_of_ble_eq_true rfl) dX6_term0_1) ?_
  have zm2 := C4.1.2.2 rfl
  have hS := hS.sh zm2
  refine Cv.go (pc' := 5) (ls' := [.ref 40, .int v1]) (go_istore_n dX6_term0_4 rfl (by decide) rfl) ?_
  exact c_X6_term0_5 FU m2 v1 hS
theorem c_X6_added0_62 (K5 : Mem → Int32 → Option (Int32 × Mem)) (hK5 : ∀ (m : Mem) (a1 : Int32) (hS : ShM m), Cv true (cX6_added0, 4, RX6, 36, ((false, none) : IK)) .ireturn eI (K5 m a1) m 5 [.ref 40, .int a1, .null, .null] []) : ∀ (m : Mem) (s0 : Int32) (hS : ShM m), Cv true (cX6_added0, 4, RX6, 36, ((false, none) : IK)) .ireturn eI (F_X6_added0_62 K5 m s0) m 62 [.ref 40, .null, .null, .null] [.int s0] := by
  intro m s0 hS
  unfold F_X6_added0_62
  refine Cv.go (pc' := 63) (ls' := [.ref 40, .int s0, .null, .null]) (go_istore_n dX6_added0_62 rfl (by decide) rfl) ?_
  refine Cv.go (pc' := 5) (go_goto (tgt := 5) dX6_added0_63 rfl) ?_
  exact hK5 m s0 hS
theorem c_X6_added0_39 (K5 : Mem → Int32 → Option (Int32 × Mem)) (hK5 : ∀ (m : Mem) (a1 : Int32) (hS : ShM m), Cv true (cX6_added0, 4, RX6, 36, ((false, none) : IK)) .ireturn eI (K5 m a1) m 5 [.ref 40, .int a1, .null, .null] []) : ∀ (m : Mem) (a1 : Int32) (s0 : Int32) (hS : ShM m), Cv true (cX6_added0, 4, RX6, 36, ((false, none) : IK)) .ireturn eI (F_X6_added0_39 K5 m a1 s0) m 39 [.ref 40, .int a1, .null, .null] [.int s0] := by
  intro m a1 s0 hS
  unfold F_X6_added0_39
  refine Cv.go (pc' := 40) (ls' := [.ref 40, .int a1, .int s0, .null]) (go_istore_n dX6_added0_39 rfl (by decide) rfl) ?_
  refine Cv.go (pc' := 41) (go_aload_n (i := 0) (x := 40) dX6_added0_40 rfl rfl) ?_
  refine Cv.bnd fun v16 m17 e18 => ?_
  have C19 := kc_X6_next m hS v16 m17 e18
  refine Cv.go (pc' := 44) (st' := []) (go_callV (As := []) (st := []) C19 (by decide) ok_X6_next li_X6_next ls_X6_next lm_X6_173 cls6 (sx_k40 hS) rfl rfl (Nat.le_of_ble_eq_true rfl) dX6_added0_41) ?_
  have zm17 := C19.1.2.2 rfl
  have hS := hS.sh zm17
  refine Cv.go (pc' := 45) (go_aload_n (i := 0) (x := 40) dX6_added0_44 rfl rfl) ?_
  refine Cv.bnd fun v20 m21 e22 => ?_
  have C23 := kc_X6_term0 m17 hS v20 m21 e22
  refine Cv.go (pc' := 48) (st' := [.int v20]) (go_callV (As := []) (st := []) C23 (by decide) ok_X6_term0 li_X6_term0 ls_X6_term0 lm_X6_306 cls6 (sx_k40 hS) rfl rfl (Nat.le_of_ble_eq_true rfl) dX6_added0_45) ?_
  have zm21 := C23.1.2.2 rfl
  have hS := hS.sh zm21
  refine Cv.go (pc' := 49) (ls' := [.ref 40, .int a1, .int s0, .int v20]) (go_istore_n dX6_added0_48 rfl (by decide) rfl) ?_
  refine Cv.go (pc' := 50) (go_iload_n (i := 2) (x := s0) dX6_added0_49 rfl rfl) ?_
  refine Cv.ite (fun h24 => ?_) (fun h24 => ?_)
  · refine Cv.go (pc' := 59) (go_if_eq_t (tgt := 59) dX6_added0_50 rfl h24) ?_
    refine Cv.go (pc' := 60) (go_iload_n (i := 1) (x := a1) dX6_added0_59 rfl rfl) ?_
    refine Cv.go (pc' := 61) (go_iload_n (i := 3) (x := v20) dX6_added0_60 rfl rfl) ?_
    refine Cv.go (pc' := 62) (go_isub dX6_added0_61) ?_
    refine Cv.weak (ls' := [.ref 40, .null, .null, .null]) (⟨Or.inr rfl, ⟨Or.inl rfl, ⟨Or.inl rfl, ⟨Or.inl rfl, True.intro⟩⟩⟩⟩) ?_
    exact c_X6_added0_62 K5 hK5 m21 (a1 - v20) hS
  · refine Cv.go (pc' := 53) (go_if_eq_f 59 dX6_added0_50 rfl h24) ?_
    refine Cv.go (pc' := 54) (go_iload_n (i := 1) (x := a1) dX6_added0_53 rfl rfl) ?_
    refine Cv.go (pc' := 55) (go_iload_n (i := 3) (x := v20) dX6_added0_54 rfl rfl) ?_
    refine Cv.go (pc' := 56) (go_iadd dX6_added0_55) ?_
    refine Cv.go (pc' := 62) (go_goto (tgt := 62) dX6_added0_56 rfl) ?_
    refine Cv.weak (ls' := [.ref 40, .null, .null, .null]) (⟨Or.inr rfl, ⟨Or.inl rfl, ⟨Or.inl rfl, ⟨Or.inl rfl, True.intro⟩⟩⟩⟩) ?_
    exact c_X6_added0_62 K5 hK5 m21 (a1 + v20) hS
theorem c_X6_added0_23 (K5 : Mem → Int32 → Option (Int32 × Mem)) (hK5 : ∀ (m : Mem) (a1 : Int32) (hS : ShM m), Cv true (cX6_added0, 4, RX6, 36, ((false, none) : IK)) .ireturn eI (K5 m a1) m 5 [.ref 40, .int a1, .null, .null] []) : ∀ (m : Mem) (a1 : Int32) (hS : ShM m), Cv true (cX6_added0, 4, RX6, 36, ((false, none) : IK)) .ireturn eI (F_X6_added0_23 K5 m a1) m 23 [.ref 40, .int a1, .null, .null] [] := by
  intro m a1 hS
  unfold F_X6_added0_23
  refine Cv.go (pc' := 24) (go_aload_n (i := 0) (x := 40) dX6_added0_23 rfl rfl) ?_
  refine Cv.go (pc' := 27) (go_getL (i := 22) cls6 (sx_k40 hS) (by decide) rfl lf_X6_150 rfl dX6_added0_24) ?_
  refine Cv.go (pc' := 30) (go_ldc2 dX6_added0_27 ll_X6_215) ?_
  refine Cv.go (pc' := 31) (go_lcmp dX6_added0_30) ?_
  refine Cv.ite (fun h15 => ?_) (fun h15 => ?_)
  · refine Cv.go (pc' := 34) (go_if_ne_f 38 dX6_added0_31 rfl h15) ?_
    refine Cv.go (pc' := 35) (go_iconst dX6_added0_34 ic_1) ?_
    refine Cv.go (pc' := 39) (go_goto (tgt := 39) dX6_added0_35 rfl) ?_
    exact c_X6_added0_39 K5 hK5 m a1 (1 : Int32) hS
  · refine Cv.go (pc' := 38) (go_if_ne_t (tgt := 38) dX6_added0_31 rfl h15) ?_
    refine Cv.go (pc' := 39) (go_iconst dX6_added0_38 ic_0) ?_
    exact c_X6_added0_39 K5 hK5 m a1 (0 : Int32) hS
theorem c_X6_added0_5 : ∀ n, ∀ (m : Mem) (a1 : Int32) (hS : ShM m), Cv true (cX6_added0, 4, RX6, 36, ((false, none) : IK)) .ireturn eI (F_X6_added0_5 n m a1) m 5 [.ref 40, .int a1, .null, .null] [] := by
  intro n
  induction n with
  | zero => intro m a1 hS; exact Cv.no
  | succ n ih =>
    intro m a1 hS
    unfold F_X6_added0_5
    refine Cv.go (pc' := 6) (go_aload_n (i := 0) (x := 40) dX6_added0_5 rfl rfl) ?_
    refine Cv.go (pc' := 8) (go_bipush dX6_added0_6 ib_43) ?_
    refine Cv.bnd fun v5 m6 e7 => ?_
    have C8 := kc_X6_isSign m (43 : Int32) hS v5 m6 e7
    refine Cv.go (pc' := 11) (st' := [.int (bz v5)]) (go_callV (As := [.int (43 : Int32)]) (st := []) C8 (by decide) ok_X6_isSign li_X6_isSign ls_X6_isSign lm_X6_198 cls6 (sx_k40 hS) rfl rfl (Nat.le_of_ble_eq_true rfl) dX6_added0_8) ?_
    have zm6 := C8.1.2.2 rfl
    have hS := hS.sh zm6
    refine Cv.ite (fun h9 => ?_) (fun h9 => ?_)
    · refine Cv.go (pc' := 14) (go_if_ne_f 23 dX6_added0_11 rfl h9) ?_
      refine Cv.go (pc' := 15) (go_aload_n (i := 0) (x := 40) dX6_added0_14 rfl rfl) ?_
      refine Cv.go (pc' := 17) (go_bipush dX6_added0_15 ib_45) ?_
      refine Cv.bnd fun v10 m11 e12 => ?_
      have C13 := kc_X6_isSign m6 (45 : Int32) hS v10 m11 e12
      refine Cv.go (pc' := 20) (st' := [.int (bz v10)]) (go_callV (As := [.int (45 : Int32)]) (st := []) C13 (by decide) ok_X6_isSign li_X6_isSign ls_X6_isSign lm_X6_198 cls6 (sx_k40 hS) rfl rfl (Nat.le_of_ble_eq_true rfl) dX6_added0_17) ?_
      have zm11 := C13.1.2.2 rfl
      have hS := hS.sh zm11
      refine Cv.ite (fun h14 => ?_) (fun h14 => ?_)
      · refine Cv.go (pc' := 66) (go_if_eq_t (tgt := 66) dX6_added0_20 rfl h14) ?_
        refine Cv.go (pc' := 67) (go_iload_n (i := 1) (x := a1) dX6_added0_66 rfl rfl) ?_
        exact Cv.ret dX6_added0_67 rfl
      · refine Cv.go (pc' := 23) (go_if_eq_f 66 dX6_added0_20 rfl h14) ?_
        exact c_X6_added0_23 (F_X6_added0_5 n) ih m11 a1 hS
    · refine Cv.go (pc' := 23) (go_if_ne_t (tgt := 23) dX6_added0_11 rfl h9) ?_
      exact c_X6_added0_23 (F_X6_added0_5 n) ih m6 a1 hS
theorem kc_X6_added0 (m : Mem) (hS : ShM m) : ∀ v mE, F_X6_added0 m = some (v, mE) → Con true kX6_added0 36 [.ref 40] m (eI v) mE := by
  refine Con.of (ini := false) (ls0 := [.ref 40, .null, .null, .null]) (ri := .ireturn) (by decide) (by intro z; cases z) rfl (Nat.le_of_ble_eq_true rfl) (fun v mE _ => RetTy.i) ?_
  show Cv true (cX6_added0, 4, RX6, 36, ((false, none) : IK)) .ireturn eI (F_X6_added0 m) m 0 [.ref 40, .null, .null, .null] []
  unfold F_X6_added0
  refine Cv.go (pc' := 1) (go_aload_n (i := 0) (x := 40) dX6_added0_0 rfl rfl) ?_
  refine Cv.bnd fun v1 m2 e3 => ?_
  have C4 := kc_X6_term0 m hS v1 m2 e3
  refine Cv.go (pc' := 4) (st' := [.int v1]) (go_callV (As := []) (st := []) C4 (by decide) ok_X6_term0 li_X6_term0 ls_X6_term0 lm_X6_306 cls6 (sx_k40 hS) rfl rfl (Nat.le_of_ble_eq_true rfl) dX6_added0_1) ?_
  have zm2 := C4.1.2.2 rfl
  have hS := hS.sh zm2
  refine Cv.go (pc' := 5) (ls' := [.ref 40, .int v1, .null, .null]) (go_istore_n dX6_added0_4 rfl (by decide) rfl) ?_
  exact c_X6_added0_5 FU m2 v1 hS
theorem c_X6_not0_93 : ∀ (m : Mem) (a1 : Int32) (s0 : Int32) (hS : ShM m), Cv true (cX6_not0, 4, RX6, 37, ((false, none) : IK)) .ireturn eI (F_X6_not0_93 m a1 s0) m 93 [.ref 40, .int a1, .null, .null] [.int s0] := by
  intro m a1 s0 hS
  unfold F_X6_not0_93
  refine Cv.go (pc' := 94) (ls' := [.ref 40, .int a1, .int s0, .null]) (go_istore_n dX6_not0_93 rfl (by decide) rfl) ?_
  refine Cv.go (pc' := 95) (go_aload_n (i := 0) (x := 40) dX6_not0_94 rfl rfl) ?_
  refine Cv.bnd fun v32 m33 e34 => ?_
  have C35 := kc_X6_next m hS v32 m33 e34
  refine Cv.go (pc' := 98) (st' := []) (go_callV (As := []) (st := []) C35 (by decide) ok_X6_next li_X6_next ls_X6_next lm_X6_173 cls6 (sx_k40 hS) rfl rfl (Nat.le_of_ble_eq_true rfl) dX6_not0_95) ?_
  have zm33 := C35.1.2.2 rfl
  have hS := hS.sh zm33
  refine Cv.go (pc' := 99) (go_aload_n (i := 0) (x := 40) dX6_not0_98 rfl rfl) ?_
  refine Cv.bnd fun v36 m37 e38 => ?_
  have C39 := kc_X6_added0 m33 hS v36 m37 e38
  refine Cv.go (pc' := 102) (st' := [.int v36]) (go_callV (As := []) (st := []) C39 (by decide) ok_X6_added0 li_X6_added0 ls_X6_added0 lm_X6_309 cls6 (sx_k40 hS) rfl rfl (Nat.le_of_ble_eq_true rfl) dX6_not0_99) ?_
  have zm37 := C39.1.2.2 rfl
  have hS := hS.sh zm37
  refine Cv.go (pc' := 103) (ls' := [.ref 40, .int a1, .int s0, .int v36]) (go_istore_n dX6_not0_102 rfl (by decide) rfl) ?_
  refine Cv.go (pc' := 104) (go_iload_n (i := 2) (x := s0) dX6_not0_103 rfl rfl) ?_
  refine Cv.ite (fun h40 => ?_) (fun h40 => ?_)
  · refine Cv.go (pc' := 115) (go_if_eq_t (tgt := 115) dX6_not0_104 rfl h40) ?_
    refine Cv.go (pc' := 116) (go_iload_n (i := 1) (x := a1) dX6_not0_115 rfl rfl) ?_
    refine Cv.go (pc' := 117) (go_iload_n (i := 3) (x := v36) dX6_not0_116 rfl rfl) ?_
    refine Cv.ite (fun h41 => ?_) (fun h41 => ?_)
    · refine Cv.go (pc' := 120) (go_icmp_ne_f 124 dX6_not0_117 rfl h41) ?_
      refine Cv.go (pc' := 121) (go_iconst dX6_not0_120 ic_1) ?_
      refine Cv.go (pc' := 125) (go_goto (tgt := 125) dX6_not0_121 rfl) ?_
      exact Cv.ret dX6_not0_125 rfl
    · refine Cv.go (pc' := 124) (go_icmp_ne_t (tgt := 124) dX6_not0_117 rfl h41) ?_
      refine Cv.go (pc' := 125) (go_iconst dX6_not0_124 ic_0) ?_
      exact Cv.ret dX6_not0_125 rfl
  · refine Cv.go (pc' := 107) (go_if_eq_f 115 dX6_not0_104 rfl h40) ?_
    refine Cv.go (pc' := 108) (go_iload_n (i := 1) (x := a1) dX6_not0_107 rfl rfl) ?_
    refine Cv.go (pc' := 109) (go_iload_n (i := 3) (x := v36) dX6_not0_108 rfl rfl) ?_
    refine Cv.ite (fun h42 => ?_) (fun h42 => ?_)
    · refine Cv.go (pc' := 124) (go_icmp_ge_t (tgt := 124) dX6_not0_109 rfl h42) ?_
      refine Cv.go (pc' := 125) (go_iconst dX6_not0_124 ic_0) ?_
      exact Cv.ret dX6_not0_125 rfl
    · refine Cv.go (pc' := 112) (go_icmp_ge_f 124 dX6_not0_109 rfl h42) ?_
      refine Cv.go (pc' := 120) (go_goto (tgt := 120) dX6_not0_112 rfl) ?_
      refine Cv.go (pc' := 121) (go_iconst dX6_not0_120 ic_1) ?_
      refine Cv.go (pc' := 125) (go_goto (tgt := 125) dX6_not0_121 rfl) ?_
      exact Cv.ret dX6_not0_125 rfl
theorem c_X6_not0_77 : ∀ (m : Mem) (a1 : Int32) (hS : ShM m), Cv true (cX6_not0, 4, RX6, 37, ((false, none) : IK)) .ireturn eI (F_X6_not0_77 m a1) m 77 [.ref 40, .int a1, .null, .null] [] := by
  intro m a1 hS
  unfold F_X6_not0_77
  refine Cv.go (pc' := 78) (go_aload_n (i := 0) (x := 40) dX6_not0_77 rfl rfl) ?_
  refine Cv.go (pc' := 81) (go_getL (i := 22) cls6 (sx_k40 hS) (by decide) rfl lf_X6_150 rfl dX6_not0_78) ?_
  refine Cv.go (pc' := 84) (go_ldc2 dX6_not0_81 ll_X6_220) ?_
  refine Cv.go (pc' := 85) (go_lcmp dX6_not0_84) ?_
  refine Cv.ite (fun h31 => ?_) (fun h31 => ?_)
  · refine Cv.go (pc' := 88) (go_if_ne_f 92 dX6_not0_85 rfl h31) ?_
    refine Cv.go (pc' := 89) (go_iconst dX6_not0_88 ic_1) ?_
    refine Cv.go (pc' := 93) (go_goto (tgt := 93) dX6_not0_89 rfl) ?_
    exact c_X6_not0_93 m a1 (1 : Int32) hS
  · refine Cv.go (pc' := 92) (go_if_ne_t (tgt := 92) dX6_not0_85 rfl h31) ?_
    refine Cv.go (pc' := 93) (go_iconst dX6_not0_92 ic_0) ?_
    exact c_X6_not0_93 m a1 (0 : Int32) hS
theorem kc_X6_not0 (m : Mem) (hS : ShM m) : ∀ v mE, F_X6_not0 m = some (v, mE) → Con true kX6_not0 37 [.ref 40] m (eI v) mE := by
  refine Con.of (ini := false) (ls0 := [.ref 40, .null, .null, .null]) (ri := .ireturn) (by decide) (by intro z; cases z) rfl (Nat.le_of_ble_eq_true rfl) (fun v mE _ => RetTy.i) ?_
  show Cv true (cX6_not0, 4, RX6, 37, ((false, none) : IK)) .ireturn eI (F_X6_not0 m) m 0 [.ref 40, .null, .null, .null] []
  unfold F_X6_not0
  refine Cv.go (pc' := 1) (go_aload_n (i := 0) (x := 40) dX6_not0_0 rfl rfl) ?_
  refine Cv.go (pc' := 3) (go_bipush dX6_not0_1 ib_110) ?_
  refine Cv.go (pc' := 5) (go_bipush dX6_not0_3 ib_111) ?_
  refine Cv.go (pc' := 7) (go_bipush dX6_not0_5 ib_116) ?_
  refine Cv.go (pc' := 8) (go_iconst dX6_not0_7 ic_0) ?_
  refine Cv.go (pc' := 9) (go_iconst dX6_not0_8 ic_0) ?_
  refine Cv.go (pc' := 10) (go_iconst dX6_not0_9 ic_0) ?_
  refine Cv.go (pc' := 11) (go_iconst dX6_not0_10 ic_0) ?_
  refine Cv.go (pc' := 12) (go_iconst dX6_not0_11 ic_0) ?_
  refine Cv.bnd fun v1 m2 e3 => ?_
  have C4 := kc_X6_isWord m (110 : Int32) (111 : Int32) (116 : Int32) (0 : Int32) (0 : Int32) (0 : Int32) (0 : Int32) (0 : Int32) hS v1 m2 e3
  refine Cv.go (pc' := 15) (st' := [.int (bz v1)]) (go_callV (As := [.int (110 : Int32), .int (111 : Int32), .int (116 : Int32), .int (0 : Int32), .int (0 : Int32), .int (0 : Int32), .int (0 : Int32), .int (0 : Int32)]) (st := []) C4 (by decide) ok_X6_isWord li_X6_isWord ls_X6_isWord lm_X6_176 cls6 (sx_k40 hS) rfl rfl (Nat.le_of_ble_eq_true rfl) dX6_not0_12) ?_
  have zm2 := C4.1.2.2 rfl
  have hS := hS.sh zm2
  refine Cv.ite (fun h5 => ?_) (fun h5 => ?_)
  · refine Cv.go (pc' := 52) (go_if_eq_t (tgt := 52) dX6_not0_15 rfl h5) ?_
    refine Cv.go (pc' := 53) (go_aload_n (i := 0) (x := 40) dX6_not0_52 rfl rfl) ?_
    refine Cv.bnd fun v6 m7 e8 => ?_
    have C9 := kc_X6_added0 m2 hS v6 m7 e8
    refine Cv.go (pc' := 56) (st' := [.int v6]) (go_callV (As := []) (st := []) C9 (by decide) ok_X6_added0 li_X6_added0 ls_X6_added0 lm_X6_309 cls6 (sx_k40 hS) rfl rfl (Nat.le_of_ble_eq_true rfl) dX6_not0_53) ?_
    have zm7 := C9.1.2.2 rfl
    have hS := hS.sh zm7
    refine Cv.go (pc' := 57) (ls' := [.ref 40, .int v6, .null, .null]) (go_istore_n dX6_not0_56 rfl (by decide) rfl) ?_
    refine Cv.go (pc' := 58) (go_aload_n (i := 0) (x := 40) dX6_not0_57 rfl rfl) ?_
    refine Cv.go (pc' := 60) (go_bipush dX6_not0_58 ib_60) ?_
    refine Cv.bnd fun v10 m11 e12 => ?_
    have C13 := kc_X6_isSign m7 (60 : Int32) hS v10 m11 e12
    refine Cv.go (pc' := 63) (st' := [.int (bz v10)]) (go_callV (As := [.int (60 : Int32)]) (st := []) C13 (by decide) ok_X6_isSign li_X6_isSign ls_X6_isSign lm_X6_198 cls6 (sx_k40 hS) rfl rfl (Nat.le_of_ble_eq_true rfl) dX6_not0_60) ?_
    have zm11 := C13.1.2.2 rfl
    have hS := hS.sh zm11
    refine Cv.ite (fun h14 => ?_) (fun h14 => ?_)
    · refine Cv.go (pc' := 66) (go_if_ne_f 77 dX6_not0_63 rfl h14) ?_
      refine Cv.go (pc' := 67) (go_aload_n (i := 0) (x := 40) dX6_not0_66 rfl rfl) ?_
      refine Cv.go (pc' := 69) (go_bipush dX6_not0_67 ib_61) ?_
      refine Cv.bnd fun v15 m16 e17 => ?_
      have C18 := kc_X6_isSign m11 (61 : Int32) hS v15 m16 e17
      refine Cv.go (pc' := 72) (st' := [.int (bz v15)]) (go_callV (As := [.int (61 : Int32)]) (st := []) C18 (by decide) ok_X6_isSign li_X6_isSign ls_X6_isSign lm_X6_198 cls6 (sx_k40 hS) rfl rfl (Nat.le_of_ble_eq_true rfl) dX6_not0_69) ?_
      have zm16 := C18.1.2.2 rfl
      have hS := hS.sh zm16
      refine Cv.ite (fun h19 => ?_) (fun h19 => ?_)
      · refine Cv.go (pc' := 75) (go_if_ne_f 77 dX6_not0_72 rfl h19) ?_
        refine Cv.go (pc' := 76) (go_iload_n (i := 1) (x := v6) dX6_not0_75 rfl rfl) ?_
        exact Cv.ret dX6_not0_76 rfl
      · refine Cv.go (pc' := 77) (go_if_ne_t (tgt := 77) dX6_not0_72 rfl h19) ?_
        exact c_X6_not0_77 m16 v6 hS
    · refine Cv.go (pc' := 77) (go_if_ne_t (tgt := 77) dX6_not0_63 rfl h14) ?_
      exact c_X6_not0_77 m11 v6 hS
  · refine Cv.go (pc' := 18) (go_if_eq_f 52 dX6_not0_15 rfl h5) ?_
    refine Cv.go (pc' := 19) (go_aload_n (i := 0) (x := 40) dX6_not0_18 rfl rfl) ?_
    refine Cv.bnd fun v20 m21 e22 => ?_
    have C23 := kc_X6_opens m2 hS v20 m21 e22
    refine Cv.go (pc' := 22) (st' := [.int (bz v20)]) (go_callV (As := []) (st := []) C23 (by decide) ok_X6_opens li_X6_opens ls_X6_opens lm_X6_201 cls6 (sx_k40 hS) rfl rfl (Nat.le_of_ble_eq_true rfl) dX6_not0_19) ?_
    have zm21 := C23.1.2.2 rfl
    have hS := hS.sh zm21
    refine Cv.ite (fun h24 => ?_) (fun h24 => ?_)
    · refine Cv.go (pc' := 25) (go_if_ne_f 27 dX6_not0_22 rfl h24) ?_
      refine Cv.go (pc' := 26) (go_iconst dX6_not0_25 ic_0) ?_
      exact Cv.ret dX6_not0_26 rfl
    · refine Cv.go (pc' := 27) (go_if_ne_t (tgt := 27) dX6_not0_22 rfl h24) ?_
      refine Cv.go (pc' := 28) (go_aload_n (i := 0) (x := 40) dX6_not0_27 rfl rfl) ?_
      refine Cv.bnd fun v25 m26 e27 => ?_
      have C28 := kc_X6_not1 m21 hS v25 m26 e27
      refine Cv.go (pc' := 31) (st' := [.int v25]) (go_callV (As := []) (st := []) C28 (by decide) ok_X6_not1 li_X6_not1 ls_X6_not1 lm_X6_294 cls6 (sx_k40 hS) rfl rfl (Nat.le_of_ble_eq_true rfl) dX6_not0_28) ?_
      have zm26 := C28.1.2.2 rfl
      have hS := hS.sh zm26
      refine Cv.go (pc' := 32) (ls' := [.ref 40, .int v25, .null, .null]) (go_istore_n dX6_not0_31 rfl (by decide) rfl) ?_
      refine Cv.go (pc' := 33) (go_aload_n (i := 0) (x := 40) dX6_not0_32 rfl rfl) ?_
      refine Cv.go (pc' := 34) (go_dup_a dX6_not0_33) ?_
      refine Cv.go (pc' := 37) (go_getI (i := 23) cls6 (sx_k40 hS) (by decide) rfl lf_X6_167 (by decide) dX6_not0_34) ?_
      refine Cv.go (pc' := 38) (go_iconst dX6_not0_37 ic_1) ?_
      refine Cv.go (pc' := 39) (go_isub dX6_not0_38) ?_
      refine Cv.go (pc' := 42) (go_putI (i := 23) cls6 (sx_k40 hS) (by decide) rfl lf_X6_167 (by decide) rfl rfl rfl dX6_not0_39) ?_
      refine Cv.namM fun m29 em29 => ?_
      have zm29 : SameSh m26 m29 := em29 ▸ SameSh.d
      have hS := hS.sh zm29
      refine Cv.go (pc' := 43) (go_iload_n (i := 1) (x := v25) dX6_not0_42 rfl rfl) ?_
      refine Cv.ite (fun h30 => ?_) (fun h30 => ?_)
      · refine Cv.go (pc' := 46) (go_if_ne_f 50 dX6_not0_43 rfl h30) ?_
        refine Cv.go (pc' := 47) (go_iconst dX6_not0_46 ic_1) ?_
        refine Cv.go (pc' := 51) (go_goto (tgt := 51) dX6_not0_47 rfl) ?_
        exact Cv.ret dX6_not0_51 rfl
      · refine Cv.go (pc' := 50) (go_if_ne_t (tgt := 50) dX6_not0_43 rfl h30) ?_
        refine Cv.go (pc' := 51) (go_iconst dX6_not0_50 ic_0) ?_
        exact Cv.ret dX6_not0_51 rfl
theorem c_X6_both0_45 (K5 : Mem → Int32 → Option (Int32 × Mem)) (hK5 : ∀ (m : Mem) (a1 : Int32) (hS : ShM m), Cv true (cX6_both0, 3, RX6, 38, ((false, none) : IK)) .ireturn eI (K5 m a1) m 5 [.ref 40, .int a1, .null] []) : ∀ (m : Mem) (s0 : Int32) (hS : ShM m), Cv true (cX6_both0, 3, RX6, 38, ((false, none) : IK)) .ireturn eI (F_X6_both0_45 K5 m s0) m 45 [.ref 40, .null, .null] [.int s0] := by
  intro m s0 hS
  unfold F_X6_both0_45
  refine Cv.go (pc' := 46) (ls' := [.ref 40, .int s0, .null]) (go_istore_n dX6_both0_45 rfl (by decide) rfl) ?_
  refine Cv.go (pc' := 5) (go_goto (tgt := 5) dX6_both0_46 rfl) ?_
  exact hK5 m s0 hS
theorem c_X6_both0_44 (K5 : Mem → Int32 → Option (Int32 × Mem)) (hK5 : ∀ (m : Mem) (a1 : Int32) (hS : ShM m), Cv true (cX6_both0, 3, RX6, 38, ((false, none) : IK)) .ireturn eI (K5 m a1) m 5 [.ref 40, .int a1, .null] []) : ∀ (m : Mem) (hS : ShM m), Cv true (cX6_both0, 3, RX6, 38, ((false, none) : IK)) .ireturn eI (F_X6_both0_44 K5 m) m 44 [.ref 40, .null, .null] [] := by
  intro m hS
  unfold F_X6_both0_44
  refine Cv.go (pc' := 45) (go_iconst dX6_both0_44 ic_0) ?_
  exact c_X6_both0_45 K5 hK5 m (0 : Int32) hS
theorem c_X6_both0_5 : ∀ n, ∀ (m : Mem) (a1 : Int32) (hS : ShM m), Cv true (cX6_both0, 3, RX6, 38, ((false, none) : IK)) .ireturn eI (F_X6_both0_5 n m a1) m 5 [.ref 40, .int a1, .null] [] := by
  intro n
  induction n with
  | zero => intro m a1 hS; exact Cv.no
  | succ n ih =>
    intro m a1 hS
    unfold F_X6_both0_5
    refine Cv.go (pc' := 6) (go_aload_n (i := 0) (x := 40) dX6_both0_5 rfl rfl) ?_
    refine Cv.go (pc' := 8) (go_bipush dX6_both0_6 ib_97) ?_
    refine Cv.go (pc' := 10) (go_bipush dX6_both0_8 ib_110) ?_
    refine Cv.go (pc' := 12) (go_bipush dX6_both0_10 ib_100) ?_
    refine Cv.go (pc' := 13) (go_iconst dX6_both0_12 ic_0) ?_
    refine Cv.go (pc' := 14) (go_iconst dX6_both0_13 ic_0) ?_
    refine Cv.go (pc' := 15) (go_iconst dX6_both0_14 ic_0) ?_
    refine Cv.go (pc' := 16) (go_iconst dX6_both0_15 ic_0) ?_
    refine Cv.go (pc' := 17) (go_iconst dX6_both0_16 ic_0) ?_
    refine Cv.bnd fun v5 m6 e7 => ?_
    have C8 := kc_X6_isWord m (97 : Int32) (110 : Int32) (100 : Int32) (0 : Int32) (0 : Int32) (0 : Int32) (0 : Int32) (0 : Int32) hS v5 m6 e7
    refine Cv.go (pc' := 20) (st' := [.int (bz v5)]) (go_callV (As := [.int (97 : Int32), .int (110 : Int32), .int (100 : Int32), .int (0 : Int32), .int (0 : Int32), .int (0 : Int32), .int (0 : Int32), .int (0 : Int32)]) (st := []) C8 (by decide) ok_X6_isWord li_X6_isWord ls_X6_isWord lm_X6_176 cls6 (sx_k40 hS) rfl rfl (Nat.le_of_ble_eq_true rfl) dX6_both0_17) ?_
    have zm6 := C8.1.2.2 rfl
    have hS := hS.sh zm6
    refine Cv.ite (fun h9 => ?_) (fun h9 => ?_)
    · refine Cv.go (pc' := 49) (go_if_eq_t (tgt := 49) dX6_both0_20 rfl h9) ?_
      refine Cv.go (pc' := 50) (go_iload_n (i := 1) (x := a1) dX6_both0_49 rfl rfl) ?_
      exact Cv.ret dX6_both0_50 rfl
    · refine Cv.go (pc' := 23) (go_if_eq_f 49 dX6_both0_20 rfl h9) ?_
      refine Cv.go (pc' := 24) (go_aload_n (i := 0) (x := 40) dX6_both0_23 rfl rfl) ?_
      refine Cv.bnd fun v10 m11 e12 => ?_
      have C13 := kc_X6_next m6 hS v10 m11 e12
      refine Cv.go (pc' := 27) (st' := []) (go_callV (As := []) (st := []) C13 (by decide) ok_X6_next li_X6_next ls_X6_next lm_X6_173 cls6 (sx_k40 hS) rfl rfl (Nat.le_of_ble_eq_true rfl) dX6_both0_24) ?_
      have zm11 := C13.1.2.2 rfl
      have hS := hS.sh zm11
      refine Cv.go (pc' := 28) (go_aload_n (i := 0) (x := 40) dX6_both0_27 rfl rfl) ?_
      refine Cv.bnd fun v14 m15 e16 => ?_
      have C17 := kc_X6_not0 m11 hS v14 m15 e16
      refine Cv.go (pc' := 31) (st' := [.int v14]) (go_callV (As := []) (st := []) C17 (by decide) ok_X6_not0 li_X6_not0 ls_X6_not0 lm_X6_312 cls6 (sx_k40 hS) rfl rfl (Nat.le_of_ble_eq_true rfl) dX6_both0_28) ?_
      have zm15 := C17.1.2.2 rfl
      have hS := hS.sh zm15
      refine Cv.go (pc' := 32) (ls' := [.ref 40, .int a1, .int v14]) (go_istore_n dX6_both0_31 rfl (by decide) rfl) ?_
      refine Cv.go (pc' := 33) (go_iload_n (i := 1) (x := a1) dX6_both0_32 rfl rfl) ?_
      refine Cv.ite (fun h18 => ?_) (fun h18 => ?_)
      · refine Cv.go (pc' := 44) (go_if_eq_t (tgt := 44) dX6_both0_33 rfl h18) ?_
        refine Cv.weak (ls' := [.ref 40, .null, .null]) (⟨Or.inr rfl, ⟨Or.inl rfl, ⟨Or.inl rfl, True.intro⟩⟩⟩) ?_
        exact c_X6_both0_44 (F_X6_both0_5 n) ih m15 hS
      · refine Cv.go (pc' := 36) (go_if_eq_f 44 dX6_both0_33 rfl h18) ?_
        refine Cv.go (pc' := 37) (go_iload_n (i := 2) (x := v14) dX6_both0_36 rfl rfl) ?_
        refine Cv.ite (fun h19 => ?_) (fun h19 => ?_)
        · refine Cv.go (pc' := 44) (go_if_eq_t (tgt := 44) dX6_both0_37 rfl h19) ?_
          refine Cv.weak (ls' := [.ref 40, .null, .null]) (⟨Or.inr rfl, ⟨Or.inl rfl, ⟨Or.inl rfl, True.intro⟩⟩⟩) ?_
          exact c_X6_both0_44 (F_X6_both0_5 n) ih m15 hS
        · refine Cv.go (pc' := 40) (go_if_eq_f 44 dX6_both0_37 rfl h19) ?_
          refine Cv.go (pc' := 41) (go_iconst dX6_both0_40 ic_1) ?_
          refine Cv.go (pc' := 45) (go_goto (tgt := 45) dX6_both0_41 rfl) ?_
          refine Cv.weak (ls' := [.ref 40, .null, .null]) (⟨Or.inr rfl, ⟨Or.inl rfl, ⟨Or.inl rfl, True.intro⟩⟩⟩) ?_
          exact c_X6_both0_45 (F_X6_both0_5 n) ih m15 (1 : Int32) hS
theorem kc_X6_both0 (m : Mem) (hS : ShM m) : ∀ v mE, F_X6_both0 m = some (v, mE) → Con true kX6_both0 38 [.ref 40] m (eI v) mE := by
  refine Con.of (ini := false) (ls0 := [.ref 40, .null, .null]) (ri := .ireturn) (by decide) (by intro z; cases z) rfl (Nat.le_of_ble_eq_true rfl) (fun v mE _ => RetTy.i) ?_
  show Cv true (cX6_both0, 3, RX6, 38, ((false, none) : IK)) .ireturn eI (F_X6_both0 m) m 0 [.ref 40, .null, .null] []
  unfold F_X6_both0
  refine Cv.go (pc' := 1) (go_aload_n (i := 0) (x := 40) dX6_both0_0 rfl rfl) ?_
  refine Cv.bnd fun v1 m2 e3 => ?_
  have C4 := kc_X6_not0 m hS v1 m2 e3
  refine Cv.go (pc' := 4) (st' := [.int v1]) (go_callV (As := []) (st := []) C4 (by decide) ok_X6_not0 li_X6_not0 ls_X6_not0 lm_X6_312 cls6 (sx_k40 hS) rfl rfl (Nat.le_of_ble_eq_true rfl) dX6_both0_1) ?_
  have zm2 := C4.1.2.2 rfl
  have hS := hS.sh zm2
  refine Cv.go (pc' := 5) (ls' := [.ref 40, .int v1, .null]) (go_istore_n dX6_both0_4 rfl (by decide) rfl) ?_
  exact c_X6_both0_5 FU m2 v1 hS
theorem c_X6_either0_44 (K5 : Mem → Int32 → Option (Int32 × Mem)) (hK5 : ∀ (m : Mem) (a1 : Int32) (hS : ShM m), Cv true (cX6_either0, 3, RX6, 39, ((false, none) : IK)) .ireturn eI (K5 m a1) m 5 [.ref 40, .int a1, .null] []) : ∀ (m : Mem) (s0 : Int32) (hS : ShM m), Cv true (cX6_either0, 3, RX6, 39, ((false, none) : IK)) .ireturn eI (F_X6_either0_44 K5 m s0) m 44 [.ref 40, .null, .null] [.int s0] := by
  intro m s0 hS
  unfold F_X6_either0_44
  refine Cv.go (pc' := 45) (ls' := [.ref 40, .int s0, .null]) (go_istore_n dX6_either0_44 rfl (by decide) rfl) ?_
  refine Cv.go (pc' := 5) (go_goto (tgt := 5) dX6_either0_45 rfl) ?_
  exact hK5 m s0 hS
theorem c_X6_either0_39 (K5 : Mem → Int32 → Option (Int32 × Mem)) (hK5 : ∀ (m : Mem) (a1 : Int32) (hS : ShM m), Cv true (cX6_either0, 3, RX6, 39, ((false, none) : IK)) .ireturn eI (K5 m a1) m 5 [.ref 40, .int a1, .null] []) : ∀ (m : Mem) (hS : ShM m), Cv true (cX6_either0, 3, RX6, 39, ((false, none) : IK)) .ireturn eI (F_X6_either0_39 K5 m) m 39 [.ref 40, .null, .null] [] := by
  intro m hS
  unfold F_X6_either0_39
  refine Cv.go (pc' := 40) (go_iconst dX6_either0_39 ic_1) ?_
  refine Cv.go (pc' := 44) (go_goto (tgt := 44) dX6_either0_40 rfl) ?_
  exact c_X6_either0_44 K5 hK5 m (1 : Int32) hS
theorem c_X6_either0_5 : ∀ n, ∀ (m : Mem) (a1 : Int32) (hS : ShM m), Cv true (cX6_either0, 3, RX6, 39, ((false, none) : IK)) .ireturn eI (F_X6_either0_5 n m a1) m 5 [.ref 40, .int a1, .null] [] := by
  intro n
  induction n with
  | zero => intro m a1 hS; exact Cv.no
  | succ n ih =>
    intro m a1 hS
    unfold F_X6_either0_5
    refine Cv.go (pc' := 6) (go_aload_n (i := 0) (x := 40) dX6_either0_5 rfl rfl) ?_
    refine Cv.go (pc' := 8) (go_bipush dX6_either0_6 ib_111) ?_
    refine Cv.go (pc' := 10) (go_bipush dX6_either0_8 ib_114) ?_
    refine Cv.go (pc' := 11) (go_iconst dX6_either0_10 ic_0) ?_
    refine Cv.go (pc' := 12) (go_iconst dX6_either0_11 ic_0) ?_
    refine Cv.go (pc' := 13) (go_iconst dX6_either0_12 ic_0) ?_
    refine Cv.go (pc' := 14) (go_iconst dX6_either0_13 ic_0) ?_
    refine Cv.go (pc' := 15) (go_iconst dX6_either0_14 ic_0) ?_
    refine Cv.go (pc' := 16) (go_iconst dX6_either0_15 ic_0) ?_
    refine Cv.bnd fun v5 m6 e7 => ?_
    have C8 := kc_X6_isWord m (111 : Int32) (114 : Int32) (0 : Int32) (0 : Int32) (0 : Int32) (0 : Int32) (0 : Int32) (0 : Int32) hS v5 m6 e7
    refine Cv.go (pc' := 19) (st' := [.int (bz v5)]) (go_callV (As := [.int (111 : Int32), .int (114 : Int32), .int (0 : Int32), .int (0 : Int32), .int (0 : Int32), .int (0 : Int32), .int (0 : Int32), .int (0 : Int32)]) (st := []) C8 (by decide) ok_X6_isWord li_X6_isWord ls_X6_isWord lm_X6_176 cls6 (sx_k40 hS) rfl rfl (Nat.le_of_ble_eq_true rfl) dX6_either0_16) ?_
    have zm6 := C8.1.2.2 rfl
    have hS := hS.sh zm6
    refine Cv.ite (fun h9 => ?_) (fun h9 => ?_)
    · refine Cv.go (pc' := 48) (go_if_eq_t (tgt := 48) dX6_either0_19 rfl h9) ?_
      refine Cv.go (pc' := 49) (go_iload_n (i := 1) (x := a1) dX6_either0_48 rfl rfl) ?_
      exact Cv.ret dX6_either0_49 rfl
    · refine Cv.go (pc' := 22) (go_if_eq_f 48 dX6_either0_19 rfl h9) ?_
      refine Cv.go (pc' := 23) (go_aload_n (i := 0) (x := 40) dX6_either0_22 rfl rfl) ?_
      refine Cv.bnd fun v10 m11 e12 => ?_
      have C13 := kc_X6_next m6 hS v10 m11 e12
      refine Cv.go (pc' := 26) (st' := []) (go_callV (As := []) (st := []) C13 (by decide) ok_X6_next li_X6_next ls_X6_next lm_X6_173 cls6 (sx_k40 hS) rfl rfl (Nat.le_of_ble_eq_true rfl) dX6_either0_23) ?_
      have zm11 := C13.1.2.2 rfl
      have hS := hS.sh zm11
      refine Cv.go (pc' := 27) (go_aload_n (i := 0) (x := 40) dX6_either0_26 rfl rfl) ?_
      refine Cv.bnd fun v14 m15 e16 => ?_
      have C17 := kc_X6_both0 m11 hS v14 m15 e16
      refine Cv.go (pc' := 30) (st' := [.int v14]) (go_callV (As := []) (st := []) C17 (by decide) ok_X6_both0 li_X6_both0 ls_X6_both0 lm_X6_315 cls6 (sx_k40 hS) rfl rfl (Nat.le_of_ble_eq_true rfl) dX6_either0_27) ?_
      have zm15 := C17.1.2.2 rfl
      have hS := hS.sh zm15
      refine Cv.go (pc' := 31) (ls' := [.ref 40, .int a1, .int v14]) (go_istore_n dX6_either0_30 rfl (by decide) rfl) ?_
      refine Cv.go (pc' := 32) (go_iload_n (i := 1) (x := a1) dX6_either0_31 rfl rfl) ?_
      refine Cv.ite (fun h18 => ?_) (fun h18 => ?_)
      · refine Cv.go (pc' := 35) (go_if_ne_f 39 dX6_either0_32 rfl h18) ?_
        refine Cv.go (pc' := 36) (go_iload_n (i := 2) (x := v14) dX6_either0_35 rfl rfl) ?_
        refine Cv.ite (fun h19 => ?_) (fun h19 => ?_)
        · refine Cv.go (pc' := 43) (go_if_eq_t (tgt := 43) dX6_either0_36 rfl h19) ?_
          refine Cv.go (pc' := 44) (go_iconst dX6_either0_43 ic_0) ?_
          refine Cv.weak (ls' := [.ref 40, .null, .null]) (⟨Or.inr rfl, ⟨Or.inl rfl, ⟨Or.inl rfl, True.intro⟩⟩⟩) ?_
          exact c_X6_either0_44 (F_X6_either0_5 n) ih m15 (0 : Int32) hS
        · refine Cv.go (pc' := 39) (go_if_eq_f 43 dX6_either0_36 rfl h19) ?_
          refine Cv.weak (ls' := [.ref 40, .null, .null]) (⟨Or.inr rfl, ⟨Or.inl rfl, ⟨Or.inl rfl, True.intro⟩⟩⟩) ?_
          exact c_X6_either0_39 (F_X6_either0_5 n) ih m15 hS
      · refine Cv.go (pc' := 39) (go_if_ne_t (tgt := 39) dX6_either0_32 rfl h18) ?_
        refine Cv.weak (ls' := [.ref 40, .null, .null]) (⟨Or.inr rfl, ⟨Or.inl rfl, ⟨Or.inl rfl, True.intro⟩⟩⟩) ?_
        exact c_X6_either0_39 (F_X6_either0_5 n) ih m15 hS
theorem kc_X6_either0 (m : Mem) (hS : ShM m) : ∀ v mE, F_X6_either0 m = some (v, mE) → Con true kX6_either0 39 [.ref 40] m (eI v) mE := by
  refine Con.of (ini := false) (ls0 := [.ref 40, .null, .null]) (ri := .ireturn) (by decide) (by intro z; cases z) rfl (Nat.le_of_ble_eq_true rfl) (fun v mE _ => RetTy.i) ?_
  show Cv true (cX6_either0, 3, RX6, 39, ((false, none) : IK)) .ireturn eI (F_X6_either0 m) m 0 [.ref 40, .null, .null] []
  unfold F_X6_either0
  refine Cv.go (pc' := 1) (go_aload_n (i := 0) (x := 40) dX6_either0_0 rfl rfl) ?_
  refine Cv.bnd fun v1 m2 e3 => ?_
  have C4 := kc_X6_both0 m hS v1 m2 e3
  refine Cv.go (pc' := 4) (st' := [.int v1]) (go_callV (As := []) (st := []) C4 (by decide) ok_X6_both0 li_X6_both0 ls_X6_both0 lm_X6_315 cls6 (sx_k40 hS) rfl rfl (Nat.le_of_ble_eq_true rfl) dX6_either0_1) ?_
  have zm2 := C4.1.2.2 rfl
  have hS := hS.sh zm2
  refine Cv.go (pc' := 5) (ls' := [.ref 40, .int v1, .null]) (go_istore_n dX6_either0_4 rfl (by decide) rfl) ?_
  exact c_X6_either0_5 FU m2 v1 hS
theorem c_X6_part_48 : ∀ (m : Mem) (a2 : Int32) (hS : ShM m), Cv true (cX6_part, 3, RX6, 40, ((false, none) : IK)) .ireturn eI (F_X6_part_48 m a2) m 48 [.ref 40, .null, .int a2] [] := by
  intro m a2 hS
  unfold F_X6_part_48
  refine Cv.go (pc' := 49) (go_aload_n (i := 0) (x := 40) dX6_part_48 rfl rfl) ?_
  refine Cv.go (pc' := 52) (go_getI (i := 24) cls6 (sx_k40 hS) (by decide) rfl lf_X6_156 (by decide) dX6_part_49) ?_
  refine Cv.ite (fun h25 => ?_) (fun h25 => ?_)
  · refine Cv.go (pc' := 55) (go_if_ne_f 59 dX6_part_52 rfl h25) ?_
    refine Cv.go (pc' := 56) (go_aload_n (i := 0) (x := 40) dX6_part_55 rfl rfl) ?_
    refine Cv.bnd fun v26 m27 e28 => ?_
    have C29 := kc_X6_next m hS v26 m27 e28
    refine Cv.go (pc' := 59) (st' := []) (go_callV (As := []) (st := []) C29 (by decide) ok_X6_next li_X6_next ls_X6_next lm_X6_173 cls6 (sx_k40 hS) rfl rfl (Nat.le_of_ble_eq_true rfl) dX6_part_56) ?_
    have zm27 := C29.1.2.2 rfl
    have hS := hS.sh zm27
    refine Cv.go (pc' := 60) (go_iload_n (i := 2) (x := a2) dX6_part_59 rfl rfl) ?_
    exact Cv.ret dX6_part_60 rfl
  · refine Cv.go (pc' := 59) (go_if_ne_t (tgt := 59) dX6_part_52 rfl h25) ?_
    refine Cv.go (pc' := 60) (go_iload_n (i := 2) (x := a2) dX6_part_59 rfl rfl) ?_
    exact Cv.ret dX6_part_60 rfl
theorem c_X6_part_34 : ∀ (m : Mem) (s0 : Int32) (hS : ShM m), Cv true (cX6_part, 3, RX6, 40, ((false, none) : IK)) .ireturn eI (F_X6_part_34 m s0) m 34 [.ref 40, .null, .null] [.int s0] := by
  intro m s0 hS
  unfold F_X6_part_34
  refine Cv.go (pc' := 35) (ls' := [.ref 40, .null, .int s0]) (go_istore_n dX6_part_34 rfl (by decide) rfl) ?_
  refine Cv.go (pc' := 36) (go_aload_n (i := 0) (x := 40) dX6_part_35 rfl rfl) ?_
  refine Cv.go (pc' := 38) (go_bipush dX6_part_36 ib_59) ?_
  refine Cv.bnd fun v16 m17 e18 => ?_
  have C19 := kc_X6_isSign m (59 : Int32) hS v16 m17 e18
  refine Cv.go (pc' := 41) (st' := [.int (bz v16)]) (go_callV (As := [.int (59 : Int32)]) (st := []) C19 (by decide) ok_X6_isSign li_X6_isSign ls_X6_isSign lm_X6_198 cls6 (sx_k40 hS) rfl rfl (Nat.le_of_ble_eq_true rfl) dX6_part_38) ?_
  have zm17 := C19.1.2.2 rfl
  have hS := hS.sh zm17
  refine Cv.ite (fun h20 => ?_) (fun h20 => ?_)
  · refine Cv.go (pc' := 44) (go_if_ne_f 48 dX6_part_41 rfl h20) ?_
    refine Cv.go (pc' := 45) (go_aload_n (i := 0) (x := 40) dX6_part_44 rfl rfl) ?_
    refine Cv.bnd fun v21 m22 e23 => ?_
    have C24 := kc_X6_fail m17 hS v21 m22 e23
    refine Cv.go (pc' := 48) (st' := []) (go_callV (As := []) (st := []) C24 (by decide) ok_X6_fail li_X6_fail ls_X6_fail lm_X6_170 cls6 (sx_k40 hS) rfl rfl (Nat.le_of_ble_eq_true rfl) dX6_part_45) ?_
    have zm22 := C24.1.2.2 rfl
    have hS := hS.sh zm22
    exact c_X6_part_48 m22 s0 hS
  · refine Cv.go (pc' := 48) (go_if_ne_t (tgt := 48) dX6_part_41 rfl h20) ?_
    exact c_X6_part_48 m17 s0 hS
theorem c_X6_part_19 : ∀ (m : Mem) (hS : ShM m), Cv true (cX6_part, 3, RX6, 40, ((false, none) : IK)) .ireturn eI (F_X6_part_19 m) m 19 [.ref 40, .null, .null] [] := by
  intro m hS
  unfold F_X6_part_19
  refine Cv.go (pc' := 20) (go_aload_n (i := 0) (x := 40) dX6_part_19 rfl rfl) ?_
  refine Cv.go (pc' := 23) (go_getI (i := 24) cls6 (sx_k40 hS) (by decide) rfl lf_X6_156 (by decide) dX6_part_20) ?_
  refine Cv.ite (fun h11 => ?_) (fun h11 => ?_)
  · refine Cv.go (pc' := 30) (go_if_eq_t (tgt := 30) dX6_part_23 rfl h11) ?_
    refine Cv.go (pc' := 31) (go_aload_n (i := 0) (x := 40) dX6_part_30 rfl rfl) ?_
    refine Cv.bnd fun v12 m13 e14 => ?_
    have C15 := kc_X6_either0 m hS v12 m13 e14
    refine Cv.go (pc' := 34) (st' := [.int v12]) (go_callV (As := []) (st := []) C15 (by decide) ok_X6_either0 li_X6_either0 ls_X6_either0 lm_X6_318 cls6 (sx_k40 hS) rfl rfl (Nat.le_of_ble_eq_true rfl) dX6_part_31) ?_
    have zm13 := C15.1.2.2 rfl
    have hS := hS.sh zm13
    exact c_X6_part_34 m13 v12 hS
  · refine Cv.go (pc' := 26) (go_if_eq_f 30 dX6_part_23 rfl h11) ?_
    refine Cv.go (pc' := 27) (go_iconst dX6_part_26 ic_0) ?_
    refine Cv.go (pc' := 34) (go_goto (tgt := 34) dX6_part_27 rfl) ?_
    exact c_X6_part_34 m (0 : Int32) hS
theorem c_X6_part_8 : ∀ (m : Mem) (hS : ShM m), Cv true (cX6_part, 3, RX6, 40, ((false, none) : IK)) .ireturn eI (F_X6_part_8 m) m 8 [.ref 40, .null, .null] [] := by
  intro m hS
  unfold F_X6_part_8
  refine Cv.go (pc' := 9) (go_aload_n (i := 0) (x := 40) dX6_part_8 rfl rfl) ?_
  refine Cv.go (pc' := 12) (go_getI (i := 24) cls6 (sx_k40 hS) (by decide) rfl lf_X6_156 (by decide) dX6_part_9) ?_
  refine Cv.ite (fun h6 => ?_) (fun h6 => ?_)
  · refine Cv.go (pc' := 15) (go_if_ne_f 19 dX6_part_12 rfl h6) ?_
    refine Cv.go (pc' := 16) (go_aload_n (i := 0) (x := 40) dX6_part_15 rfl rfl) ?_
    refine Cv.bnd fun v7 m8 e9 => ?_
    have C10 := kc_X6_next m hS v7 m8 e9
    refine Cv.go (pc' := 19) (st' := []) (go_callV (As := []) (st := []) C10 (by decide) ok_X6_next li_X6_next ls_X6_next lm_X6_173 cls6 (sx_k40 hS) rfl rfl (Nat.le_of_ble_eq_true rfl) dX6_part_16) ?_
    have zm8 := C10.1.2.2 rfl
    have hS := hS.sh zm8
    exact c_X6_part_19 m8 hS
  · refine Cv.go (pc' := 19) (go_if_ne_t (tgt := 19) dX6_part_12 rfl h6) ?_
    exact c_X6_part_19 m hS
theorem kc_X6_part (m : Mem) (a1 : Int32) (hS : ShM m) : ∀ v mE, F_X6_part m a1 = some (v, mE) → Con true kX6_part 40 [.ref 40, .int a1] m (eI v) mE := by
  refine Con.of (ini := false) (ls0 := [.ref 40, .int a1, .null]) (ri := .ireturn) (by decide) (by intro z; cases z) rfl (Nat.le_of_ble_eq_true rfl) (fun v mE _ => RetTy.i) ?_
  show Cv true (cX6_part, 3, RX6, 40, ((false, none) : IK)) .ireturn eI (F_X6_part m a1) m 0 [.ref 40, .int a1, .null] []
  unfold F_X6_part
  refine Cv.go (pc' := 1) (go_iload_n (i := 1) (x := a1) dX6_part_0 rfl rfl) ?_
  refine Cv.ite (fun h1 => ?_) (fun h1 => ?_)
  · refine Cv.go (pc' := 4) (go_if_ne_f 8 dX6_part_1 rfl h1) ?_
    refine Cv.go (pc' := 5) (go_aload_n (i := 0) (x := 40) dX6_part_4 rfl rfl) ?_
    refine Cv.bnd fun v2 m3 e4 => ?_
    have C5 := kc_X6_fail m hS v2 m3 e4
    refine Cv.go (pc' := 8) (st' := []) (go_callV (As := []) (st := []) C5 (by decide) ok_X6_fail li_X6_fail ls_X6_fail lm_X6_170 cls6 (sx_k40 hS) rfl rfl (Nat.le_of_ble_eq_true rfl) dX6_part_5) ?_
    have zm3 := C5.1.2.2 rfl
    have hS := hS.sh zm3
    refine Cv.weak (ls' := [.ref 40, .null, .null]) (⟨Or.inr rfl, ⟨Or.inl rfl, ⟨Or.inr rfl, True.intro⟩⟩⟩) ?_
    exact c_X6_part_8 m3 hS
  · refine Cv.go (pc' := 8) (go_if_ne_t (tgt := 8) dX6_part_1 rfl h1) ?_
    refine Cv.weak (ls' := [.ref 40, .null, .null]) (⟨Or.inr rfl, ⟨Or.inl rfl, ⟨Or.inr rfl, True.intro⟩⟩⟩) ?_
    exact c_X6_part_8 m hS
theorem c_X6_read_147 : ∀ (m : Mem) (a2 : Int32) (a3 : Int32) (a4 : Int32) (a5 : Int32) (hS : ShM m), Cv true (cX6_read, 6, RX6, 41, ((false, none) : IK)) .ireturn eI (F_X6_read_147 m a2 a3 a4 a5) m 147 [.null, .null, .int a2, .int a3, .int a4, .int a5] [] := by
  intro m a2 a3 a4 a5 hS
  unfold F_X6_read_147
  refine Cv.go (pc' := 148) (go_iload_n (i := 2) (x := a2) dX6_read_147 rfl rfl) ?_
  refine Cv.ite (fun h43 => ?_) (fun h43 => ?_)
  · refine Cv.go (pc' := 151) (go_if_ne_f 155 dX6_read_148 rfl h43) ?_
    refine Cv.go (pc' := 152) (go_iload_n (i := 3) (x := a3) dX6_read_151 rfl rfl) ?_
    refine Cv.go (pc' := 167) (go_goto (tgt := 167) dX6_read_152 rfl) ?_
    exact Cv.ret dX6_read_167 rfl
  · refine Cv.go (pc' := 155) (go_if_ne_t (tgt := 155) dX6_read_148 rfl h43) ?_
    refine Cv.go (pc' := 156) (go_iload_n (i := 2) (x := a2) dX6_read_155 rfl rfl) ?_
    refine Cv.go (pc' := 157) (go_iconst dX6_read_156 ic_1) ?_
    refine Cv.ite (fun h44 => ?_) (fun h44 => ?_)
    · refine Cv.go (pc' := 160) (go_icmp_ne_f 165 dX6_read_157 rfl h44) ?_
      refine Cv.go (pc' := 162) (go_iload (i := 4) (x := a4) dX6_read_160 rfl) ?_
      refine Cv.go (pc' := 167) (go_goto (tgt := 167) dX6_read_162 rfl) ?_
      exact Cv.ret dX6_read_167 rfl
    · refine Cv.go (pc' := 165) (go_icmp_ne_t (tgt := 165) dX6_read_157 rfl h44) ?_
      refine Cv.go (pc' := 167) (go_iload (i := 5) (x := a5) dX6_read_165 rfl) ?_
      exact Cv.ret dX6_read_167 rfl
theorem c_X6_read_127 : ∀ (m : Mem) (a2 : Int32) (a3 : Int32) (a4 : Int32) (s0 : Int32) (hS : ShM m), Cv true (cX6_read, 6, RX6, 41, ((false, none) : IK)) .ireturn eI (F_X6_read_127 m a2 a3 a4 s0) m 127 [.ref 40, .null, .int a2, .int a3, .int a4, .null] [.int s0] := by
  intro m a2 a3 a4 s0 hS
  unfold F_X6_read_127
  refine Cv.go (pc' := 129) (ls' := [.ref 40, .null, .int a2, .int a3, .int a4, .int s0]) (go_istore dX6_read_127 (by decide) rfl) ?_
  refine Cv.go (pc' := 130) (go_aload_n (i := 0) (x := 40) dX6_read_129 rfl rfl) ?_
  refine Cv.go (pc' := 133) (go_getI (i := 24) cls6 (sx_k40 hS) (by decide) rfl lf_X6_156 (by decide) dX6_read_130) ?_
  refine Cv.ite (fun h37 => ?_) (fun h37 => ?_)
  · refine Cv.go (pc' := 136) (go_if_ne_f 147 dX6_read_133 rfl h37) ?_
    refine Cv.go (pc' := 137) (go_aload_n (i := 0) (x := 40) dX6_read_136 rfl rfl) ?_
    refine Cv.go (pc' := 140) (go_getI (i := 20) cls6 (sx_k40 hS) (by decide) rfl lf_X6_139 (by decide) dX6_read_137) ?_
    refine Cv.ite (fun h38 => ?_) (fun h38 => ?_)
    · refine Cv.go (pc' := 147) (go_if_eq_t (tgt := 147) dX6_read_140 rfl h38) ?_
      refine Cv.weak (ls' := [.null, .null, .int a2, .int a3, .int a4, .int s0]) (⟨Or.inl rfl, ⟨Or.inr rfl, ⟨Or.inr rfl, ⟨Or.inr rfl, ⟨Or.inr rfl, ⟨Or.inr rfl, True.intro⟩⟩⟩⟩⟩⟩) ?_
      exact c_X6_read_147 m a2 a3 a4 s0 hS
    · refine Cv.go (pc' := 143) (go_if_eq_f 147 dX6_read_140 rfl h38) ?_
      refine Cv.go (pc' := 144) (go_aload_n (i := 0) (x := 40) dX6_read_143 rfl rfl) ?_
      refine Cv.bnd fun v39 m40 e41 => ?_
      have C42 := kc_X6_fail m hS v39 m40 e41
      refine Cv.go (pc' := 147) (st' := []) (go_callV (As := []) (st := []) C42 (by decide) ok_X6_fail li_X6_fail ls_X6_fail lm_X6_170 cls6 (sx_k40 hS) rfl rfl (Nat.le_of_ble_eq_true rfl) dX6_read_144) ?_
      have zm40 := C42.1.2.2 rfl
      have hS := hS.sh zm40
      refine Cv.weak (ls' := [.null, .null, .int a2, .int a3, .int a4, .int s0]) (⟨Or.inl rfl, ⟨Or.inr rfl, ⟨Or.inr rfl, ⟨Or.inr rfl, ⟨Or.inr rfl, ⟨Or.inr rfl, True.intro⟩⟩⟩⟩⟩⟩) ?_
      exact c_X6_read_147 m40 a2 a3 a4 s0 hS
  · refine Cv.go (pc' := 147) (go_if_ne_t (tgt := 147) dX6_read_133 rfl h37) ?_
    refine Cv.weak (ls' := [.null, .null, .int a2, .int a3, .int a4, .int s0]) (⟨Or.inl rfl, ⟨Or.inr rfl, ⟨Or.inr rfl, ⟨Or.inr rfl, ⟨Or.inr rfl, ⟨Or.inr rfl, True.intro⟩⟩⟩⟩⟩⟩) ?_
    exact c_X6_read_147 m a2 a3 a4 s0 hS
theorem c_X6_read_92 : ∀ (m : Mem) (a2 : Int32) (a3 : Int32) (s0 : Int32) (hS : ShM m), Cv true (cX6_read, 6, RX6, 41, ((false, none) : IK)) .ireturn eI (F_X6_read_92 m a2 a3 s0) m 92 [.ref 40, .null, .int a2, .int a3, .null, .null] [.int s0] := by
  intro m a2 a3 s0 hS
  unfold F_X6_read_92
  refine Cv.go (pc' := 94) (ls' := [.ref 40, .null, .int a2, .int a3, .int s0, .null]) (go_istore dX6_read_92 (by decide) rfl) ?_
  refine Cv.go (pc' := 95) (go_aload_n (i := 0) (x := 40) dX6_read_94 rfl rfl) ?_
  refine Cv.go (pc' := 98) (go_getI (i := 24) cls6 (sx_k40 hS) (by decide) rfl lf_X6_156 (by decide) dX6_read_95) ?_
  refine Cv.ite (fun h28 => ?_) (fun h28 => ?_)
  · refine Cv.go (pc' := 105) (go_if_eq_t (tgt := 105) dX6_read_98 rfl h28) ?_
    refine Cv.go (pc' := 106) (go_aload_n (i := 0) (x := 40) dX6_read_105 rfl rfl) ?_
    refine Cv.go (pc' := 107) (go_aload_n (i := 0) (x := 40) dX6_read_106 rfl rfl) ?_
    refine Cv.go (pc' := 109) (go_bipush dX6_read_107 ib_115) ?_
    refine Cv.go (pc' := 111) (go_bipush dX6_read_109 ib_112) ?_
    refine Cv.go (pc' := 113) (go_bipush dX6_read_111 ib_111) ?_
    refine Cv.go (pc' := 115) (go_bipush dX6_read_113 ib_105) ?_
    refine Cv.go (pc' := 117) (go_bipush dX6_read_115 ib_108) ?_
    refine Cv.go (pc' := 119) (go_bipush dX6_read_117 ib_115) ?_
    refine Cv.go (pc' := 120) (go_iconst dX6_read_119 ic_0) ?_
    refine Cv.go (pc' := 121) (go_iconst dX6_read_120 ic_0) ?_
    refine Cv.bnd fun v29 m30 e31 => ?_
    have C32 := kc_X6_isWord m (115 : Int32) (112 : Int32) (111 : Int32) (105 : Int32) (108 : Int32) (115 : Int32) (0 : Int32) (0 : Int32) hS v29 m30 e31
    refine Cv.go (pc' := 124) (st' := [.int (bz v29), .ref 40]) (go_callV (As := [.int (115 : Int32), .int (112 : Int32), .int (111 : Int32), .int (105 : Int32), .int (108 : Int32), .int (115 : Int32), .int (0 : Int32), .int (0 : Int32)]) (st := [.ref 40]) C32 (by decide) ok_X6_isWord li_X6_isWord ls_X6_isWord lm_X6_176 cls6 (sx_k40 hS) rfl rfl (Nat.le_of_ble_eq_true rfl) dX6_read_121) ?_
    have zm30 := C32.1.2.2 rfl
    have hS := hS.sh zm30
    refine Cv.bnd fun v33 m34 e35 => ?_
    have C36 := kc_X6_part m30 (bz v29) hS v33 m34 e35
    refine Cv.go (pc' := 127) (st' := [.int v33]) (go_callV (As := [.int (bz v29)]) (st := []) C36 (by decide) ok_X6_part li_X6_part ls_X6_part lm_X6_321 cls6 (sx_k40 hS) rfl rfl (Nat.le_of_ble_eq_true rfl) dX6_read_124) ?_
    have zm34 := C36.1.2.2 rfl
    have hS := hS.sh zm34
    exact c_X6_read_127 m34 a2 a3 s0 v33 hS
  · refine Cv.go (pc' := 101) (go_if_eq_f 105 dX6_read_98 rfl h28) ?_
    refine Cv.go (pc' := 102) (go_iconst dX6_read_101 ic_0) ?_
    refine Cv.go (pc' := 127) (go_goto (tgt := 127) dX6_read_102 rfl) ?_
    exact c_X6_read_127 m a2 a3 s0 (0 : Int32) hS
theorem kc_X6_read (m : Mem) (a1 : Int32) (a2 : Int32) (hS : ShM m) : ∀ v mE, F_X6_read m a1 a2 = some (v, mE) → Con true kX6_read 41 [.ref 40, .int a1, .int a2] m (eI v) mE := by
  refine Con.of (ini := false) (ls0 := [.ref 40, .int a1, .int a2, .null, .null, .null]) (ri := .ireturn) (by decide) (by intro z; cases z) rfl (Nat.le_of_ble_eq_true rfl) (fun v mE _ => RetTy.i) ?_
  show Cv true (cX6_read, 6, RX6, 41, ((false, none) : IK)) .ireturn eI (F_X6_read m a1 a2) m 0 [.ref 40, .int a1, .int a2, .null, .null, .null] []
  unfold F_X6_read
  refine Cv.go (pc' := 1) (go_aload_n (i := 0) (x := 40) dX6_read_0 rfl rfl) ?_
  refine Cv.go (pc' := 4) (go_sipush dX6_read_1 is_160) ?_
  refine Cv.go (pc' := 5) (go_iload_n (i := 1) (x := a1) dX6_read_4 rfl rfl) ?_
  refine Cv.go (pc' := 6) (go_imul dX6_read_5) ?_
  refine Cv.go (pc' := 9) (go_putI (i := 17) cls6 (sx_k40 hS) (by decide) rfl lf_X6_127 (by decide) rfl rfl rfl dX6_read_6) ?_
  refine Cv.namM fun m1 em1 => ?_
  have zm1 : SameSh m m1 := em1 ▸ SameSh.d
  have hS := hS.sh zm1
  refine Cv.go (pc' := 10) (go_aload_n (i := 0) (x := 40) dX6_read_9 rfl rfl) ?_
  refine Cv.go (pc' := 11) (go_aload_n (i := 0) (x := 40) dX6_read_10 rfl rfl) ?_
  refine Cv.go (pc' := 14) (go_getR (i := 2) cls6 (sx_k40 hS) (by decide) rfl lf_X6_17 (Or.inr ⟨_, rfl⟩) (sx_r40_2 hS) dX6_read_11) ?_
  refine Cv.go (pc' := 15) (go_iload_n (i := 1) (x := a1) dX6_read_14 rfl rfl) ?_
  refine Cv.gif fun g2 => ?_
  refine Cv.go (pc' := 16) (go_iaload (sx_k42 hS) g2 dX6_read_15) ?_
  refine Cv.go (pc' := 19) (go_putI (i := 18) cls6 (sx_k40 hS) (by decide) rfl lf_X6_124 (by decide) rfl rfl rfl dX6_read_16) ?_
  refine Cv.namM fun m3 em3 => ?_
  have zm3 : SameSh m1 m3 := em3 ▸ SameSh.d
  have hS := hS.sh zm3
  refine Cv.go (pc' := 20) (go_aload_n (i := 0) (x := 40) dX6_read_19 rfl rfl) ?_
  refine Cv.go (pc' := 21) (go_iconst dX6_read_20 ic_0) ?_
  refine Cv.go (pc' := 24) (go_putI (i := 19) cls6 (sx_k40 hS) (by decide) rfl lf_X6_130 (by decide) rfl rfl rfl dX6_read_21) ?_
  refine Cv.namM fun m4 em4 => ?_
  have zm4 : SameSh m3 m4 := em4 ▸ SameSh.d
  have hS := hS.sh zm4
  refine Cv.go (pc' := 25) (go_aload_n (i := 0) (x := 40) dX6_read_24 rfl rfl) ?_
  refine Cv.go (pc' := 26) (go_iconst dX6_read_25 ic_0) ?_
  refine Cv.go (pc' := 29) (go_putI (i := 23) cls6 (sx_k40 hS) (by decide) rfl lf_X6_167 (by decide) rfl rfl rfl dX6_read_26) ?_
  refine Cv.namM fun m5 em5 => ?_
  have zm5 : SameSh m4 m5 := em5 ▸ SameSh.d
  have hS := hS.sh zm5
  refine Cv.go (pc' := 30) (go_aload_n (i := 0) (x := 40) dX6_read_29 rfl rfl) ?_
  refine Cv.go (pc' := 31) (go_iconst dX6_read_30 ic_0) ?_
  refine Cv.go (pc' := 34) (go_putI (i := 24) cls6 (sx_k40 hS) (by decide) rfl lf_X6_156 (by decide) rfl rfl rfl dX6_read_31) ?_
  refine Cv.namM fun m6 em6 => ?_
  have zm6 : SameSh m5 m6 := em6 ▸ SameSh.d
  have hS := hS.sh zm6
  refine Cv.go (pc' := 35) (go_aload_n (i := 0) (x := 40) dX6_read_34 rfl rfl) ?_
  refine Cv.bnd fun v7 m8 e9 => ?_
  have C10 := kc_X6_next m6 hS v7 m8 e9
  refine Cv.go (pc' := 38) (st' := []) (go_callV (As := []) (st := []) C10 (by decide) ok_X6_next li_X6_next ls_X6_next lm_X6_173 cls6 (sx_k40 hS) rfl rfl (Nat.le_of_ble_eq_true rfl) dX6_read_35) ?_
  have zm8 := C10.1.2.2 rfl
  have hS := hS.sh zm8
  refine Cv.go (pc' := 39) (go_aload_n (i := 0) (x := 40) dX6_read_38 rfl rfl) ?_
  refine Cv.go (pc' := 40) (go_aload_n (i := 0) (x := 40) dX6_read_39 rfl rfl) ?_
  refine Cv.go (pc' := 42) (go_bipush dX6_read_40 ib_116) ?_
  refine Cv.go (pc' := 44) (go_bipush dX6_read_42 ib_117) ?_
  refine Cv.go (pc' := 46) (go_bipush dX6_read_44 ib_114) ?_
  refine Cv.go (pc' := 48) (go_bipush dX6_read_46 ib_110) ?_
  refine Cv.go (pc' := 50) (go_bipush dX6_read_48 ib_115) ?_
  refine Cv.go (pc' := 51) (go_iconst dX6_read_50 ic_0) ?_
  refine Cv.go (pc' := 52) (go_iconst dX6_read_51 ic_0) ?_
  refine Cv.go (pc' := 53) (go_iconst dX6_read_52 ic_0) ?_
  refine Cv.bnd fun v11 m12 e13 => ?_
  have C14 := kc_X6_isWord m8 (116 : Int32) (117 : Int32) (114 : Int32) (110 : Int32) (115 : Int32) (0 : Int32) (0 : Int32) (0 : Int32) hS v11 m12 e13
  refine Cv.go (pc' := 56) (st' := [.int (bz v11), .ref 40]) (go_callV (As := [.int (116 : Int32), .int (117 : Int32), .int (114 : Int32), .int (110 : Int32), .int (115 : Int32), .int (0 : Int32), .int (0 : Int32), .int (0 : Int32)]) (st := [.ref 40]) C14 (by decide) ok_X6_isWord li_X6_isWord ls_X6_isWord lm_X6_176 cls6 (sx_k40 hS) rfl rfl (Nat.le_of_ble_eq_true rfl) dX6_read_53) ?_
  have zm12 := C14.1.2.2 rfl
  have hS := hS.sh zm12
  refine Cv.bnd fun v15 m16 e17 => ?_
  have C18 := kc_X6_part m12 (bz v11) hS v15 m16 e17
  refine Cv.go (pc' := 59) (st' := [.int v15]) (go_callV (As := [.int (bz v11)]) (st := []) C18 (by decide) ok_X6_part li_X6_part ls_X6_part lm_X6_321 cls6 (sx_k40 hS) rfl rfl (Nat.le_of_ble_eq_true rfl) dX6_read_56) ?_
  have zm16 := C18.1.2.2 rfl
  have hS := hS.sh zm16
  refine Cv.go (pc' := 60) (ls' := [.ref 40, .int a1, .int a2, .int v15, .null, .null]) (go_istore_n dX6_read_59 rfl (by decide) rfl) ?_
  refine Cv.go (pc' := 61) (go_aload_n (i := 0) (x := 40) dX6_read_60 rfl rfl) ?_
  refine Cv.go (pc' := 64) (go_getI (i := 24) cls6 (sx_k40 hS) (by decide) rfl lf_X6_156 (by decide) dX6_read_61) ?_
  refine Cv.ite (fun h19 => ?_) (fun h19 => ?_)
  · refine Cv.go (pc' := 71) (go_if_eq_t (tgt := 71) dX6_read_64 rfl h19) ?_
    refine Cv.go (pc' := 72) (go_aload_n (i := 0) (x := 40) dX6_read_71 rfl rfl) ?_
    refine Cv.go (pc' := 73) (go_aload_n (i := 0) (x := 40) dX6_read_72 rfl rfl) ?_
    refine Cv.go (pc' := 75) (go_bipush dX6_read_73 ib_103) ?_
    refine Cv.go (pc' := 77) (go_bipush dX6_read_75 ib_105) ?_
    refine Cv.go (pc' := 79) (go_bipush dX6_read_77 ib_118) ?_
    refine Cv.go (pc' := 81) (go_bipush dX6_read_79 ib_101) ?_
    refine Cv.go (pc' := 83) (go_bipush dX6_read_81 ib_115) ?_
    refine Cv.go (pc' := 84) (go_iconst dX6_read_83 ic_0) ?_
    refine Cv.go (pc' := 85) (go_iconst dX6_read_84 ic_0) ?_
    refine Cv.go (pc' := 86) (go_iconst dX6_read_85 ic_0) ?_
    refine Cv.bnd fun v20 m21 e22 => ?_
    have C23 := kc_X6_isWord m16 (103 : Int32) (105 : Int32) (118 : Int32) (101 : Int32) (115 : Int32) (0 : Int32) (0 : Int32) (0 : Int32) hS v20 m21 e22
    refine Cv.go (pc' := 89) (st' := [.int (bz v20), .ref 40]) (go_callV (As := [.int (103 : Int32), .int (105 : Int32), .int (118 : Int32), .int (101 : Int32), .int (115 : Int32), .int (0 : Int32), .int (0 : Int32), .int (0 : Int32)]) (st := [.ref 40]) C23 (by decide) ok_X6_isWord li_X6_isWord ls_X6_isWord lm_X6_176 cls6 (sx_k40 hS) rfl rfl (Nat.le_of_ble_eq_true rfl) dX6_read_86) ?_
    have zm21 := C23.1.2.2 rfl
    have hS := hS.sh zm21
    refine Cv.bnd fun v24 m25 e26 => ?_
    have C27 := kc_X6_part m21 (bz v20) hS v24 m25 e26
    refine Cv.go (pc' := 92) (st' := [.int v24]) (go_callV (As := [.int (bz v20)]) (st := []) C27 (by decide) ok_X6_part li_X6_part ls_X6_part lm_X6_321 cls6 (sx_k40 hS) rfl rfl (Nat.le_of_ble_eq_true rfl) dX6_read_89) ?_
    have zm25 := C27.1.2.2 rfl
    have hS := hS.sh zm25
    refine Cv.weak (ls' := [.ref 40, .null, .int a2, .int v15, .null, .null]) (⟨Or.inr rfl, ⟨Or.inl rfl, ⟨Or.inr rfl, ⟨Or.inr rfl, ⟨Or.inr rfl, ⟨Or.inr rfl, True.intro⟩⟩⟩⟩⟩⟩) ?_
    exact c_X6_read_92 m25 a2 v15 v24 hS
  · refine Cv.go (pc' := 67) (go_if_eq_f 71 dX6_read_64 rfl h19) ?_
    refine Cv.go (pc' := 68) (go_iconst dX6_read_67 ic_0) ?_
    refine Cv.go (pc' := 92) (go_goto (tgt := 92) dX6_read_68 rfl) ?_
    refine Cv.weak (ls' := [.ref 40, .null, .int a2, .int v15, .null, .null]) (⟨Or.inr rfl, ⟨Or.inl rfl, ⟨Or.inr rfl, ⟨Or.inr rfl, ⟨Or.inr rfl, ⟨Or.inr rfl, True.intro⟩⟩⟩⟩⟩⟩) ?_
    exact c_X6_read_92 m16 a2 v15 (0 : Int32) hS
theorem c_X6_says_96 : ∀ (m : Mem) (s0 : Int32) (s1 : Int32) (hS : ShM m), Cv true (cX6_says, 3, RX6, 42, ((false, none) : IK)) .ireturn eI (F_X6_says_96 m s0 s1) m 96 [.null, .null, .null] [.int s0, .int s1] := by
  intro m s0 s1 hS
  unfold F_X6_says_96
  refine Cv.go (pc' := 98) (go_bipush dX6_says_96 ib_99) ?_
  refine Cv.bnd fun v17 m18 e19 => ?_
  have C20 := kc_X6_within m s1 s0 (99 : Int32) v17 m18 e19
  refine Cv.go (pc' := 101) (st' := [.int v17]) (go_callS (As := [.int s1, .int s0, .int (99 : Int32)]) (st := []) C20 (by decide) ok_X6_within lt_X6_within lm_X6_328 rfl rfl (Nat.le_of_ble_eq_true rfl) dX6_says_98) ?_
  have zm18 := C20.1.2.2 rfl
  have hS := hS.sh zm18
  exact Cv.ret dX6_says_101 rfl
theorem kc_X6_says (m : Mem) (a1 : Int32) (a2 : Int32) (hS : ShM m) : ∀ v mE, F_X6_says m a1 a2 = some (v, mE) → Con true kX6_says 42 [.ref 40, .int a1, .int a2] m (eI v) mE := by
  refine Con.of (ini := false) (ls0 := [.ref 40, .int a1, .int a2]) (ri := .ireturn) (by decide) (by intro z; cases z) rfl (Nat.le_of_ble_eq_true rfl) (fun v mE _ => RetTy.i) ?_
  show Cv true (cX6_says, 3, RX6, 42, ((false, none) : IK)) .ireturn eI (F_X6_says m a1 a2) m 0 [.ref 40, .int a1, .int a2] []
  unfold F_X6_says
  refine Cv.go (pc' := 1) (go_aload_n (i := 0) (x := 40) dX6_says_0 rfl rfl) ?_
  refine Cv.go (pc' := 2) (go_aload_n (i := 0) (x := 40) dX6_says_1 rfl rfl) ?_
  refine Cv.go (pc' := 5) (go_getR (i := 9) cls6 (sx_k40 hS) (by decide) rfl lf_X6_26 (Or.inr ⟨_, rfl⟩) (sx_r40_9 hS) dX6_says_2) ?_
  refine Cv.go (pc' := 6) (go_iconst dX6_says_5 ic_5) ?_
  refine Cv.go (pc' := 7) (go_iload_n (i := 2) (x := a2) dX6_says_6 rfl rfl) ?_
  refine Cv.go (pc' := 8) (go_imul dX6_says_7) ?_
  refine Cv.go (pc' := 9) (go_iconst dX6_says_8 ic_1) ?_
  refine Cv.go (pc' := 10) (go_iadd dX6_says_9) ?_
  refine Cv.gif fun g1 => ?_
  refine Cv.go (pc' := 11) (go_iaload (sx_k45 hS) g1 dX6_says_10) ?_
  refine Cv.go (pc' := 14) (go_putI (i := 11) cls6 (sx_k40 hS) (by decide) rfl lf_X6_180 (by decide) rfl rfl rfl dX6_says_11) ?_
  refine Cv.namM fun m2 em2 => ?_
  have zm2 : SameSh m m2 := em2 ▸ SameSh.d
  have hS := hS.sh zm2
  refine Cv.go (pc' := 15) (go_aload_n (i := 0) (x := 40) dX6_says_14 rfl rfl) ?_
  refine Cv.go (pc' := 16) (go_aload_n (i := 0) (x := 40) dX6_says_15 rfl rfl) ?_
  refine Cv.go (pc' := 19) (go_getR (i := 9) cls6 (sx_k40 hS) (by decide) rfl lf_X6_26 (Or.inr ⟨_, rfl⟩) (sx_r40_9 hS) dX6_says_16) ?_
  refine Cv.go (pc' := 20) (go_iconst dX6_says_19 ic_5) ?_
  refine Cv.go (pc' := 21) (go_iload_n (i := 2) (x := a2) dX6_says_20 rfl rfl) ?_
  refine Cv.go (pc' := 22) (go_imul dX6_says_21) ?_
  refine Cv.go (pc' := 23) (go_iconst dX6_says_22 ic_2) ?_
  refine Cv.go (pc' := 24) (go_iadd dX6_says_23) ?_
  refine Cv.gif fun g3 => ?_
  refine Cv.go (pc' := 25) (go_iaload (sx_k45 hS) g3 dX6_says_24) ?_
  refine Cv.go (pc' := 28) (go_putI (i := 12) cls6 (sx_k40 hS) (by decide) rfl lf_X6_183 (by decide) rfl rfl rfl dX6_says_25) ?_
  refine Cv.namM fun m4 em4 => ?_
  have zm4 : SameSh m2 m4 := em4 ▸ SameSh.d
  have hS := hS.sh zm4
  refine Cv.go (pc' := 29) (go_aload_n (i := 0) (x := 40) dX6_says_28 rfl rfl) ?_
  refine Cv.go (pc' := 30) (go_aload_n (i := 0) (x := 40) dX6_says_29 rfl rfl) ?_
  refine Cv.go (pc' := 33) (go_getR (i := 9) cls6 (sx_k40 hS) (by decide) rfl lf_X6_26 (Or.inr ⟨_, rfl⟩) (sx_r40_9 hS) dX6_says_30) ?_
  refine Cv.go (pc' := 34) (go_iconst dX6_says_33 ic_5) ?_
  refine Cv.go (pc' := 35) (go_iload_n (i := 2) (x := a2) dX6_says_34 rfl rfl) ?_
  refine Cv.go (pc' := 36) (go_imul dX6_says_35) ?_
  refine Cv.gif fun g5 => ?_
  refine Cv.go (pc' := 37) (go_iaload (sx_k45 hS) g5 dX6_says_36) ?_
  refine Cv.go (pc' := 40) (go_putI (i := 13) cls6 (sx_k40 hS) (by decide) rfl lf_X6_186 (by decide) rfl rfl rfl dX6_says_37) ?_
  refine Cv.namM fun m6 em6 => ?_
  have zm6 : SameSh m4 m6 := em6 ▸ SameSh.d
  have hS := hS.sh zm6
  refine Cv.go (pc' := 41) (go_aload_n (i := 0) (x := 40) dX6_says_40 rfl rfl) ?_
  refine Cv.go (pc' := 42) (go_aload_n (i := 0) (x := 40) dX6_says_41 rfl rfl) ?_
  refine Cv.go (pc' := 45) (go_getR (i := 9) cls6 (sx_k40 hS) (by decide) rfl lf_X6_26 (Or.inr ⟨_, rfl⟩) (sx_r40_9 hS) dX6_says_42) ?_
  refine Cv.go (pc' := 46) (go_iconst dX6_says_45 ic_5) ?_
  refine Cv.go (pc' := 47) (go_iload_n (i := 2) (x := a2) dX6_says_46 rfl rfl) ?_
  refine Cv.go (pc' := 48) (go_imul dX6_says_47) ?_
  refine Cv.go (pc' := 49) (go_iconst dX6_says_48 ic_3) ?_
  refine Cv.go (pc' := 50) (go_iadd dX6_says_49) ?_
  refine Cv.gif fun g7 => ?_
  refine Cv.go (pc' := 51) (go_iaload (sx_k45 hS) g7 dX6_says_50) ?_
  refine Cv.go (pc' := 54) (go_putI (i := 14) cls6 (sx_k40 hS) (by decide) rfl lf_X6_189 (by decide) rfl rfl rfl dX6_says_51) ?_
  refine Cv.namM fun m8 em8 => ?_
  have zm8 : SameSh m6 m8 := em8 ▸ SameSh.d
  have hS := hS.sh zm8
  refine Cv.go (pc' := 55) (go_aload_n (i := 0) (x := 40) dX6_says_54 rfl rfl) ?_
  refine Cv.go (pc' := 56) (go_aload_n (i := 0) (x := 40) dX6_says_55 rfl rfl) ?_
  refine Cv.go (pc' := 59) (go_getR (i := 9) cls6 (sx_k40 hS) (by decide) rfl lf_X6_26 (Or.inr ⟨_, rfl⟩) (sx_r40_9 hS) dX6_says_56) ?_
  refine Cv.go (pc' := 60) (go_iconst dX6_says_59 ic_5) ?_
  refine Cv.go (pc' := 61) (go_iload_n (i := 2) (x := a2) dX6_says_60 rfl rfl) ?_
  refine Cv.go (pc' := 62) (go_imul dX6_says_61) ?_
  refine Cv.go (pc' := 63) (go_iconst dX6_says_62 ic_4) ?_
  refine Cv.go (pc' := 64) (go_iadd dX6_says_63) ?_
  refine Cv.gif fun g9 => ?_
  refine Cv.go (pc' := 65) (go_iaload (sx_k45 hS) g9 dX6_says_64) ?_
  refine Cv.go (pc' := 68) (go_putI (i := 15) cls6 (sx_k40 hS) (by decide) rfl lf_X6_192 (by decide) rfl rfl rfl dX6_says_65) ?_
  refine Cv.namM fun m10 em10 => ?_
  have zm10 : SameSh m8 m10 := em10 ▸ SameSh.d
  have hS := hS.sh zm10
  refine Cv.go (pc' := 69) (go_aload_n (i := 0) (x := 40) dX6_says_68 rfl rfl) ?_
  refine Cv.go (pc' := 70) (go_aload_n (i := 0) (x := 40) dX6_says_69 rfl rfl) ?_
  refine Cv.go (pc' := 73) (go_getI (i := 7) cls6 (sx_k40 hS) (by decide) rfl lf_X6_91 (by decide) dX6_says_70) ?_
  refine Cv.go (pc' := 76) (go_putI (i := 16) cls6 (sx_k40 hS) (by decide) rfl lf_X6_195 (by decide) rfl rfl rfl dX6_says_73) ?_
  refine Cv.namM fun m11 em11 => ?_
  have zm11 : SameSh m10 m11 := em11 ▸ SameSh.d
  have hS := hS.sh zm11
  refine Cv.go (pc' := 77) (go_aload_n (i := 0) (x := 40) dX6_says_76 rfl rfl) ?_
  refine Cv.go (pc' := 78) (go_aload_n (i := 0) (x := 40) dX6_says_77 rfl rfl) ?_
  refine Cv.go (pc' := 81) (go_getI (i := 4) cls6 (sx_k40 hS) (by decide) rfl lf_X6_94 (by decide) dX6_says_78) ?_
  refine Cv.go (pc' := 82) (go_iload_n (i := 1) (x := a1) dX6_says_81 rfl rfl) ?_
  refine Cv.bnd fun v12 m13 e14 => ?_
  have C15 := kc_X6_read m11 (mD m11 40 4) a1 hS v12 m13 e14
  refine Cv.go (pc' := 85) (st' := [.int v12]) (go_callV (As := [.int (mD m11 40 4), .int a1]) (st := []) C15 (by decide) ok_X6_read li_X6_read ls_X6_read lm_X6_325 cls6 (sx_k40 hS) rfl rfl (Nat.le_of_ble_eq_true rfl) dX6_says_82) ?_
  have zm13 := C15.1.2.2 rfl
  have hS := hS.sh zm13
  refine Cv.go (pc' := 86) (go_iload_n (i := 1) (x := a1) dX6_says_85 rfl rfl) ?_
  refine Cv.go (pc' := 87) (go_iconst dX6_says_86 ic_1) ?_
  refine Cv.ite (fun h16 => ?_) (fun h16 => ?_)
  · refine Cv.go (pc' := 90) (go_icmp_ne_f 95 dX6_says_87 rfl h16) ?_
    refine Cv.go (pc' := 92) (go_bipush dX6_says_90 ib_n99) ?_
    refine Cv.go (pc' := 96) (go_goto (tgt := 96) dX6_says_92 rfl) ?_
    refine Cv.weak (ls' := [.null, .null, .null]) (⟨Or.inl rfl, ⟨Or.inl rfl, ⟨Or.inl rfl, True.intro⟩⟩⟩) ?_
    exact c_X6_says_96 m13 (-99 : Int32) v12 hS
  · refine Cv.go (pc' := 95) (go_icmp_ne_t (tgt := 95) dX6_says_87 rfl h16) ?_
    refine Cv.go (pc' := 96) (go_iconst dX6_says_95 ic_0) ?_
    refine Cv.weak (ls' := [.null, .null, .null]) (⟨Or.inl rfl, ⟨Or.inl rfl, ⟨Or.inl rfl, True.intro⟩⟩⟩) ?_
    exact c_X6_says_96 m13 (0 : Int32) v12 hS
