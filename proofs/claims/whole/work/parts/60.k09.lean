theorem c_X6_both3_45 (K5 : Mem → Int32 → Option (Int32 × Mem)) (hK5 : ∀ (m : Mem) (a1 : Int32) (hS : ShM m), Cv true (cX6_both3, 3, RX6, 20, ((false, none) : IK)) .ireturn eI (K5 m a1) m 5 [.ref 40, .int a1, .null] []) : ∀ (m : Mem) (s0 : Int32) (hS : ShM m), Cv true (cX6_both3, 3, RX6, 20, ((false, none) : IK)) .ireturn eI (F_X6_both3_45 K5 m s0) m 45 [.ref 40, .null, .null] [.int s0] := by
  intro m s0 hS
  unfold F_X6_both3_45
  refine Cv.go (pc' := 46) (ls' := [.ref 40, .int s0, .null]) (go_istore_n dX6_both3_45 rfl (by decide) rfl) ?_
  refine Cv.go (pc' := 5) (go_goto (tgt := 5) dX6_both3_46 rfl) ?_
  exact hK5 m s0 hS
theorem c_X6_both3_44 (K5 : Mem → Int32 → Option (Int32 × Mem)) (hK5 : ∀ (m : Mem) (a1 : Int32) (hS : ShM m), Cv true (cX6_both3, 3, RX6, 20, ((false, none) : IK)) .ireturn eI (K5 m a1) m 5 [.ref 40, .int a1, .null] []) : ∀ (m : Mem) (hS : ShM m), Cv true (cX6_both3, 3, RX6, 20, ((false, none) : IK)) .ireturn eI (F_X6_both3_44 K5 m) m 44 [.ref 40, .null, .null] [] := by
  intro m hS
  unfold F_X6_both3_44
  refine Cv.go (pc' := 45) (go_iconst dX6_both3_44 ic_0) ?_
  exact c_X6_both3_45 K5 hK5 m (0 : Int32) hS
theorem c_X6_both3_5 : ∀ n, ∀ (m : Mem) (a1 : Int32) (hS : ShM m), Cv true (cX6_both3, 3, RX6, 20, ((false, none) : IK)) .ireturn eI (F_X6_both3_5 n m a1) m 5 [.ref 40, .int a1, .null] [] := by
  intro n
  induction n with
  | zero => intro m a1 hS; exact Cv.no
  | succ n ih =>
    intro m a1 hS
    unfold F_X6_both3_5
    refine Cv.go (pc' := 6) (go_aload_n (i := 0) (x := 40) dX6_both3_5 rfl rfl) ?_
    refine Cv.go (pc' := 8) (go_bipush dX6_both3_6 ib_97) ?_
    refine Cv.go (pc' := 10) (go_bipush dX6_both3_8 ib_110) ?_
    refine Cv.go (pc' := 12) (go_bipush dX6_both3_10 ib_100) ?_
    refine Cv.go (pc' := 13) (go_iconst dX6_both3_12 ic_0) ?_
    refine Cv.go (pc' := 14) (go_iconst dX6_both3_13 ic_0) ?_
    refine Cv.go (pc' := 15) (go_iconst dX6_both3_14 ic_0) ?_
    refine Cv.go (pc' := 16) (go_iconst dX6_both3_15 ic_0) ?_
    refine Cv.go (pc' := 17) (go_iconst dX6_both3_16 ic_0) ?_
    refine Cv.bnd fun v5 m6 e7 => ?_
    have C8 := kc_X6_isWord m (97 : Int32) (110 : Int32) (100 : Int32) (0 : Int32) (0 : Int32) (0 : Int32) (0 : Int32) (0 : Int32) hS v5 m6 e7
    refine Cv.go (pc' := 20) (st' := [.int (bz v5)]) (go_callV (As := [.int (97 : Int32), .int (110 : Int32), .int (100 : Int32), .int (0 : Int32), .int (0 : Int32), .int (0 : Int32), .int (0 : Int32), .int (0 : Int32)]) (st := []) C8 (by decide) ok_X6_isWord li_X6_isWord ls_X6_isWord lm_X6_176 cls6 (sx_k40 hS) rfl rfl (Nat.le_of_ble_eq_true rfl) dX6_both3_17) ?_
    have zm6 := C8.1.2.2 rfl
    have hS := hS.sh zm6
    refine Cv.ite (fun h9 => ?_) (fun h9 => ?_)
    · refine Cv.go (pc' := 49) (go_if_eq_t (tgt := 49) dX6_both3_20 rfl h9) ?_
      refine Cv.go (pc' := 50) (go_iload_n (i := 1) (x := a1) dX6_both3_49 rfl rfl) ?_
      exact Cv.ret dX6_both3_50 rfl
    · refine Cv.go (pc' := 23) (go_if_eq_f 49 dX6_both3_20 rfl h9) ?_
      refine Cv.go (pc' := 24) (go_aload_n (i := 0) (x := 40) dX6_both3_23 rfl rfl) ?_
      refine Cv.bnd fun v10 m11 e12 => ?_
      have C13 := kc_X6_next m6 hS v10 m11 e12
      refine Cv.go (pc' := 27) (st' := []) (go_callV (As := []) (st := []) C13 (by decide) ok_X6_next li_X6_next ls_X6_next lm_X6_173 cls6 (sx_k40 hS) rfl rfl (Nat.le_of_ble_eq_true rfl) dX6_both3_24) ?_
      have zm11 := C13.1.2.2 rfl
      have hS := hS.sh zm11
      refine Cv.go (pc' := 28) (go_aload_n (i := 0) (x := 40) dX6_both3_27 rfl rfl) ?_
      refine Cv.bnd fun v14 m15 e16 => ?_
      have C17 := kc_X6_not3 m11 hS v14 m15 e16
      refine Cv.go (pc' := 31) (st' := [.int v14]) (go_callV (As := []) (st := []) C17 (by decide) ok_X6_not3 li_X6_not3 ls_X6_not3 lm_X6_258 cls6 (sx_k40 hS) rfl rfl (Nat.le_of_ble_eq_true rfl) dX6_both3_28) ?_
      have zm15 := C17.1.2.2 rfl
      have hS := hS.sh zm15
      refine Cv.go (pc' := 32) (ls' := [.ref 40, .int a1, .int v14]) (go_istore_n dX6_both3_31 rfl (by decide) rfl) ?_
      refine Cv.go (pc' := 33) (go_iload_n (i := 1) (x := a1) dX6_both3_32 rfl rfl) ?_
      refine Cv.ite (fun h18 => ?_) (fun h18 => ?_)
      · refine Cv.go (pc' := 44) (go_if_eq_t (tgt := 44) dX6_both3_33 rfl h18) ?_
        refine Cv.weak (ls' := [.ref 40, .null, .null]) (⟨Or.inr rfl, ⟨Or.inl rfl, ⟨Or.inl rfl, True.intro⟩⟩⟩) ?_
        exact c_X6_both3_44 (F_X6_both3_5 n) ih m15 hS
      · refine Cv.go (pc' := 36) (go_if_eq_f 44 dX6_both3_33 rfl h18) ?_
        refine Cv.go (pc' := 37) (go_iload_n (i := 2) (x := v14) dX6_both3_36 rfl rfl) ?_
        refine Cv.ite (fun h19 => ?_) (fun h19 => ?_)
        · refine Cv.go (pc' := 44) (go_if_eq_t (tgt := 44) dX6_both3_37 rfl h19) ?_
          refine Cv.weak (ls' := [.ref 40, .null, .null]) (⟨Or.inr rfl, ⟨Or.inl rfl, ⟨Or.inl rfl, True.intro⟩⟩⟩) ?_
          exact c_X6_both3_44 (F_X6_both3_5 n) ih m15 hS
        · refine Cv.go (pc' := 40) (go_if_eq_f 44 dX6_both3_37 rfl h19) ?_
          refine Cv.go (pc' := 41) (go_iconst dX6_both3_40 ic_1) ?_
          refine Cv.go (pc' := 45) (go_goto (tgt := 45) dX6_both3_41 rfl) ?_
          refine Cv.weak (ls' := [.ref 40, .null, .null]) (⟨Or.inr rfl, ⟨Or.inl rfl, ⟨Or.inl rfl, True.intro⟩⟩⟩) ?_
          exact c_X6_both3_45 (F_X6_both3_5 n) ih m15 (1 : Int32) hS
theorem kc_X6_both3 (m : Mem) (hS : ShM m) : ∀ v mE, F_X6_both3 m = some (v, mE) → Con true kX6_both3 20 [.ref 40] m (eI v) mE := by
  refine Con.of (ini := false) (ls0 := [.ref 40, .null, .null]) (ri := .ireturn) (by decide) (by intro z; cases z) rfl (Nat.le_of_ble_eq_true rfl) (fun v mE _ => RetTy.i) ?_
  show Cv true (cX6_both3, 3, RX6, 20, ((false, none) : IK)) .ireturn eI (F_X6_both3 m) m 0 [.ref 40, .null, .null] []
  unfold F_X6_both3
  refine Cv.go (pc' := 1) (go_aload_n (i := 0) (x := 40) dX6_both3_0 rfl rfl) ?_
  refine Cv.bnd fun v1 m2 e3 => ?_
  have C4 := kc_X6_not3 m hS v1 m2 e3
  refine Cv.go (pc' := 4) (st' := [.int v1]) (go_callV (As := []) (st := []) C4 (by decide) ok_X6_not3 li_X6_not3 ls_X6_not3 lm_X6_258 cls6 (sx_k40 hS) rfl rfl (Nat.le_of_ble_eq_true rfl) dX6_both3_1) ?_
  have zm2 := C4.1.2.2 rfl
  have hS := hS.sh zm2
  refine Cv.go (pc' := 5) (ls' := [.ref 40, .int v1, .null]) (go_istore_n dX6_both3_4 rfl (by decide) rfl) ?_
  exact c_X6_both3_5 FU m2 v1 hS
theorem c_X6_either3_44 (K5 : Mem → Int32 → Option (Int32 × Mem)) (hK5 : ∀ (m : Mem) (a1 : Int32) (hS : ShM m), Cv true (cX6_either3, 3, RX6, 21, ((false, none) : IK)) .ireturn eI (K5 m a1) m 5 [.ref 40, .int a1, .null] []) : ∀ (m : Mem) (s0 : Int32) (hS : ShM m), Cv true (cX6_either3, 3, RX6, 21, ((false, none) : IK)) .ireturn eI (F_X6_either3_44 K5 m s0) m 44 [.ref 40, .null, .null] [.int s0] := by
  intro m s0 hS
  unfold F_X6_either3_44
  refine Cv.go (pc' := 45) (ls' := [.ref 40, .int s0, .null]) (go_istore_n dX6_either3_44 rfl (by decide) rfl) ?_
  refine Cv.go (pc' := 5) (go_goto (tgt := 5) dX6_either3_45 rfl) ?_
  exact hK5 m s0 hS
theorem c_X6_either3_39 (K5 : Mem → Int32 → Option (Int32 × Mem)) (hK5 : ∀ (m : Mem) (a1 : Int32) (hS : ShM m), Cv true (cX6_either3, 3, RX6, 21, ((false, none) : IK)) .ireturn eI (K5 m a1) m 5 [.ref 40, .int a1, .null] []) : ∀ (m : Mem) (hS : ShM m), Cv true (cX6_either3, 3, RX6, 21, ((false, none) : IK)) .ireturn eI (F_X6_either3_39 K5 m) m 39 [.ref 40, .null, .null] [] := by
  intro m hS
  unfold F_X6_either3_39
  refine Cv.go (pc' := 40) (go_iconst dX6_either3_39 ic_1) ?_
  refine Cv.go (pc' := 44) (go_goto (tgt := 44) dX6_either3_40 rfl) ?_
  exact c_X6_either3_44 K5 hK5 m (1 : Int32) hS
theorem c_X6_either3_5 : ∀ n, ∀ (m : Mem) (a1 : Int32) (hS : ShM m), Cv true (cX6_either3, 3, RX6, 21, ((false, none) : IK)) .ireturn eI (F_X6_either3_5 n m a1) m 5 [.ref 40, .int a1, .null] [] := by
  intro n
  induction n with
  | zero => intro m a1 hS; exact Cv.no
  | succ n ih =>
    intro m a1 hS
    unfold F_X6_either3_5
    refine Cv.go (pc' := 6) (go_aload_n (i := 0) (x := 40) dX6_either3_5 rfl rfl) ?_
    refine Cv.go (pc' := 8) (go_bipush dX6_either3_6 ib_111) ?_
    refine Cv.go (pc' := 10) (go_bipush dX6_either3_8 ib_114) ?_
    refine Cv.go (pc' := 11) (go_iconst dX6_either3_10 ic_0) ?_
    refine Cv.go (pc' := 12) (go_iconst dX6_either3_11 ic_0) ?_
    refine Cv.go (pc' := 13) (go_iconst dX6_either3_12 ic_0) ?_
    refine Cv.go (pc' := 14) (go_iconst dX6_either3_13 ic_0) ?_
    refine Cv.go (pc' := 15) (go_iconst dX6_either3_14 ic_0) ?_
    refine Cv.go (pc' := 16) (go_iconst dX6_either3_15 ic_0) ?_
    refine Cv.bnd fun v5 m6 e7 => ?_
    have C8 := kc_X6_isWord m (111 : Int32) (114 : Int32) (0 : Int32) (0 : Int32) (0 : Int32) (0 : Int32) (0 : Int32) (0 : Int32) hS v5 m6 e7
    refine Cv.go (pc' := 19) (st' := [.int (bz v5)]) (go_callV (As := [.int (111 : Int32), .int (114 : Int32), .int (0 : Int32), .int (0 : Int32), .int (0 : Int32), .int (0 : Int32), .int (0 : Int32), .int (0 : Int32)]) (st := []) C8 (by decide) ok_X6_isWord li_X6_isWord ls_X6_isWord lm_X6_176 cls6 (sx_k40 hS) rfl rfl (Nat.le_of_ble_eq_true rfl) dX6_either3_16) ?_
    have zm6 := C8.1.2.2 rfl
    have hS := hS.sh zm6
    refine Cv.ite (fun h9 => ?_) (fun h9 => ?_)
    · refine Cv.go (pc' := 48) (go_if_eq_t (tgt := 48) dX6_either3_19 rfl h9) ?_
      refine Cv.go (pc' := 49) (go_iload_n (i := 1) (x := a1) dX6_either3_48 rfl rfl) ?_
      exact Cv.ret dX6_either3_49 rfl
    · refine Cv.go (pc' := 22) (go_if_eq_f 48 dX6_either3_19 rfl h9) ?_
      refine Cv.go (pc' := 23) (go_aload_n (i := 0) (x := 40) dX6_either3_22 rfl rfl) ?_
      refine Cv.bnd fun v10 m11 e12 => ?_
      have C13 := kc_X6_next m6 hS v10 m11 e12
      refine Cv.go (pc' := 26) (st' := []) (go_callV (As := []) (st := []) C13 (by decide) ok_X6_next li_X6_next ls_X6_next lm_X6_173 cls6 (sx_k40 hS) rfl rfl (Nat.le_of_ble_eq_true rfl) dX6_either3_23) ?_
      have zm11 := C13.1.2.2 rfl
      have hS := hS.sh zm11
      refine Cv.go (pc' := 27) (go_aload_n (i := 0) (x := 40) dX6_either3_26 rfl rfl) ?_
      refine Cv.bnd fun v14 m15 e16 => ?_
      have C17 := kc_X6_both3 m11 hS v14 m15 e16
      refine Cv.go (pc' := 30) (st' := [.int v14]) (go_callV (As := []) (st := []) C17 (by decide) ok_X6_both3 li_X6_both3 ls_X6_both3 lm_X6_261 cls6 (sx_k40 hS) rfl rfl (Nat.le_of_ble_eq_true rfl) dX6_either3_27) ?_
      have zm15 := C17.1.2.2 rfl
      have hS := hS.sh zm15
      refine Cv.go (pc' := 31) (ls' := [.ref 40, .int a1, .int v14]) (go_istore_n dX6_either3_30 rfl (by decide) rfl) ?_
      refine Cv.go (pc' := 32) (go_iload_n (i := 1) (x := a1) dX6_either3_31 rfl rfl) ?_
      refine Cv.ite (fun h18 => ?_) (fun h18 => ?_)
      · refine Cv.go (pc' := 35) (go_if_ne_f 39 dX6_either3_32 rfl h18) ?_
        refine Cv.go (pc' := 36) (go_iload_n (i := 2) (x := v14) dX6_either3_35 rfl rfl) ?_
        refine Cv.ite (fun h19 => ?_) (fun h19 => ?_)
        · refine Cv.go (pc' := 43) (go_if_eq_t (tgt := 43) dX6_either3_36 rfl h19) ?_
          refine Cv.go (pc' := 44) (go_iconst dX6_either3_43 ic_0) ?_
          refine Cv.weak (ls' := [.ref 40, .null, .null]) (⟨Or.inr rfl, ⟨Or.inl rfl, ⟨Or.inl rfl, True.intro⟩⟩⟩) ?_
          exact c_X6_either3_44 (F_X6_either3_5 n) ih m15 (0 : Int32) hS
        · refine Cv.go (pc' := 39) (go_if_eq_f 43 dX6_either3_36 rfl h19) ?_
          refine Cv.weak (ls' := [.ref 40, .null, .null]) (⟨Or.inr rfl, ⟨Or.inl rfl, ⟨Or.inl rfl, True.intro⟩⟩⟩) ?_
          exact c_X6_either3_39 (F_X6_either3_5 n) ih m15 hS
      · refine Cv.go (pc' := 39) (go_if_ne_t (tgt := 39) dX6_either3_32 rfl h18) ?_
        refine Cv.weak (ls' := [.ref 40, .null, .null]) (⟨Or.inr rfl, ⟨Or.inl rfl, ⟨Or.inl rfl, True.intro⟩⟩⟩) ?_
        exact c_X6_either3_39 (F_X6_either3_5 n) ih m15 hS
theorem kc_X6_either3 (m : Mem) (hS : ShM m) : ∀ v mE, F_X6_either3 m = some (v, mE) → Con true kX6_either3 21 [.ref 40] m (eI v) mE := by
  refine Con.of (ini := false) (ls0 := [.ref 40, .null, .null]) (ri := .ireturn) (by decide) (by intro z; cases z) rfl (Nat.le_of_ble_eq_true rfl) (fun v mE _ => RetTy.i) ?_
  show Cv true (cX6_either3, 3, RX6, 21, ((false, none) : IK)) .ireturn eI (F_X6_either3 m) m 0 [.ref 40, .null, .null] []
  unfold F_X6_either3
  refine Cv.go (pc' := 1) (go_aload_n (i := 0) (x := 40) dX6_either3_0 rfl rfl) ?_
  refine Cv.bnd fun v1 m2 e3 => ?_
  have C4 := kc_X6_both3 m hS v1 m2 e3
  refine Cv.go (pc' := 4) (st' := [.int v1]) (go_callV (As := []) (st := []) C4 (by decide) ok_X6_both3 li_X6_both3 ls_X6_both3 lm_X6_261 cls6 (sx_k40 hS) rfl rfl (Nat.le_of_ble_eq_true rfl) dX6_either3_1) ?_
  have zm2 := C4.1.2.2 rfl
  have hS := hS.sh zm2
  refine Cv.go (pc' := 5) (ls' := [.ref 40, .int v1, .null]) (go_istore_n dX6_either3_4 rfl (by decide) rfl) ?_
  exact c_X6_either3_5 FU m2 v1 hS
theorem c_X6_atom2_71 : ∀ (m : Mem) (a1 : Int32) (hS : ShM m), Cv true (cX6_atom2, 2, RX6, 22, ((false, none) : IK)) .ireturn eI (F_X6_atom2_71 m a1) m 71 [.ref 40, .int a1] [] := by
  intro m a1 hS
  unfold F_X6_atom2_71
  refine Cv.go (pc' := 72) (go_aload_n (i := 0) (x := 40) dX6_atom2_71 rfl rfl) ?_
  refine Cv.go (pc' := 73) (go_dup_a dX6_atom2_72) ?_
  refine Cv.go (pc' := 76) (go_getI (i := 23) cls6 (sx_k40 hS) (by decide) rfl lf_X6_167 (by decide) dX6_atom2_73) ?_
  refine Cv.go (pc' := 77) (go_iconst dX6_atom2_76 ic_1) ?_
  refine Cv.go (pc' := 78) (go_isub dX6_atom2_77) ?_
  refine Cv.go (pc' := 81) (go_putI (i := 23) cls6 (sx_k40 hS) (by decide) rfl lf_X6_167 (by decide) rfl rfl rfl dX6_atom2_78) ?_
  refine Cv.namM fun m47 em47 => ?_
  have zm47 : SameSh m m47 := em47 ▸ SameSh.d
  have hS := hS.sh zm47
  refine Cv.go (pc' := 82) (go_aload_n (i := 0) (x := 40) dX6_atom2_81 rfl rfl) ?_
  refine Cv.go (pc' := 85) (go_getI (i := 24) cls6 (sx_k40 hS) (by decide) rfl lf_X6_156 (by decide) dX6_atom2_82) ?_
  refine Cv.ite (fun h48 => ?_) (fun h48 => ?_)
  · refine Cv.go (pc' := 88) (go_if_ne_f 161 dX6_atom2_85 rfl h48) ?_
    refine Cv.go (pc' := 89) (go_aload_n (i := 0) (x := 40) dX6_atom2_88 rfl rfl) ?_
    refine Cv.bnd fun v49 m50 e51 => ?_
    have C52 := kc_X6_next m47 hS v49 m50 e51
    refine Cv.go (pc' := 92) (st' := []) (go_callV (As := []) (st := []) C52 (by decide) ok_X6_next li_X6_next ls_X6_next lm_X6_173 cls6 (sx_k40 hS) rfl rfl (Nat.le_of_ble_eq_true rfl) dX6_atom2_89) ?_
    have zm50 := C52.1.2.2 rfl
    have hS := hS.sh zm50
    refine Cv.go (pc' := 161) (go_goto (tgt := 161) dX6_atom2_92 rfl) ?_
    refine Cv.go (pc' := 162) (go_iload_n (i := 1) (x := a1) dX6_atom2_161 rfl rfl) ?_
    exact Cv.ret dX6_atom2_162 rfl
  · refine Cv.go (pc' := 161) (go_if_ne_t (tgt := 161) dX6_atom2_85 rfl h48) ?_
    refine Cv.go (pc' := 162) (go_iload_n (i := 1) (x := a1) dX6_atom2_161 rfl rfl) ?_
    exact Cv.ret dX6_atom2_162 rfl
theorem c_X6_atom2_157 : ∀ (m : Mem) (a1 : Int32) (hS : ShM m), Cv true (cX6_atom2, 2, RX6, 22, ((false, none) : IK)) .ireturn eI (F_X6_atom2_157 m a1) m 157 [.ref 40, .int a1] [] := by
  intro m a1 hS
  unfold F_X6_atom2_157
  refine Cv.go (pc' := 158) (go_aload_n (i := 0) (x := 40) dX6_atom2_157 rfl rfl) ?_
  refine Cv.bnd fun v64 m65 e66 => ?_
  have C67 := kc_X6_fail m hS v64 m65 e66
  refine Cv.go (pc' := 161) (st' := []) (go_callV (As := []) (st := []) C67 (by decide) ok_X6_fail li_X6_fail ls_X6_fail lm_X6_170 cls6 (sx_k40 hS) rfl rfl (Nat.le_of_ble_eq_true rfl) dX6_atom2_158) ?_
  have zm65 := C67.1.2.2 rfl
  have hS := hS.sh zm65
  refine Cv.go (pc' := 162) (go_iload_n (i := 1) (x := a1) dX6_atom2_161 rfl rfl) ?_
  exact Cv.ret dX6_atom2_162 rfl
theorem c_X6_atom2_123 : ∀ (m : Mem) (a1 : Int32) (hS : ShM m), Cv true (cX6_atom2, 2, RX6, 22, ((false, none) : IK)) .ireturn eI (F_X6_atom2_123 m a1) m 123 [.ref 40, .int a1] [] := by
  intro m a1 hS
  unfold F_X6_atom2_123
  refine Cv.go (pc' := 124) (go_aload_n (i := 0) (x := 40) dX6_atom2_123 rfl rfl) ?_
  refine Cv.go (pc' := 127) (go_getI (i := 24) cls6 (sx_k40 hS) (by decide) rfl lf_X6_156 (by decide) dX6_atom2_124) ?_
  refine Cv.ite (fun h53 => ?_) (fun h53 => ?_)
  · refine Cv.go (pc' := 130) (go_if_ne_f 157 dX6_atom2_127 rfl h53) ?_
    refine Cv.go (pc' := 131) (go_aload_n (i := 0) (x := 40) dX6_atom2_130 rfl rfl) ?_
    refine Cv.go (pc' := 134) (go_getI (i := 20) cls6 (sx_k40 hS) (by decide) rfl lf_X6_139 (by decide) dX6_atom2_131) ?_
    refine Cv.go (pc' := 135) (go_iconst dX6_atom2_134 ic_1) ?_
    refine Cv.ite (fun h54 => ?_) (fun h54 => ?_)
    · refine Cv.go (pc' := 138) (go_icmp_ne_f 157 dX6_atom2_135 rfl h54) ?_
      refine Cv.go (pc' := 139) (go_aload_n (i := 0) (x := 40) dX6_atom2_138 rfl rfl) ?_
      refine Cv.bnd fun v55 m56 e57 => ?_
      have C58 := kc_X6_name m hS v55 m56 e57
      refine Cv.go (pc' := 142) (st' := [.int v55]) (go_callV (As := []) (st := []) C58 (by decide) ok_X6_name li_X6_name ls_X6_name lm_X6_205 cls6 (sx_k40 hS) rfl rfl (Nat.le_of_ble_eq_true rfl) dX6_atom2_139) ?_
      have zm56 := C58.1.2.2 rfl
      have hS := hS.sh zm56
      refine Cv.go (pc' := 143) (ls' := [.ref 40, .int v55]) (go_istore_n dX6_atom2_142 rfl (by decide) rfl) ?_
      refine Cv.go (pc' := 144) (go_aload_n (i := 0) (x := 40) dX6_atom2_143 rfl rfl) ?_
      refine Cv.go (pc' := 147) (go_getI (i := 24) cls6 (sx_k40 hS) (by decide) rfl lf_X6_156 (by decide) dX6_atom2_144) ?_
      refine Cv.ite (fun h59 => ?_) (fun h59 => ?_)
      · refine Cv.go (pc' := 150) (go_if_ne_f 161 dX6_atom2_147 rfl h59) ?_
        refine Cv.go (pc' := 151) (go_aload_n (i := 0) (x := 40) dX6_atom2_150 rfl rfl) ?_
        refine Cv.bnd fun v60 m61 e62 => ?_
        have C63 := kc_X6_next m56 hS v60 m61 e62
        refine Cv.go (pc' := 154) (st' := []) (go_callV (As := []) (st := []) C63 (by decide) ok_X6_next li_X6_next ls_X6_next lm_X6_173 cls6 (sx_k40 hS) rfl rfl (Nat.le_of_ble_eq_true rfl) dX6_atom2_151) ?_
        have zm61 := C63.1.2.2 rfl
        have hS := hS.sh zm61
        refine Cv.go (pc' := 161) (go_goto (tgt := 161) dX6_atom2_154 rfl) ?_
        refine Cv.go (pc' := 162) (go_iload_n (i := 1) (x := v55) dX6_atom2_161 rfl rfl) ?_
        exact Cv.ret dX6_atom2_162 rfl
      · refine Cv.go (pc' := 161) (go_if_ne_t (tgt := 161) dX6_atom2_147 rfl h59) ?_
        refine Cv.go (pc' := 162) (go_iload_n (i := 1) (x := v55) dX6_atom2_161 rfl rfl) ?_
        exact Cv.ret dX6_atom2_162 rfl
    · refine Cv.go (pc' := 157) (go_icmp_ne_t (tgt := 157) dX6_atom2_135 rfl h54) ?_
      exact c_X6_atom2_157 m a1 hS
  · refine Cv.go (pc' := 157) (go_if_ne_t (tgt := 157) dX6_atom2_127 rfl h53) ?_
    exact c_X6_atom2_157 m a1 hS
theorem kc_X6_atom2 (m : Mem) (hS : ShM m) : ∀ v mE, F_X6_atom2 m = some (v, mE) → Con true kX6_atom2 22 [.ref 40] m (eI v) mE := by
  refine Con.of (ini := false) (ls0 := [.ref 40, .null]) (ri := .ireturn) (by decide) (by intro z; cases z) rfl (Nat.le_of_ble_eq_true rfl) (fun v mE _ => RetTy.i) ?_
  show Cv true (cX6_atom2, 2, RX6, 22, ((false, none) : IK)) .ireturn eI (F_X6_atom2 m) m 0 [.ref 40, .null] []
  unfold F_X6_atom2
  refine Cv.go (pc' := 1) (go_iconst dX6_atom2_0 ic_0) ?_
  refine Cv.go (pc' := 2) (ls' := [.ref 40, .int (0 : Int32)]) (go_istore_n dX6_atom2_1 rfl (by decide) rfl) ?_
  refine Cv.go (pc' := 3) (go_aload_n (i := 0) (x := 40) dX6_atom2_2 rfl rfl) ?_
  refine Cv.go (pc' := 5) (go_bipush dX6_atom2_3 ib_45) ?_
  refine Cv.bnd fun v1 m2 e3 => ?_
  have C4 := kc_X6_isSign m (45 : Int32) hS v1 m2 e3
  refine Cv.go (pc' := 8) (st' := [.int (bz v1)]) (go_callV (As := [.int (45 : Int32)]) (st := []) C4 (by decide) ok_X6_isSign li_X6_isSign ls_X6_isSign lm_X6_198 cls6 (sx_k40 hS) rfl rfl (Nat.le_of_ble_eq_true rfl) dX6_atom2_5) ?_
  have zm2 := C4.1.2.2 rfl
  have hS := hS.sh zm2
  refine Cv.ite (fun h5 => ?_) (fun h5 => ?_)
  · refine Cv.go (pc' := 37) (go_if_eq_t (tgt := 37) dX6_atom2_8 rfl h5) ?_
    refine Cv.go (pc' := 38) (go_aload_n (i := 0) (x := 40) dX6_atom2_37 rfl rfl) ?_
    refine Cv.go (pc' := 40) (go_bipush dX6_atom2_38 ib_40) ?_
    refine Cv.bnd fun v6 m7 e8 => ?_
    have C9 := kc_X6_isSign m2 (40 : Int32) hS v6 m7 e8
    refine Cv.go (pc' := 43) (st' := [.int (bz v6)]) (go_callV (As := [.int (40 : Int32)]) (st := []) C9 (by decide) ok_X6_isSign li_X6_isSign ls_X6_isSign lm_X6_198 cls6 (sx_k40 hS) rfl rfl (Nat.le_of_ble_eq_true rfl) dX6_atom2_40) ?_
    have zm7 := C9.1.2.2 rfl
    have hS := hS.sh zm7
    refine Cv.ite (fun h10 => ?_) (fun h10 => ?_)
    · refine Cv.go (pc' := 95) (go_if_eq_t (tgt := 95) dX6_atom2_43 rfl h10) ?_
      refine Cv.go (pc' := 96) (go_aload_n (i := 0) (x := 40) dX6_atom2_95 rfl rfl) ?_
      refine Cv.go (pc' := 99) (go_getI (i := 24) cls6 (sx_k40 hS) (by decide) rfl lf_X6_156 (by decide) dX6_atom2_96) ?_
      refine Cv.ite (fun h11 => ?_) (fun h11 => ?_)
      · refine Cv.go (pc' := 102) (go_if_ne_f 123 dX6_atom2_99 rfl h11) ?_
        refine Cv.go (pc' := 103) (go_aload_n (i := 0) (x := 40) dX6_atom2_102 rfl rfl) ?_
        refine Cv.go (pc' := 106) (go_getI (i := 20) cls6 (sx_k40 hS) (by decide) rfl lf_X6_139 (by decide) dX6_atom2_103) ?_
        refine Cv.go (pc' := 107) (go_iconst dX6_atom2_106 ic_2) ?_
        refine Cv.ite (fun h12 => ?_) (fun h12 => ?_)
        · refine Cv.go (pc' := 110) (go_icmp_ne_f 123 dX6_atom2_107 rfl h12) ?_
          refine Cv.go (pc' := 111) (go_aload_n (i := 0) (x := 40) dX6_atom2_110 rfl rfl) ?_
          refine Cv.go (pc' := 114) (go_getL (i := 22) cls6 (sx_k40 hS) (by decide) rfl lf_X6_150 rfl dX6_atom2_111) ?_
          refine Cv.go (pc' := 115) (go_l2i dX6_atom2_114) ?_
          refine Cv.namI fun x13 ex13 => ?_
          refine Cv.go (pc' := 116) (ls' := [.ref 40, .int x13]) (go_istore_n dX6_atom2_115 rfl (by decide) rfl) ?_
          refine Cv.go (pc' := 117) (go_aload_n (i := 0) (x := 40) dX6_atom2_116 rfl rfl) ?_
          refine Cv.bnd fun v14 m15 e16 => ?_
          have C17 := kc_X6_next m7 hS v14 m15 e16
          refine Cv.go (pc' := 120) (st' := []) (go_callV (As := []) (st := []) C17 (by decide) ok_X6_next li_X6_next ls_X6_next lm_X6_173 cls6 (sx_k40 hS) rfl rfl (Nat.le_of_ble_eq_true rfl) dX6_atom2_117) ?_
          have zm15 := C17.1.2.2 rfl
          have hS := hS.sh zm15
          refine Cv.go (pc' := 161) (go_goto (tgt := 161) dX6_atom2_120 rfl) ?_
          refine Cv.go (pc' := 162) (go_iload_n (i := 1) (x := x13) dX6_atom2_161 rfl rfl) ?_
          exact Cv.ret dX6_atom2_162 rfl
        · refine Cv.go (pc' := 123) (go_icmp_ne_t (tgt := 123) dX6_atom2_107 rfl h12) ?_
          exact c_X6_atom2_123 m7 (0 : Int32) hS
      · refine Cv.go (pc' := 123) (go_if_ne_t (tgt := 123) dX6_atom2_99 rfl h11) ?_
        exact c_X6_atom2_123 m7 (0 : Int32) hS
    · refine Cv.go (pc' := 46) (go_if_eq_f 95 dX6_atom2_43 rfl h10) ?_
      refine Cv.go (pc' := 47) (go_aload_n (i := 0) (x := 40) dX6_atom2_46 rfl rfl) ?_
      refine Cv.bnd fun v18 m19 e20 => ?_
      have C21 := kc_X6_opens m7 hS v18 m19 e20
      refine Cv.go (pc' := 50) (st' := [.int (bz v18)]) (go_callV (As := []) (st := []) C21 (by decide) ok_X6_opens li_X6_opens ls_X6_opens lm_X6_201 cls6 (sx_k40 hS) rfl rfl (Nat.le_of_ble_eq_true rfl) dX6_atom2_47) ?_
      have zm19 := C21.1.2.2 rfl
      have hS := hS.sh zm19
      refine Cv.ite (fun h22 => ?_) (fun h22 => ?_)
      · refine Cv.go (pc' := 161) (go_if_eq_t (tgt := 161) dX6_atom2_50 rfl h22) ?_
        refine Cv.go (pc' := 162) (go_iload_n (i := 1) (x := (0 : Int32)) dX6_atom2_161 rfl rfl) ?_
        exact Cv.ret dX6_atom2_162 rfl
      · refine Cv.go (pc' := 53) (go_if_eq_f 161 dX6_atom2_50 rfl h22) ?_
        refine Cv.go (pc' := 54) (go_aload_n (i := 0) (x := 40) dX6_atom2_53 rfl rfl) ?_
        refine Cv.bnd fun v23 m24 e25 => ?_
        have C26 := kc_X6_either3 m19 hS v23 m24 e25
        refine Cv.go (pc' := 57) (st' := [.int v23]) (go_callV (As := []) (st := []) C26 (by decide) ok_X6_either3 li_X6_either3 ls_X6_either3 lm_X6_264 cls6 (sx_k40 hS) rfl rfl (Nat.le_of_ble_eq_true rfl) dX6_atom2_54) ?_
        have zm24 := C26.1.2.2 rfl
        have hS := hS.sh zm24
        refine Cv.go (pc' := 58) (ls' := [.ref 40, .int v23]) (go_istore_n dX6_atom2_57 rfl (by decide) rfl) ?_
        refine Cv.go (pc' := 59) (go_aload_n (i := 0) (x := 40) dX6_atom2_58 rfl rfl) ?_
        refine Cv.go (pc' := 61) (go_bipush dX6_atom2_59 ib_41) ?_
        refine Cv.bnd fun v27 m28 e29 => ?_
        have C30 := kc_X6_isSign m24 (41 : Int32) hS v27 m28 e29
        refine Cv.go (pc' := 64) (st' := [.int (bz v27)]) (go_callV (As := [.int (41 : Int32)]) (st := []) C30 (by decide) ok_X6_isSign li_X6_isSign ls_X6_isSign lm_X6_198 cls6 (sx_k40 hS) rfl rfl (Nat.le_of_ble_eq_true rfl) dX6_atom2_61) ?_
        have zm28 := C30.1.2.2 rfl
        have hS := hS.sh zm28
        refine Cv.ite (fun h31 => ?_) (fun h31 => ?_)
        · refine Cv.go (pc' := 67) (go_if_ne_f 71 dX6_atom2_64 rfl h31) ?_
          refine Cv.go (pc' := 68) (go_aload_n (i := 0) (x := 40) dX6_atom2_67 rfl rfl) ?_
          refine Cv.bnd fun v32 m33 e34 => ?_
          have C35 := kc_X6_fail m28 hS v32 m33 e34
          refine Cv.go (pc' := 71) (st' := []) (go_callV (As := []) (st := []) C35 (by decide) ok_X6_fail li_X6_fail ls_X6_fail lm_X6_170 cls6 (sx_k40 hS) rfl rfl (Nat.le_of_ble_eq_true rfl) dX6_atom2_68) ?_
          have zm33 := C35.1.2.2 rfl
          have hS := hS.sh zm33
          exact c_X6_atom2_71 m33 v23 hS
        · refine Cv.go (pc' := 71) (go_if_ne_t (tgt := 71) dX6_atom2_64 rfl h31) ?_
          exact c_X6_atom2_71 m28 v23 hS
  · refine Cv.go (pc' := 11) (go_if_eq_f 37 dX6_atom2_8 rfl h5) ?_
    refine Cv.go (pc' := 12) (go_aload_n (i := 0) (x := 40) dX6_atom2_11 rfl rfl) ?_
    refine Cv.bnd fun v36 m37 e38 => ?_
    have C39 := kc_X6_opens m2 hS v36 m37 e38
    refine Cv.go (pc' := 15) (st' := [.int (bz v36)]) (go_callV (As := []) (st := []) C39 (by decide) ok_X6_opens li_X6_opens ls_X6_opens lm_X6_201 cls6 (sx_k40 hS) rfl rfl (Nat.le_of_ble_eq_true rfl) dX6_atom2_12) ?_
    have zm37 := C39.1.2.2 rfl
    have hS := hS.sh zm37
    refine Cv.ite (fun h40 => ?_) (fun h40 => ?_)
    · refine Cv.go (pc' := 161) (go_if_eq_t (tgt := 161) dX6_atom2_15 rfl h40) ?_
      refine Cv.go (pc' := 162) (go_iload_n (i := 1) (x := (0 : Int32)) dX6_atom2_161 rfl rfl) ?_
      exact Cv.ret dX6_atom2_162 rfl
    · refine Cv.go (pc' := 18) (go_if_eq_f 161 dX6_atom2_15 rfl h40) ?_
      refine Cv.go (pc' := 19) (go_aload_n (i := 0) (x := 40) dX6_atom2_18 rfl rfl) ?_
      refine Cv.bnd fun v41 m42 e43 => ?_
      have C44 := kc_X6_atom3 m37 hS v41 m42 e43
      refine Cv.go (pc' := 22) (st' := [.int v41]) (go_callV (As := []) (st := []) C44 (by decide) ok_X6_atom3 li_X6_atom3 ls_X6_atom3 lm_X6_249 cls6 (sx_k40 hS) rfl rfl (Nat.le_of_ble_eq_true rfl) dX6_atom2_19) ?_
      have zm42 := C44.1.2.2 rfl
      have hS := hS.sh zm42
      refine Cv.go (pc' := 23) (go_ineg dX6_atom2_22) ?_
      refine Cv.namI fun x45 ex45 => ?_
      refine Cv.go (pc' := 24) (ls' := [.ref 40, .int x45]) (go_istore_n dX6_atom2_23 rfl (by decide) rfl) ?_
      refine Cv.go (pc' := 25) (go_aload_n (i := 0) (x := 40) dX6_atom2_24 rfl rfl) ?_
      refine Cv.go (pc' := 26) (go_dup_a dX6_atom2_25) ?_
      refine Cv.go (pc' := 29) (go_getI (i := 23) cls6 (sx_k40 hS) (by decide) rfl lf_X6_167 (by decide) dX6_atom2_26) ?_
      refine Cv.go (pc' := 30) (go_iconst dX6_atom2_29 ic_1) ?_
      refine Cv.go (pc' := 31) (go_isub dX6_atom2_30) ?_
      refine Cv.go (pc' := 34) (go_putI (i := 23) cls6 (sx_k40 hS) (by decide) rfl lf_X6_167 (by decide) rfl rfl rfl dX6_atom2_31) ?_
      refine Cv.namM fun m46 em46 => ?_
      have zm46 : SameSh m42 m46 := em46 ▸ SameSh.d
      have hS := hS.sh zm46
      refine Cv.go (pc' := 161) (go_goto (tgt := 161) dX6_atom2_34 rfl) ?_
      refine Cv.go (pc' := 162) (go_iload_n (i := 1) (x := x45) dX6_atom2_161 rfl rfl) ?_
      exact Cv.ret dX6_atom2_162 rfl
theorem c_X6_term2_5 : ∀ n, ∀ (m : Mem) (a1 : Int32) (hS : ShM m), Cv true (cX6_term2, 2, RX6, 23, ((false, none) : IK)) .ireturn eI (F_X6_term2_5 n m a1) m 5 [.ref 40, .int a1] [] := by
  intro n
  induction n with
  | zero => intro m a1 hS; exact Cv.no
  | succ n ih =>
    intro m a1 hS
    unfold F_X6_term2_5
    refine Cv.go (pc' := 6) (go_aload_n (i := 0) (x := 40) dX6_term2_5 rfl rfl) ?_
    refine Cv.go (pc' := 8) (go_bipush dX6_term2_6 ib_42) ?_
    refine Cv.bnd fun v5 m6 e7 => ?_
    have C8 := kc_X6_isSign m (42 : Int32) hS v5 m6 e7
    refine Cv.go (pc' := 11) (st' := [.int (bz v5)]) (go_callV (As := [.int (42 : Int32)]) (st := []) C8 (by decide) ok_X6_isSign li_X6_isSign ls_X6_isSign lm_X6_198 cls6 (sx_k40 hS) rfl rfl (Nat.le_of_ble_eq_true rfl) dX6_term2_8) ?_
    have zm6 := C8.1.2.2 rfl
    have hS := hS.sh zm6
    refine Cv.ite (fun h9 => ?_) (fun h9 => ?_)
    · refine Cv.go (pc' := 28) (go_if_eq_t (tgt := 28) dX6_term2_11 rfl h9) ?_
      refine Cv.go (pc' := 29) (go_iload_n (i := 1) (x := a1) dX6_term2_28 rfl rfl) ?_
      exact Cv.ret dX6_term2_29 rfl
    · refine Cv.go (pc' := 14) (go_if_eq_f 28 dX6_term2_11 rfl h9) ?_
      refine Cv.go (pc' := 15) (go_aload_n (i := 0) (x := 40) dX6_term2_14 rfl rfl) ?_
      refine Cv.bnd fun v10 m11 e12 => ?_
      have C13 := kc_X6_next m6 hS v10 m11 e12
      refine Cv.go (pc' := 18) (st' := []) (go_callV (As := []) (st := []) C13 (by decide) ok_X6_next li_X6_next ls_X6_next lm_X6_173 cls6 (sx_k40 hS) rfl rfl (Nat.le_of_ble_eq_true rfl) dX6_term2_15) ?_
      have zm11 := C13.1.2.2 rfl
      have hS := hS.sh zm11
      refine Cv.go (pc' := 19) (go_iload_n (i := 1) (x := a1) dX6_term2_18 rfl rfl) ?_
      refine Cv.go (pc' := 20) (go_aload_n (i := 0) (x := 40) dX6_term2_19 rfl rfl) ?_
      refine Cv.bnd fun v14 m15 e16 => ?_
      have C17 := kc_X6_atom2 m11 hS v14 m15 e16
      refine Cv.go (pc' := 23) (st' := [.int v14, .int a1]) (go_callV (As := []) (st := [.int a1]) C17 (by decide) ok_X6_atom2 li_X6_atom2 ls_X6_atom2 lm_X6_267 cls6 (sx_k40 hS) rfl rfl (Nat.le_of_ble_eq_true rfl) dX6_term2_20) ?_
      have zm15 := C17.1.2.2 rfl
      have hS := hS.sh zm15
      refine Cv.go (pc' := 24) (go_imul dX6_term2_23) ?_
      refine Cv.namI fun x18 ex18 => ?_
      refine Cv.go (pc' := 25) (ls' := [.ref 40, .int x18]) (go_istore_n dX6_term2_24 rfl (by decide) rfl) ?_
      refine Cv.go (pc' := 5) (go_goto (tgt := 5) dX6_term2_25 rfl) ?_
      exact ih m15 x18 hS
theorem kc_X6_term2 (m : Mem) (hS : ShM m) : ∀ v mE, F_X6_term2 m = some (v, mE) → Con true kX6_term2 23 [.ref 40] m (eI v) mE := by
  refine Con.of (ini := false) (ls0 := [.ref 40, .null]) (ri := .ireturn) (by decide) (by intro z; cases z) rfl (Nat.le_of_ble_eq_true rfl) (fun v mE _ => RetTy.i) ?_
  show Cv true (cX6_term2, 2, RX6, 23, ((false, none) : IK)) .ireturn eI (F_X6_term2 m) m 0 [.ref 40, .null] []
  unfold F_X6_term2
  refine Cv.go (pc' := 1) (go_aload_n (i := 0) (x := 40) dX6_term2_0 rfl rfl) ?_
  refine Cv.bnd fun v1 m2 e3 => ?_
  have C4 := kc_X6_atom2 m hS v1 m2 e3
  refine Cv.go (pc' := 4) (st' := [.int v1]) (go_callV (As := []) (st := []) C4 (by decide) ok_X6_atom2 li_X6_atom2 ls_X6_atom2 lm_X6_267 cls6 (sx_k40 hS) rfl rfl (Nat.le_of_ble_eq_true rfl) dX6_term2_1) ?_
  have zm2 := C4.1.2.2 rfl
  have hS := hS.sh zm2
  refine Cv.go (pc' := 5) (ls' := [.ref 40, .int v1]) (go_istore_n dX6_term2_4 rfl (by decide) rfl) ?_
  exact c_X6_term2_5 FU m2 v1 hS
theorem c_X6_added2_62 (K5 : Mem → Int32 → Option (Int32 × Mem)) (hK5 : ∀ (m : Mem) (a1 : Int32) (hS : ShM m), Cv true (cX6_added2, 4, RX6, 24, ((false, none) : IK)) .ireturn eI (K5 m a1) m 5 [.ref 40, .int a1, .null, .null] []) : ∀ (m : Mem) (s0 : Int32) (hS : ShM m), Cv true (cX6_added2, 4, RX6, 24, ((false, none) : IK)) .ireturn eI (F_X6_added2_62 K5 m s0) m 62 [.ref 40, .null, .null, .null] [.int s0] := by
  intro m s0 hS
  unfold F_X6_added2_62
  refine Cv.go (pc' := 63) (ls' := [.ref 40, .int s0, .null, .null]) (go_istore_n dX6_added2_62 rfl (by decide) rfl) ?_
  refine Cv.go (pc' := 5) (go_goto (tgt := 5) dX6_added2_63 rfl) ?_
  exact hK5 m s0 hS
theorem c_X6_added2_39 (K5 : Mem → Int32 → Option (Int32 × Mem)) (hK5 : ∀ (m : Mem) (a1 : Int32) (hS : ShM m), Cv true (cX6_added2, 4, RX6, 24, ((false, none) : IK)) .ireturn eI (K5 m a1) m 5 [.ref 40, .int a1, .null, .null] []) : ∀ (m : Mem) (a1 : Int32) (s0 : Int32) (hS : ShM m), Cv true (cX6_added2, 4, RX6, 24, ((false, none) : IK)) .ireturn eI (F_X6_added2_39 K5 m a1 s0) m 39 [.ref 40, .int a1, .null, .null] [.int s0] := by
  intro m a1 s0 hS
  unfold F_X6_added2_39
  refine Cv.go (pc' := 40) (ls' := [.ref 40, .int a1, .int s0, .null]) (go_istore_n dX6_added2_39 rfl (by decide) rfl) ?_
  refine Cv.go (pc' := 41) (go_aload_n (i := 0) (x := 40) dX6_added2_40 rfl rfl) ?_
  refine Cv.bnd fun v16 m17 e18 => ?_
  have C19 := kc_X6_next m hS v16 m17 e18
  refine Cv.go (pc' := 44) (st' := []) (go_callV (As := []) (st := []) C19 (by decide) ok_X6_next li_X6_next ls_X6_next lm_X6_173 cls6 (sx_k40 hS) rfl rfl (Nat.le_of_ble_eq_true rfl) dX6_added2_41) ?_
  have zm17 := C19.1.2.2 rfl
  have hS := hS.sh zm17
  refine Cv.go (pc' := 45) (go_aload_n (i := 0) (x := 40) dX6_added2_44 rfl rfl) ?_
  refine Cv.bnd fun v20 m21 e22 => ?_
  have C23 := kc_X6_term2 m17 hS v20 m21 e22
  refine Cv.go (pc' := 48) (st' := [.int v20]) (go_callV (As := []) (st := []) C23 (by decide) ok_X6_term2 li_X6_term2 ls_X6_term2 lm_X6_270 cls6 (sx_k40 hS) rfl rfl (Nat.le_of_ble_eq_true rfl) dX6_added2_45) ?_
  have zm21 := C23.1.2.2 rfl
  have hS := hS.sh zm21
  refine Cv.go (pc' := 49) (ls' := [.ref 40, .int a1, .int s0, .int v20]) (go_istore_n dX6_added2_48 rfl (by decide) rfl) ?_
  refine Cv.go (pc' := 50) (go_iload_n (i := 2) (x := s0) dX6_added2_49 rfl rfl) ?_
  refine Cv.ite (fun h24 => ?_) (fun h24 => ?_)
  · refine Cv.go (pc' := 59) (go_if_eq_t (tgt := 59) dX6_added2_50 rfl h24) ?_
    refine Cv.go (pc' := 60) (go_iload_n (i := 1) (x := a1) dX6_added2_59 rfl rfl) ?_
    refine Cv.go (pc' := 61) (go_iload_n (i := 3) (x := v20) dX6_added2_60 rfl rfl) ?_
    refine Cv.go (pc' := 62) (go_isub dX6_added2_61) ?_
    refine Cv.weak (ls' := [.ref 40, .null, .null, .null]) (⟨Or.inr rfl, ⟨Or.inl rfl, ⟨Or.inl rfl, ⟨Or.inl rfl, True.intro⟩⟩⟩⟩) ?_
    exact c_X6_added2_62 K5 hK5 m21 (a1 - v20) hS
  · refine Cv.go (pc' := 53) (go_if_eq_f 59 dX6_added2_50 rfl h24) ?_
    refine Cv.go (pc' := 54) (go_iload_n (i := 1) (x := a1) dX6_added2_53 rfl rfl) ?_
    refine Cv.go (pc' := 55) (go_iload_n (i := 3) (x := v20) dX6_added2_54 rfl rfl) ?_
    refine Cv.go (pc' := 56) (go_iadd dX6_added2_55) ?_
    refine Cv.go (pc' := 62) (go_goto (tgt := 62) dX6_added2_56 rfl) ?_
    refine Cv.weak (ls' := [.ref 40, .null, .null, .null]) (⟨Or.inr rfl, ⟨Or.inl rfl, ⟨Or.inl rfl, ⟨Or.inl rfl, True.intro⟩⟩⟩⟩) ?_
    exact c_X6_added2_62 K5 hK5 m21 (a1 + v20) hS
theorem c_X6_added2_23 (K5 : Mem → Int32 → Option (Int32 × Mem)) (hK5 : ∀ (m : Mem) (a1 : Int32) (hS : ShM m), Cv true (cX6_added2, 4, RX6, 24, ((false, none) : IK)) .ireturn eI (K5 m a1) m 5 [.ref 40, .int a1, .null, .null] []) : ∀ (m : Mem) (a1 : Int32) (hS : ShM m), Cv true (cX6_added2, 4, RX6, 24, ((false, none) : IK)) .ireturn eI (F_X6_added2_23 K5 m a1) m 23 [.ref 40, .int a1, .null, .null] [] := by
  intro m a1 hS
  unfold F_X6_added2_23
  refine Cv.go (pc' := 24) (go_aload_n (i := 0) (x := 40) dX6_added2_23 rfl rfl) ?_
  refine Cv.go (pc' := 27) (go_getL (i := 22) cls6 (sx_k40 hS) (by decide) rfl lf_X6_150 rfl dX6_added2_24) ?_
  refine Cv.go (pc' := 30) (go_ldc2 dX6_added2_27 ll_X6_215) ?_
  refine Cv.go (pc' := 31) (go_lcmp dX6_added2_30) ?_
  refine Cv.ite (fun h15 => ?_) (fun h15 => ?_)
  · refine Cv.go (pc' := 34) (go_if_ne_f 38 dX6_added2_31 rfl h15) ?_
    refine Cv.go (pc' := 35) (go_iconst dX6_added2_34 ic_1) ?_
    refine Cv.go (pc' := 39) (go_goto (tgt := 39) dX6_added2_35 rfl) ?_
    exact c_X6_added2_39 K5 hK5 m a1 (1 : Int32) hS
  · refine Cv.go (pc' := 38) (go_if_ne_t (tgt := 38) dX6_added2_31 rfl h15) ?_
    refine Cv.go (pc' := 39) (go_iconst dX6_added2_38 ic_0) ?_
    exact c_X6_added2_39 K5 hK5 m a1 (0 : Int32) hS
theorem c_X6_added2_5 : ∀ n, ∀ (m : Mem) (a1 : Int32) (hS : ShM m), Cv true (cX6_added2, 4, RX6, 24, ((false, none) : IK)) .ireturn eI (F_X6_added2_5 n m a1) m 5 [.ref 40, .int a1, .null, .null] [] := by
  intro n
  induction n with
  | zero => intro m a1 hS; exact Cv.no
  | succ n ih =>
    intro m a1 hS
    unfold F_X6_added2_5
    refine Cv.go (pc' := 6) (go_aload_n (i := 0) (x := 40) dX6_added2_5 rfl rfl) ?_
    refine Cv.go (pc' := 8) (go_bipush dX6_added2_6 ib_43) ?_
    refine Cv.bnd fun v5 m6 e7 => ?_
    have C8 := kc_X6_isSign m (43 : Int32) hS v5 m6 e7
    refine Cv.go (pc' := 11) (st' := [.int (bz v5)]) (go_callV (As := [.int (43 : Int32)]) (st := []) C8 (by decide) ok_X6_isSign li_X6_isSign ls_X6_isSign lm_X6_198 cls6 (sx_k40 hS) rfl rfl (Nat.le_of_ble_eq_true rfl) dX6_added2_8) ?_
    have zm6 := C8.1.2.2 rfl
    have hS := hS.sh zm6
    refine Cv.ite (fun h9 => ?_) (fun h9 => ?_)
    · refine Cv.go (pc' := 14) (go_if_ne_f 23 dX6_added2_11 rfl h9) ?_
      refine Cv.go (pc' := 15) (go_aload_n (i := 0) (x := 40) dX6_added2_14 rfl rfl) ?_
      refine Cv.go (pc' := 17) (go_bipush dX6_added2_15 ib_45) ?_
      refine Cv.bnd fun v10 m11 e12 => ?_
      have C13 := kc_X6_isSign m6 (45 : Int32) hS v10 m11 e12
      refine Cv.go (pc' := 20) (st' := [.int (bz v10)]) (go_callV (As := [.int (45 : Int32)]) (st := []) C13 (by decide) ok_X6_isSign li_X6_isSign ls_X6_isSign lm_X6_198 cls6 (sx_k40 hS) rfl rfl (Nat.le_of_ble_eq_true rfl) dX6_added2_17) ?_
      have zm11 := C13.1.2.2 rfl
      have hS := hS.sh zm11
      refine Cv.ite (fun h14 => ?_) (fun h14 => ?_)
      · refine Cv.go (pc' := 66) (go_if_eq_t (tgt := 66) dX6_added2_20 rfl h14) ?_
        refine Cv.go (pc' := 67) (go_iload_n (i := 1) (x := a1) dX6_added2_66 rfl rfl) ?_
        exact Cv.ret dX6_added2_67 rfl
      · refine Cv.go (pc' := 23) (go_if_eq_f 66 dX6_added2_20 rfl h14) ?_
        exact c_X6_added2_23 (F_X6_added2_5 n) ih m11 a1 hS
    · refine Cv.go (pc' := 23) (go_if_ne_t (tgt := 23) dX6_added2_11 rfl h9) ?_
      exact c_X6_added2_23 (F_X6_added2_5 n) ih m6 a1 hS
theorem kc_X6_added2 (m : Mem) (hS : ShM m) : ∀ v mE, F_X6_added2 m = some (v, mE) → Con true kX6_added2 24 [.ref 40] m (eI v) mE := by
  refine Con.of (ini := false) (ls0 := [.ref 40, .null, .null, .null]) (ri := .ireturn) (by decide) (by intro z; cases z) rfl (Nat.le_of_ble_eq_true rfl) (fun v mE _ => RetTy.i) ?_
  show Cv true (cX6_added2, 4, RX6, 24, ((false, none) : IK)) .ireturn eI (F_X6_added2 m) m 0 [.ref 40, .null, .null, .null] []
  unfold F_X6_added2
  refine Cv.go (pc' := 1) (go_aload_n (i := 0) (x := 40) dX6_added2_0 rfl rfl) ?_
  refine Cv.bnd fun v1 m2 e3 => ?_
  have C4 := kc_X6_term2 m hS v1 m2 e3
  refine Cv.go (pc' := 4) (st' := [.int v1]) (go_callV (As := []) (st := []) C4 (by decide) ok_X6_term2 li_X6_term2 ls_X6_term2 lm_X6_270 cls6 (sx_k40 hS) rfl rfl (Nat.le_of_ble_eq_true rfl) dX6_added2_1) ?_
  have zm2 := C4.1.2.2 rfl
  have hS := hS.sh zm2
  refine Cv.go (pc' := 5) (ls' := [.ref 40, .int v1, .null, .null]) (go_istore_n dX6_added2_4 rfl (by decide) rfl) ?_
  exact c_X6_added2_5 FU m2 v1 hS
theorem c_X6_not2_93 : ∀ (m : Mem) (a1 : Int32) (s0 : Int32) (hS : ShM m), Cv true (cX6_not2, 4, RX6, 25, ((false, none) : IK)) .ireturn eI (F_X6_not2_93 m a1 s0) m 93 [.ref 40, .int a1, .null, .null] [.int s0] := by
  intro m a1 s0 hS
  unfold F_X6_not2_93
  refine Cv.go (pc' := 94) (ls' := [.ref 40, .int a1, .int s0, .null]) (go_istore_n dX6_not2_93 rfl (by decide) rfl) ?_
  refine Cv.go (pc' := 95) (go_aload_n (i := 0) (x := 40) dX6_not2_94 rfl rfl) ?_
  refine Cv.bnd fun v32 m33 e34 => ?_
  have C35 := kc_X6_next m hS v32 m33 e34
  refine Cv.go (pc' := 98) (st' := []) (go_callV (As := []) (st := []) C35 (by decide) ok_X6_next li_X6_next ls_X6_next lm_X6_173 cls6 (sx_k40 hS) rfl rfl (Nat.le_of_ble_eq_true rfl) dX6_not2_95) ?_
  have zm33 := C35.1.2.2 rfl
  have hS := hS.sh zm33
  refine Cv.go (pc' := 99) (go_aload_n (i := 0) (x := 40) dX6_not2_98 rfl rfl) ?_
  refine Cv.bnd fun v36 m37 e38 => ?_
  have C39 := kc_X6_added2 m33 hS v36 m37 e38
  refine Cv.go (pc' := 102) (st' := [.int v36]) (go_callV (As := []) (st := []) C39 (by decide) ok_X6_added2 li_X6_added2 ls_X6_added2 lm_X6_273 cls6 (sx_k40 hS) rfl rfl (Nat.le_of_ble_eq_true rfl) dX6_not2_99) ?_
  have zm37 := C39.1.2.2 rfl
  have hS := hS.sh zm37
  refine Cv.go (pc' := 103) (ls' := [.ref 40, .int a1, .int s0, .int v36]) (go_istore_n dX6_not2_102 rfl (by decide) rfl) ?_
  refine Cv.go (pc' := 104) (go_iload_n (i := 2) (x := s0) dX6_not2_103 rfl rfl) ?_
  refine Cv.ite (fun h40 => ?_) (fun h40 => ?_)
  · refine Cv.go (pc' := 115) (go_if_eq_t (tgt := 115) dX6_not2_104 rfl h40) ?_
    refine Cv.go (pc' := 116) (go_iload_n (i := 1) (x := a1) dX6_not2_115 rfl rfl) ?_
    refine Cv.go (pc' := 117) (go_iload_n (i := 3) (x := v36) dX6_not2_116 rfl rfl) ?_
    refine Cv.ite (fun h41 => ?_) (fun h41 => ?_)
    · refine Cv.go (pc' := 120) (go_icmp_ne_f 124 dX6_not2_117 rfl h41) ?_
      refine Cv.go (pc' := 121) (go_iconst dX6_not2_120 ic_1) ?_
      refine Cv.go (pc' := 125) (go_goto (tgt := 125) dX6_not2_121 rfl) ?_
      exact Cv.ret dX6_not2_125 rfl
    · refine Cv.go (pc' := 124) (go_icmp_ne_t (tgt := 124) dX6_not2_117 rfl h41) ?_
      refine Cv.go (pc' := 125) (go_iconst dX6_not2_124 ic_0) ?_
      exact Cv.ret dX6_not2_125 rfl
  · refine Cv.go (pc' := 107) (go_if_eq_f 115 dX6_not2_104 rfl h40) ?_
    refine Cv.go (pc' := 108) (go_iload_n (i := 1) (x := a1) dX6_not2_107 rfl rfl) ?_
    refine Cv.go (pc' := 109) (go_iload_n (i := 3) (x := v36) dX6_not2_108 rfl rfl) ?_
    refine Cv.ite (fun h42 => ?_) (fun h42 => ?_)
    · refine Cv.go (pc' := 124) (go_icmp_ge_t (tgt := 124) dX6_not2_109 rfl h42) ?_
      refine Cv.go (pc' := 125) (go_iconst dX6_not2_124 ic_0) ?_
      exact Cv.ret dX6_not2_125 rfl
    · refine Cv.go (pc' := 112) (go_icmp_ge_f 124 dX6_not2_109 rfl h42) ?_
      refine Cv.go (pc' := 120) (go_goto (tgt := 120) dX6_not2_112 rfl) ?_
      refine Cv.go (pc' := 121) (go_iconst dX6_not2_120 ic_1) ?_
      refine Cv.go (pc' := 125) (go_goto (tgt := 125) dX6_not2_121 rfl) ?_
      exact Cv.ret dX6_not2_125 rfl
theorem c_X6_not2_77 : ∀ (m : Mem) (a1 : Int32) (hS : ShM m), Cv true (cX6_not2, 4, RX6, 25, ((false, none) : IK)) .ireturn eI (F_X6_not2_77 m a1) m 77 [.ref 40, .int a1, .null, .null] [] := by
  intro m a1 hS
  unfold F_X6_not2_77
  refine Cv.go (pc' := 78) (go_aload_n (i := 0) (x := 40) dX6_not2_77 rfl rfl) ?_
  refine Cv.go (pc' := 81) (go_getL (i := 22) cls6 (sx_k40 hS) (by decide) rfl lf_X6_150 rfl dX6_not2_78) ?_
  refine Cv.go (pc' := 84) (go_ldc2 dX6_not2_81 ll_X6_220) ?_
  refine Cv.go (pc' := 85) (go_lcmp dX6_not2_84) ?_
  refine Cv.ite (fun h31 => ?_) (fun h31 => ?_)
  · refine Cv.go (pc' := 88) (go_if_ne_f 92 dX6_not2_85 rfl h31) ?_
    refine Cv.go (pc' := 89) (go_iconst dX6_not2_88 ic_1) ?_
    refine Cv.go (pc' := 93) (go_goto (tgt := 93) dX6_not2_89 rfl) ?_
    exact c_X6_not2_93 m a1 (1 : Int32) hS
  · refine Cv.go (pc' := 92) (go_if_ne_t (tgt := 92) dX6_not2_85 rfl h31) ?_
    refine Cv.go (pc' := 93) (go_iconst dX6_not2_92 ic_0) ?_
    exact c_X6_not2_93 m a1 (0 : Int32) hS
theorem kc_X6_not2 (m : Mem) (hS : ShM m) : ∀ v mE, F_X6_not2 m = some (v, mE) → Con true kX6_not2 25 [.ref 40] m (eI v) mE := by
  refine Con.of (ini := false) (ls0 := [.ref 40, .null, .null, .null]) (ri := .ireturn) (by decide) (by intro z; cases z) rfl (Nat.le_of_ble_eq_true rfl) (fun v mE _ => RetTy.i) ?_
  show Cv true (cX6_not2, 4, RX6, 25, ((false, none) : IK)) .ireturn eI (F_X6_not2 m) m 0 [.ref 40, .null, .null, .null] []
  unfold F_X6_not2
  refine Cv.go (pc' := 1) (go_aload_n (i := 0) (x := 40) dX6_not2_0 rfl rfl) ?_
  refine Cv.go (pc' := 3) (go_bipush dX6_not2_1 ib_110) ?_
  refine Cv.go (pc' := 5) (go_bipush dX6_not2_3 ib_111) ?_
  refine Cv.go (pc' := 7) (go_bipush dX6_not2_5 ib_116) ?_
  refine Cv.go (pc' := 8) (go_iconst dX6_not2_7 ic_0) ?_
  refine Cv.go (pc' := 9) (go_iconst dX6_not2_8 ic_0) ?_
  refine Cv.go (pc' := 10) (go_iconst dX6_not2_9 ic_0) ?_
  refine Cv.go (pc' := 11) (go_iconst dX6_not2_10 ic_0) ?_
  refine Cv.go (pc' := 12) (go_iconst dX6_not2_11 ic_0) ?_
  refine Cv.bnd fun v1 m2 e3 => ?_
  have C4 := kc_X6_isWord m (110 : Int32) (111 : Int32) (116 : Int32) (0 : Int32) (0 : Int32) (0 : Int32) (0 : Int32) (0 : Int32) hS v1 m2 e3
  refine Cv.go (pc' := 15) (st' := [.int (bz v1)]) (go_callV (As := [.int (110 : Int32), .int (111 : Int32), .int (116 : Int32), .int (0 : Int32), .int (0 : Int32), .int (0 : Int32), .int (0 : Int32), .int (0 : Int32)]) (st := []) C4 (by decide) ok_X6_isWord li_X6_isWord ls_X6_isWord lm_X6_176 cls6 (sx_k40 hS) rfl rfl (Nat.le_of_ble_eq_true rfl) dX6_not2_12) ?_
  have zm2 := C4.1.2.2 rfl
  have hS := hS.sh zm2
  refine Cv.ite (fun h5 => ?_) (fun h5 => ?_)
  · refine Cv.go (pc' := 52) (go_if_eq_t (tgt := 52) dX6_not2_15 rfl h5) ?_
    refine Cv.go (pc' := 53) (go_aload_n (i := 0) (x := 40) dX6_not2_52 rfl rfl) ?_
    refine Cv.bnd fun v6 m7 e8 => ?_
    have C9 := kc_X6_added2 m2 hS v6 m7 e8
    refine Cv.go (pc' := 56) (st' := [.int v6]) (go_callV (As := []) (st := []) C9 (by decide) ok_X6_added2 li_X6_added2 ls_X6_added2 lm_X6_273 cls6 (sx_k40 hS) rfl rfl (Nat.le_of_ble_eq_true rfl) dX6_not2_53) ?_
    have zm7 := C9.1.2.2 rfl
    have hS := hS.sh zm7
    refine Cv.go (pc' := 57) (ls' := [.ref 40, .int v6, .null, .null]) (go_istore_n dX6_not2_56 rfl (by decide) rfl) ?_
    refine Cv.go (pc' := 58) (go_aload_n (i := 0) (x := 40) dX6_not2_57 rfl rfl) ?_
    refine Cv.go (pc' := 60) (go_bipush dX6_not2_58 ib_60) ?_
    refine Cv.bnd fun v10 m11 e12 => ?_
    have C13 := kc_X6_isSign m7 (60 : Int32) hS v10 m11 e12
    refine Cv.go (pc' := 63) (st' := [.int (bz v10)]) (go_callV (As := [.int (60 : Int32)]) (st := []) C13 (by decide) ok_X6_isSign li_X6_isSign ls_X6_isSign lm_X6_198 cls6 (sx_k40 hS) rfl rfl (Nat.le_of_ble_eq_true rfl) dX6_not2_60) ?_
    have zm11 := C13.1.2.2 rfl
    have hS := hS.sh zm11
    refine Cv.ite (fun h14 => ?_) (fun h14 => ?_)
    · refine Cv.go (pc' := 66) (go_if_ne_f 77 dX6_not2_63 rfl h14) ?_
      refine Cv.go (pc' := 67) (go_aload_n (i := 0) (x := 40) dX6_not2_66 rfl rfl) ?_
      refine Cv.go (pc' := 69) (go_bipush dX6_not2_67 ib_61) ?_
      refine Cv.bnd fun v15 m16 e17 => ?_
      have C18 := kc_X6_isSign m11 (61 : Int32) hS v15 m16 e17
      refine Cv.go (pc' := 72) (st' := [.int (bz v15)]) (go_callV (As := [.int (61 : Int32)]) (st := []) C18 (by decide) ok_X6_isSign li_X6_isSign ls_X6_isSign lm_X6_198 cls6 (sx_k40 hS) rfl rfl (Nat.le_of_ble_eq_true rfl) dX6_not2_69) ?_
      have zm16 := C18.1.2.2 rfl
      have hS := hS.sh zm16
      refine Cv.ite (fun h19 => ?_) (fun h19 => ?_)
      · refine Cv.go (pc' := 75) (go_if_ne_f 77 dX6_not2_72 rfl h19) ?_
        refine Cv.go (pc' := 76) (go_iload_n (i := 1) (x := v6) dX6_not2_75 rfl rfl) ?_
        exact Cv.ret dX6_not2_76 rfl
      · refine Cv.go (pc' := 77) (go_if_ne_t (tgt := 77) dX6_not2_72 rfl h19) ?_
        exact c_X6_not2_77 m16 v6 hS
    · refine Cv.go (pc' := 77) (go_if_ne_t (tgt := 77) dX6_not2_63 rfl h14) ?_
      exact c_X6_not2_77 m11 v6 hS
  · refine Cv.go (pc' := 18) (go_if_eq_f 52 dX6_not2_15 rfl h5) ?_
    refine Cv.go (pc' := 19) (go_aload_n (i := 0) (x := 40) dX6_not2_18 rfl rfl) ?_
    refine Cv.bnd fun v20 m21 e22 => ?_
    have C23 := kc_X6_opens m2 hS v20 m21 e22
    refine Cv.go (pc' := 22) (st' := [.int (bz v20)]) (go_callV (As := []) (st := []) C23 (by decide) ok_X6_opens li_X6_opens ls_X6_opens lm_X6_201 cls6 (sx_k40 hS) rfl rfl (Nat.le_of_ble_eq_true rfl) dX6_not2_19) ?_
    have zm21 := C23.1.2.2 rfl
    have hS := hS.sh zm21
    refine Cv.ite (fun h24 => ?_) (fun h24 => ?_)
    · refine Cv.go (pc' := 25) (go_if_ne_f 27 dX6_not2_22 rfl h24) ?_
      refine Cv.go (pc' := 26) (go_iconst dX6_not2_25 ic_0) ?_
      exact Cv.ret dX6_not2_26 rfl
    · refine Cv.go (pc' := 27) (go_if_ne_t (tgt := 27) dX6_not2_22 rfl h24) ?_
      refine Cv.go (pc' := 28) (go_aload_n (i := 0) (x := 40) dX6_not2_27 rfl rfl) ?_
      refine Cv.bnd fun v25 m26 e27 => ?_
      have C28 := kc_X6_not3 m21 hS v25 m26 e27
      refine Cv.go (pc' := 31) (st' := [.int v25]) (go_callV (As := []) (st := []) C28 (by decide) ok_X6_not3 li_X6_not3 ls_X6_not3 lm_X6_258 cls6 (sx_k40 hS) rfl rfl (Nat.le_of_ble_eq_true rfl) dX6_not2_28) ?_
      have zm26 := C28.1.2.2 rfl
      have hS := hS.sh zm26
      refine Cv.go (pc' := 32) (ls' := [.ref 40, .int v25, .null, .null]) (go_istore_n dX6_not2_31 rfl (by decide) rfl) ?_
      refine Cv.go (pc' := 33) (go_aload_n (i := 0) (x := 40) dX6_not2_32 rfl rfl) ?_
      refine Cv.go (pc' := 34) (go_dup_a dX6_not2_33) ?_
      refine Cv.go (pc' := 37) (go_getI (i := 23) cls6 (sx_k40 hS) (by decide) rfl lf_X6_167 (by decide) dX6_not2_34) ?_
      refine Cv.go (pc' := 38) (go_iconst dX6_not2_37 ic_1) ?_
      refine Cv.go (pc' := 39) (go_isub dX6_not2_38) ?_
      refine Cv.go (pc' := 42) (go_putI (i := 23) cls6 (sx_k40 hS) (by decide) rfl lf_X6_167 (by decide) rfl rfl rfl dX6_not2_39) ?_
      refine Cv.namM fun m29 em29 => ?_
      have zm29 : SameSh m26 m29 := em29 ▸ SameSh.d
      have hS := hS.sh zm29
      refine Cv.go (pc' := 43) (go_iload_n (i := 1) (x := v25) dX6_not2_42 rfl rfl) ?_
      refine Cv.ite (fun h30 => ?_) (fun h30 => ?_)
      · refine Cv.go (pc' := 46) (go_if_ne_f 50 dX6_not2_43 rfl h30) ?_
        refine Cv.go (pc' := 47) (go_iconst dX6_not2_46 ic_1) ?_
        refine Cv.go (pc' := 51) (go_goto (tgt := 51) dX6_not2_47 rfl) ?_
        exact Cv.ret dX6_not2_51 rfl
      · refine Cv.go (pc' := 50) (go_if_ne_t (tgt := 50) dX6_not2_43 rfl h30) ?_
        refine Cv.go (pc' := 51) (go_iconst dX6_not2_50 ic_0) ?_
        exact Cv.ret dX6_not2_51 rfl
theorem c_X6_both2_45 (K5 : Mem → Int32 → Option (Int32 × Mem)) (hK5 : ∀ (m : Mem) (a1 : Int32) (hS : ShM m), Cv true (cX6_both2, 3, RX6, 26, ((false, none) : IK)) .ireturn eI (K5 m a1) m 5 [.ref 40, .int a1, .null] []) : ∀ (m : Mem) (s0 : Int32) (hS : ShM m), Cv true (cX6_both2, 3, RX6, 26, ((false, none) : IK)) .ireturn eI (F_X6_both2_45 K5 m s0) m 45 [.ref 40, .null, .null] [.int s0] := by
  intro m s0 hS
  unfold F_X6_both2_45
  refine Cv.go (pc' := 46) (ls' := [.ref 40, .int s0, .null]) (go_istore_n dX6_both2_45 rfl (by decide) rfl) ?_
  refine Cv.go (pc' := 5) (go_goto (tgt := 5) dX6_both2_46 rfl) ?_
  exact hK5 m s0 hS
theorem c_X6_both2_44 (K5 : Mem → Int32 → Option (Int32 × Mem)) (hK5 : ∀ (m : Mem) (a1 : Int32) (hS : ShM m), Cv true (cX6_both2, 3, RX6, 26, ((false, none) : IK)) .ireturn eI (K5 m a1) m 5 [.ref 40, .int a1, .null] []) : ∀ (m : Mem) (hS : ShM m), Cv true (cX6_both2, 3, RX6, 26, ((false, none) : IK)) .ireturn eI (F_X6_both2_44 K5 m) m 44 [.ref 40, .null, .null] [] := by
  intro m hS
  unfold F_X6_both2_44
  refine Cv.go (pc' := 45) (go_iconst dX6_both2_44 ic_0) ?_
  exact c_X6_both2_45 K5 hK5 m (0 : Int32) hS
theorem c_X6_both2_5 : ∀ n, ∀ (m : Mem) (a1 : Int32) (hS : ShM m), Cv true (cX6_both2, 3, RX6, 26, ((false, none) : IK)) .ireturn eI (F_X6_both2_5 n m a1) m 5 [.ref 40, .int a1, .null] [] := by
  intro n
  induction n with
  | zero => intro m a1 hS; exact Cv.no
  | succ n ih =>
    intro m a1 hS
    unfold F_X6_both2_5
    refine Cv.go (pc' := 6) (go_aload_n (i := 0) (x := 40) dX6_both2_5 rfl rfl) ?_
    refine Cv.go (pc' := 8) (go_bipush dX6_both2_6 ib_97) ?_
    refine Cv.go (pc' := 10) (go_bipush dX6_both2_8 ib_110) ?_
    refine Cv.go (pc' := 12) (go_bipush dX6_both2_10 ib_100) ?_
    refine Cv.go (pc' := 13) (go_iconst dX6_both2_12 ic_0) ?_
    refine Cv.go (pc' := 14) (go_iconst dX6_both2_13 ic_0) ?_
    refine Cv.go (pc' := 15) (go_iconst dX6_both2_14 ic_0) ?_
    refine Cv.go (pc' := 16) (go_iconst dX6_both2_15 ic_0) ?_
    refine Cv.go (pc' := 17) (go_iconst dX6_both2_16 ic_0) ?_
    refine Cv.bnd fun v5 m6 e7 => ?_
    have C8 := kc_X6_isWord m (97 : Int32) (110 : Int32) (100 : Int32) (0 : Int32) (0 : Int32) (0 : Int32) (0 : Int32) (0 : Int32) hS v5 m6 e7
    refine Cv.go (pc' := 20) (st' := [.int (bz v5)]) (go_callV (As := [.int (97 : Int32), .int (110 : Int32), .int (100 : Int32), .int (0 : Int32), .int (0 : Int32), .int (0 : Int32), .int (0 : Int32), .int (0 : Int32)]) (st := []) C8 (by decide) ok_X6_isWord li_X6_isWord ls_X6_isWord lm_X6_176 cls6 (sx_k40 hS) rfl rfl (Nat.le_of_ble_eq_true rfl) dX6_both2_17) ?_
    have zm6 := C8.1.2.2 rfl
    have hS := hS.sh zm6
    refine Cv.ite (fun h9 => ?_) (fun h9 => ?_)
    · refine Cv.go (pc' := 49) (go_if_eq_t (tgt := 49) dX6_both2_20 rfl h9) ?_
      refine Cv.go (pc' := 50) (go_iload_n (i := 1) (x := a1) dX6_both2_49 rfl rfl) ?_
      exact Cv.ret dX6_both2_50 rfl
    · refine Cv.go (pc' := 23) (go_if_eq_f 49 dX6_both2_20 rfl h9) ?_
      refine Cv.go (pc' := 24) (go_aload_n (i := 0) (x := 40) dX6_both2_23 rfl rfl) ?_
      refine Cv.bnd fun v10 m11 e12 => ?_
      have C13 := kc_X6_next m6 hS v10 m11 e12
      refine Cv.go (pc' := 27) (st' := []) (go_callV (As := []) (st := []) C13 (by decide) ok_X6_next li_X6_next ls_X6_next lm_X6_173 cls6 (sx_k40 hS) rfl rfl (Nat.le_of_ble_eq_true rfl) dX6_both2_24) ?_
      have zm11 := C13.1.2.2 rfl
      have hS := hS.sh zm11
      refine Cv.go (pc' := 28) (go_aload_n (i := 0) (x := 40) dX6_both2_27 rfl rfl) ?_
      refine Cv.bnd fun v14 m15 e16 => ?_
      have C17 := kc_X6_not2 m11 hS v14 m15 e16
      refine Cv.go (pc' := 31) (st' := [.int v14]) (go_callV (As := []) (st := []) C17 (by decide) ok_X6_not2 li_X6_not2 ls_X6_not2 lm_X6_276 cls6 (sx_k40 hS) rfl rfl (Nat.le_of_ble_eq_true rfl) dX6_both2_28) ?_
      have zm15 := C17.1.2.2 rfl
      have hS := hS.sh zm15
      refine Cv.go (pc' := 32) (ls' := [.ref 40, .int a1, .int v14]) (go_istore_n dX6_both2_31 rfl (by decide) rfl) ?_
      refine Cv.go (pc' := 33) (go_iload_n (i := 1) (x := a1) dX6_both2_32 rfl rfl) ?_
      refine Cv.ite (fun h18 => ?_) (fun h18 => ?_)
      · refine Cv.go (pc' := 44) (go_if_eq_t (tgt := 44) dX6_both2_33 rfl h18) ?_
        refine Cv.weak (ls' := [.ref 40, .null, .null]) (⟨Or.inr rfl, ⟨Or.inl rfl, ⟨Or.inl rfl, True.intro⟩⟩⟩) ?_
        exact c_X6_both2_44 (F_X6_both2_5 n) ih m15 hS
      · refine Cv.go (pc' := 36) (go_if_eq_f 44 dX6_both2_33 rfl h18) ?_
        refine Cv.go (pc' := 37) (go_iload_n (i := 2) (x := v14) dX6_both2_36 rfl rfl) ?_
        refine Cv.ite (fun h19 => ?_) (fun h19 => ?_)
        · refine Cv.go (pc' := 44) (go_if_eq_t (tgt := 44) dX6_both2_37 rfl h19) ?_
          refine Cv.weak (ls' := [.ref 40, .null, .null]) (⟨Or.inr rfl, ⟨Or.inl rfl, ⟨Or.inl rfl, True.intro⟩⟩⟩) ?_
          exact c_X6_both2_44 (F_X6_both2_5 n) ih m15 hS
        · refine Cv.go (pc' := 40) (go_if_eq_f 44 dX6_both2_37 rfl h19) ?_
          refine Cv.go (pc' := 41) (go_iconst dX6_both2_40 ic_1) ?_
          refine Cv.go (pc' := 45) (go_goto (tgt := 45) dX6_both2_41 rfl) ?_
          refine Cv.weak (ls' := [.ref 40, .null, .null]) (⟨Or.inr rfl, ⟨Or.inl rfl, ⟨Or.inl rfl, True.intro⟩⟩⟩) ?_
          exact c_X6_both2_45 (F_X6_both2_5 n) ih m15 (1 : Int32) hS
theorem kc_X6_both2 (m : Mem) (hS : ShM m) : ∀ v mE, F_X6_both2 m = some (v, mE) → Con true kX6_both2 26 [.ref 40] m (eI v) mE := by
  refine Con.of (ini := false) (ls0 := [.ref 40, .null, .null]) (ri := .ireturn) (by decide) (by intro z; cases z) rfl (Nat.le_of_ble_eq_true rfl) (fun v mE _ => RetTy.i) ?_
  show Cv true (cX6_both2, 3, RX6, 26, ((false, none) : IK)) .ireturn eI (F_X6_both2 m) m 0 [.ref 40, .null, .null] []
  unfold F_X6_both2
  refine Cv.go (pc' := 1) (go_aload_n (i := 0) (x := 40) dX6_both2_0 rfl rfl) ?_
  refine Cv.bnd fun v1 m2 e3 => ?_
  have C4 := kc_X6_not2 m hS v1 m2 e3
  refine Cv.go (pc' := 4) (st' := [.int v1]) (go_callV (As := []) (st := []) C4 (by decide) ok_X6_not2 li_X6_not2 ls_X6_not2 lm_X6_276 cls6 (sx_k40 hS) rfl rfl (Nat.le_of_ble_eq_true rfl) dX6_both2_1) ?_
  have zm2 := C4.1.2.2 rfl
  have hS := hS.sh zm2
  refine Cv.go (pc' := 5) (ls' := [.ref 40, .int v1, .null]) (go_istore_n dX6_both2_4 rfl (by decide) rfl) ?_
  exact c_X6_both2_5 FU m2 v1 hS
theorem c_X6_either2_44 (K5 : Mem → Int32 → Option (Int32 × Mem)) (hK5 : ∀ (m : Mem) (a1 : Int32) (hS : ShM m), Cv true (cX6_either2, 3, RX6, 27, ((false, none) : IK)) .ireturn eI (K5 m a1) m 5 [.ref 40, .int a1, .null] []) : ∀ (m : Mem) (s0 : Int32) (hS : ShM m), Cv true (cX6_either2, 3, RX6, 27, ((false, none) : IK)) .ireturn eI (F_X6_either2_44 K5 m s0) m 44 [.ref 40, .null, .null] [.int s0] := by
  intro m s0 hS
  unfold F_X6_either2_44
  refine Cv.go (pc' := 45) (ls' := [.ref 40, .int s0, .null]) (go_istore_n dX6_either2_44 rfl (by decide) rfl) ?_
  refine Cv.go (pc' := 5) (go_goto (tgt := 5) dX6_either2_45 rfl) ?_
  exact hK5 m s0 hS
theorem c_X6_either2_39 (K5 : Mem → Int32 → Option (Int32 × Mem)) (hK5 : ∀ (m : Mem) (a1 : Int32) (hS : ShM m), Cv true (cX6_either2, 3, RX6, 27, ((false, none) : IK)) .ireturn eI (K5 m a1) m 5 [.ref 40, .int a1, .null] []) : ∀ (m : Mem) (hS : ShM m), Cv true (cX6_either2, 3, RX6, 27, ((false, none) : IK)) .ireturn eI (F_X6_either2_39 K5 m) m 39 [.ref 40, .null, .null] [] := by
  intro m hS
  unfold F_X6_either2_39
  refine Cv.go (pc' := 40) (go_iconst dX6_either2_39 ic_1) ?_
  refine Cv.go (pc' := 44) (go_goto (tgt := 44) dX6_either2_40 rfl) ?_
  exact c_X6_either2_44 K5 hK5 m (1 : Int32) hS
theorem c_X6_either2_5 : ∀ n, ∀ (m : Mem) (a1 : Int32) (hS : ShM m), Cv true (cX6_either2, 3, RX6, 27, ((false, none) : IK)) .ireturn eI (F_X6_either2_5 n m a1) m 5 [.ref 40, .int a1, .null] [] := by
  intro n
  induction n with
  | zero => intro m a1 hS; exact Cv.no
  | succ n ih =>
    intro m a1 hS
    unfold F_X6_either2_5
    refine Cv.go (pc' := 6) (go_aload_n (i := 0) (x := 40) dX6_either2_5 rfl rfl) ?_
    refine Cv.go (pc' := 8) (go_bipush dX6_either2_6 ib_111) ?_
    refine Cv.go (pc' := 10) (go_bipush dX6_either2_8 ib_114) ?_
    refine Cv.go (pc' := 11) (go_iconst dX6_either2_10 ic_0) ?_
    refine Cv.go (pc' := 12) (go_iconst dX6_either2_11 ic_0) ?_
    refine Cv.go (pc' := 13) (go_iconst dX6_either2_12 ic_0) ?_
    refine Cv.go (pc' := 14) (go_iconst dX6_either2_13 ic_0) ?_
    refine Cv.go (pc' := 15) (go_iconst dX6_either2_14 ic_0) ?_
    refine Cv.go (pc' := 16) (go_iconst dX6_either2_15 ic_0) ?_
    refine Cv.bnd fun v5 m6 e7 => ?_
    have C8 := kc_X6_isWord m (111 : Int32) (114 : Int32) (0 : Int32) (0 : Int32) (0 : Int32) (0 : Int32) (0 : Int32) (0 : Int32) hS v5 m6 e7
    refine Cv.go (pc' := 19) (st' := [.int (bz v5)]) (go_callV (As := [.int (111 : Int32), .int (114 : Int32), .int (0 : Int32), .int (0 : Int32), .int (0 : Int32), .int (0 : Int32), .int (0 : Int32), .int (0 : Int32)]) (st := []) C8 (by decide) ok_X6_isWord li_X6_isWord ls_X6_isWord lm_X6_176 cls6 (sx_k40 hS) rfl rfl (Nat.le_of_ble_eq_true rfl) dX6_either2_16) ?_
    have zm6 := C8.1.2.2 rfl
    have hS := hS.sh zm6
    refine Cv.ite (fun h9 => ?_) (fun h9 => ?_)
    · refine Cv.go (pc' := 48) (go_if_eq_t (tgt := 48) dX6_either2_19 rfl h9) ?_
      refine Cv.go (pc' := 49) (go_iload_n (i := 1) (x := a1) dX6_either2_48 rfl rfl) ?_
      exact Cv.ret dX6_either2_49 rfl
    · refine Cv.go (pc' := 22) (go_if_eq_f 48 dX6_either2_19 rfl h9) ?_
      refine Cv.go (pc' := 23) (go_aload_n (i := 0) (x := 40) dX6_either2_22 rfl rfl) ?_
      refine Cv.bnd fun v10 m11 e12 => ?_
      have C13 := kc_X6_next m6 hS v10 m11 e12
      refine Cv.go (pc' := 26) (st' := []) (go_callV (As := []) (st := []) C13 (by decide) ok_X6_next li_X6_next ls_X6_next lm_X6_173 cls6 (sx_k40 hS) rfl rfl (Nat.le_of_ble_eq_true rfl) dX6_either2_23) ?_
      have zm11 := C13.1.2.2 rfl
      have hS := hS.sh zm11
      refine Cv.go (pc' := 27) (go_aload_n (i := 0) (x := 40) dX6_either2_26 rfl rfl) ?_
      refine Cv.bnd fun v14 m15 e16 => ?_
      have C17 := kc_X6_both2 m11 hS v14 m15 e16
      refine Cv.go (pc' := 30) (st' := [.int v14]) (go_callV (As := []) (st := []) C17 (by decide) ok_X6_both2 li_X6_both2 ls_X6_both2 lm_X6_279 cls6 (sx_k40 hS) rfl rfl (Nat.le_of_ble_eq_true rfl) dX6_either2_27) ?_
      have zm15 := C17.1.2.2 rfl
      have hS := hS.sh zm15
      refine Cv.go (pc' := 31) (ls' := [.ref 40, .int a1, .int v14]) (go_istore_n dX6_either2_30 rfl (by decide) rfl) ?_
      refine Cv.go (pc' := 32) (go_iload_n (i := 1) (x := a1) dX6_either2_31 rfl rfl) ?_
      refine Cv.ite (fun h18 => ?_) (fun h18 => ?_)
      · refine Cv.go (pc' := 35) (go_if_ne_f 39 dX6_either2_32 rfl h18) ?_
        refine Cv.go (pc' := 36) (go_iload_n (i := 2) (x := v14) dX6_either2_35 rfl rfl) ?_
        refine Cv.ite (fun h19 => ?_) (fun h19 => ?_)
        · refine Cv.go (pc' := 43) (go_if_eq_t (tgt := 43) dX6_either2_36 rfl h19) ?_
          refine Cv.go (pc' := 44) (go_iconst dX6_either2_43 ic_0) ?_
          refine Cv.weak (ls' := [.ref 40, .null, .null]) (⟨Or.inr rfl, ⟨Or.inl rfl, ⟨Or.inl rfl, True.intro⟩⟩⟩) ?_
          exact c_X6_either2_44 (F_X6_either2_5 n) ih m15 (0 : Int32) hS
        · refine Cv.go (pc' := 39) (go_if_eq_f 43 dX6_either2_36 rfl h19) ?_
          refine Cv.weak (ls' := [.ref 40, .null, .null]) (⟨Or.inr rfl, ⟨Or.inl rfl, ⟨Or.inl rfl, True.intro⟩⟩⟩) ?_
          exact c_X6_either2_39 (F_X6_either2_5 n) ih m15 hS
      · refine Cv.go (pc' := 39) (go_if_ne_t (tgt := 39) dX6_either2_32 rfl h18) ?_
        refine Cv.weak (ls' := [.ref 40, .null, .null]) (⟨Or.inr rfl, ⟨Or.inl rfl, ⟨Or.inl rfl, True.intro⟩⟩⟩) ?_
        exact c_X6_either2_39 (F_X6_either2_5 n) ih m15 hS
theorem kc_X6_either2 (m : Mem) (hS : ShM m) : ∀ v mE, F_X6_either2 m = some (v, mE) → Con true kX6_either2 27 [.ref 40] m (eI v) mE := by
  refine Con.of (ini := false) (ls0 := [.ref 40, .null, .null]) (ri := .ireturn) (by decide) (by intro z; cases z) rfl (Nat.le_of_ble_eq_true rfl) (fun v mE _ => RetTy.i) ?_
  show Cv true (cX6_either2, 3, RX6, 27, ((false, none) : IK)) .ireturn eI (F_X6_either2 m) m 0 [.ref 40, .null, .null] []
  unfold F_X6_either2
  refine Cv.go (pc' := 1) (go_aload_n (i := 0) (x := 40) dX6_either2_0 rfl rfl) ?_
  refine Cv.bnd fun v1 m2 e3 => ?_
  have C4 := kc_X6_both2 m hS v1 m2 e3
  refine Cv.go (pc' := 4) (st' := [.int v1]) (go_callV (As := []) (st := []) C4 (by decide) ok_X6_both2 li_X6_both2 ls_X6_both2 lm_X6_279 cls6 (sx_k40 hS) rfl rfl (Nat.le_of_ble_eq_true rfl) dX6_either2_1) ?_
  have zm2 := C4.1.2.2 rfl
  have hS := hS.sh zm2
  refine Cv.go (pc' := 5) (ls' := [.ref 40, .int v1, .null]) (go_istore_n dX6_either2_4 rfl (by decide) rfl) ?_
  exact c_X6_either2_5 FU m2 v1 hS
theorem c_X6_atom1_71 : ∀ (m : Mem) (a1 : Int32) (hS : ShM m), Cv true (cX6_atom1, 2, RX6, 28, ((false, none) : IK)) .ireturn eI (F_X6_atom1_71 m a1) m 71 [.ref 40, .int a1] [] := by
  intro m a1 hS
  unfold F_X6_atom1_71
  refine Cv.go (pc' := 72) (go_aload_n (i := 0) (x := 40) dX6_atom1_71 rfl rfl) ?_
  refine Cv.go (pc' := 73) (go_dup_a dX6_atom1_72) ?_
  refine Cv.go (pc' := 76) (go_getI (i := 23) cls6 (sx_k40 hS) (by decide) rfl lf_X6_167 (by decide) dX6_atom1_73) ?_
  refine Cv.go (pc' := 77) (go_iconst dX6_atom1_76 ic_1) ?_
  refine Cv.go (pc' := 78) (go_isub dX6_atom1_77) ?_
  refine Cv.go (pc' := 81) (go_putI (i := 23) cls6 (sx_k40 hS) (by decide) rfl lf_X6_167 (by decide) rfl rfl rfl dX6_atom1_78) ?_
  refine Cv.namM fun m47 em47 => ?_
  have zm47 : SameSh m m47 := em47 ▸ SameSh.d
  have hS := hS.sh zm47
  refine Cv.go (pc' := 82) (go_aload_n (i := 0) (x := 40) dX6_atom1_81 rfl rfl) ?_
  refine Cv.go (pc' := 85) (go_getI (i := 24) cls6 (sx_k40 hS) (by decide) rfl lf_X6_156 (by decide) dX6_atom1_82) ?_
  refine Cv.ite (fun h48 => ?_) (fun h48 => ?_)
  · refine Cv.go (pc' := 88) (go_if_ne_f 161 dX6_atom1_85 rfl h48) ?_
    refine Cv.go (pc' := 89) (go_aload_n (i := 0) (x := 40) dX6_atom1_88 rfl rfl) ?_
    refine Cv.bnd fun v49 m50 e51 => ?_
    have C52 := kc_X6_next m47 hS v49 m50 e51
    refine Cv.go (pc' := 92) (st' := []) (go_callV (As := []) (st := []) C52 (by decide) ok_X6_next li_X6_next ls_X6_next lm_X6_173 cls6 (sx_k40 hS) rfl rfl (Nat.le_of_ble_eq_true rfl) dX6_atom1_89) ?_
    have zm50 := C52.1.2.2 rfl
    have hS := hS.sh zm50
    refine Cv.go (pc' := 161) (go_goto (tgt := 161) dX6_atom1_92 rfl) ?_
    refine Cv.go (pc' := 162) (go_iload_n (i := 1) (x := a1) dX6_atom1_161 rfl rfl) ?_
    exact Cv.ret dX6_atom1_162 rfl
  · refine Cv.go (pc' := 161) (go_if_ne_t (tgt := 161) dX6_atom1_85 rfl h48) ?_
    refine Cv.go (pc' := 162) (go_iload_n (i := 1) (x := a1) dX6_atom1_161 rfl rfl) ?_
    exact Cv.ret dX6_atom1_162 rfl
theorem c_X6_atom1_157 : ∀ (m : Mem) (a1 : Int32) (hS : ShM m), Cv true (cX6_atom1, 2, RX6, 28, ((false, none) : IK)) .ireturn eI (F_X6_atom1_157 m a1) m 157 [.ref 40, .int a1] [] := by
  intro m a1 hS
  unfold F_X6_atom1_157
  refine Cv.go (pc' := 158) (go_aload_n (i := 0) (x := 40) dX6_atom1_157 rfl rfl) ?_
  refine Cv.bnd fun v64 m65 e66 => ?_
  have C67 := kc_X6_fail m hS v64 m65 e66
  refine Cv.go (pc' := 161) (st' := []) (go_callV (As := []) (st := []) C67 (by decide) ok_X6_fail li_X6_fail ls_X6_fail lm_X6_170 cls6 (sx_k40 hS) rfl rfl (Nat.le_of_ble_eq_true rfl) dX6_atom1_158) ?_
  have zm65 := C67.1.2.2 rfl
  have hS := hS.sh zm65
  refine Cv.go (pc' := 162) (go_iload_n (i := 1) (x := a1) dX6_atom1_161 rfl rfl) ?_
  exact Cv.ret dX6_atom1_162 rfl
theorem c_X6_atom1_123 : ∀ (m : Mem) (a1 : Int32) (hS : ShM m), Cv true (cX6_atom1, 2, RX6, 28, ((false, none) : IK)) .ireturn eI (F_X6_atom1_123 m a1) m 123 [.ref 40, .int a1] [] := by
  intro m a1 hS
  unfold F_X6_atom1_123
  refine Cv.go (pc' := 124) (go_aload_n (i := 0) (x := 40) dX6_atom1_123 rfl rfl) ?_
  refine Cv.go (pc' := 127) (go_getI (i := 24) cls6 (sx_k40 hS) (by decide) rfl lf_X6_156 (by decide) dX6_atom1_124) ?_
  refine Cv.ite (fun h53 => ?_) (fun h53 => ?_)
  · refine Cv.go (pc' := 130) (go_if_ne_f 157 dX6_atom1_127 rfl h53) ?_
    refine Cv.go (pc' := 131) (go_aload_n (i := 0) (x := 40) dX6_atom1_130 rfl rfl) ?_
    refine Cv.go (pc' := 134) (go_getI (i := 20) cls6 (sx_k40 hS) (by decide) rfl lf_X6_139 (by decide) dX6_atom1_131) ?_
    refine Cv.go (pc' := 135) (go_iconst dX6_atom1_134 ic_1) ?_
    refine Cv.ite (fun h54 => ?_) (fun h54 => ?_)
    · refine Cv.go (pc' := 138) (go_icmp_ne_f 157 dX6_atom1_135 rfl h54) ?_
      refine Cv.go (pc' := 139) (go_aload_n (i := 0) (x := 40) dX6_atom1_138 rfl rfl) ?_
      refine Cv.bnd fun v55 m56 e57 => ?_
      have C58 := kc_X6_name m hS v55 m56 e57
      refine Cv.go (pc' := 142) (st' := [.int v55]) (go_callV (As := []) (st := []) C58 (by decide) ok_X6_name li_X6_name ls_X6_name lm_X6_205 cls6 (sx_k40 hS) rfl rfl (Nat.le_of_ble_eq_true rfl) dX6_atom1_139) ?_
      have zm56 := C58.1.2.2 rfl
      have hS := hS.sh zm56
      refine Cv.go (pc' := 143) (ls' := [.ref 40, .int v55]) (go_istore_n dX6_atom1_142 rfl (by decide) rfl) ?_
      refine Cv.go (pc' := 144) (go_aload_n (i := 0) (x := 40) dX6_atom1_143 rfl rfl) ?_
      refine Cv.go (pc' := 147) (go_getI (i := 24) cls6 (sx_k40 hS) (by decide) rfl lf_X6_156 (by decide) dX6_atom1_144) ?_
      refine Cv.ite (fun h59 => ?_) (fun h59 => ?_)
      · refine Cv.go (pc' := 150) (go_if_ne_f 161 dX6_atom1_147 rfl h59) ?_
        refine Cv.go (pc' := 151) (go_aload_n (i := 0) (x := 40) dX6_atom1_150 rfl rfl) ?_
        refine Cv.bnd fun v60 m61 e62 => ?_
        have C63 := kc_X6_next m56 hS v60 m61 e62
        refine Cv.go (pc' := 154) (st' := []) (go_callV (As := []) (st := []) C63 (by decide) ok_X6_next li_X6_next ls_X6_next lm_X6_173 cls6 (sx_k40 hS) rfl rfl (Nat.le_of_ble_eq_true rfl) dX6_atom1_151) ?_
        have zm61 := C63.1.2.2 rfl
        have hS := hS.sh zm61
        refine Cv.go (pc' := 161) (go_goto (tgt := 161) dX6_atom1_154 rfl) ?_
        refine Cv.go (pc' := 162) (go_iload_n (i := 1) (x := v55) dX6_atom1_161 rfl rfl) ?_
        exact Cv.ret dX6_atom1_162 rfl
      · refine Cv.go (pc' := 161) (go_if_ne_t (tgt := 161) dX6_atom1_147 rfl h59) ?_
        refine Cv.go (pc' := 162) (go_iload_n (i := 1) (x := v55) dX6_atom1_161 rfl rfl) ?_
        exact Cv.ret dX6_atom1_162 rfl
    · refine Cv.go (pc' := 157) (go_icmp_ne_t (tgt := 157) dX6_atom1_135 rfl h54) ?_
      exact c_X6_atom1_157 m a1 hS
  · refine Cv.go (pc' := 157) (go_if_ne_t (tgt := 157) dX6_atom1_127 rfl h53) ?_
    exact c_X6_atom1_157 m a1 hS
theorem kc_X6_atom1 (m : Mem) (hS : ShM m) : ∀ v mE, F_X6_atom1 m = some (v, mE) → Con true kX6_atom1 28 [.ref 40] m (eI v) mE := by
  refine Con.of (ini := false) (ls0 := [.ref 40, .null]) (ri := .ireturn) (by decide) (by intro z; cases z) rfl (Nat.le_of_ble_eq_true rfl) (fun v mE _ => RetTy.i) ?_
  show Cv true (cX6_atom1, 2, RX6, 28, ((false, none) : IK)) .ireturn eI (F_X6_atom1 m) m 0 [.ref 40, .null] []
  unfold F_X6_atom1
  refine Cv.go (pc' := 1) (go_iconst dX6_atom1_0 ic_0) ?_
  refine Cv.go (pc' := 2) (ls' := [.ref 40, .int (0 : Int32)]) (go_istore_n dX6_atom1_1 rfl (by decide) rfl) ?_
  refine Cv.go (pc' := 3) (go_aload_n (i := 0) (x := 40) dX6_atom1_2 rfl rfl) ?_
  refine Cv.go (pc' := 5) (go_bipush dX6_atom1_3 ib_45) ?_
  refine Cv.bnd fun v1 m2 e3 => ?_
  have C4 := kc_X6_isSign m (45 : Int32) hS v1 m2 e3
  refine Cv.go (pc' := 8) (st' := [.int (bz v1)]) (go_callV (As := [.int (45 : Int32)]) (st := []) C4 (by decide) ok_X6_isSign li_X6_isSign ls_X6_isSign lm_X6_198 cls6 (sx_k40 hS) rfl rfl (Nat.le_of_ble_eq_true rfl) dX6_atom1_5) ?_
  have zm2 := C4.1.2.2 rfl
  have hS := hS.sh zm2
  refine Cv.ite (fun h5 => ?_) (fun h5 => ?_)
  · refine Cv.go (pc' := 37) (go_if_eq_t (tgt := 37) dX6_atom1_8 rfl h5) ?_
    refine Cv.go (pc' := 38) (go_aload_n (i := 0) (x := 40) dX6_atom1_37 rfl rfl) ?_
    refine Cv.go (pc' := 40) (go_bipush dX6_atom1_38 ib_40) ?_
    refine Cv.bnd fun v6 m7 e8 => ?_
    have C9 := kc_X6_isSign m2 (40 : Int32) hS v6 m7 e8
    refine Cv.go (pc' := 43) (st' := [.int (bz v6)]) (go_callV (As := [.int (40 : Int32)]) (st := []) C9 (by decide) ok_X6_isSign li_X6_isSign ls_X6_isSign lm_X6_198 cls6 (sx_k40 hS) rfl rfl (Nat.le_of_ble_eq_true rfl) dX6_atom1_40) ?_
    have zm7 := C9.1.2.2 rfl
    have hS := hS.sh zm7
    refine Cv.ite (fun h10 => ?_) (fun h10 => ?_)
    · refine Cv.go (pc' := 95) (go_if_eq_t (tgt := 95) dX6_atom1_43 rfl h10) ?_
      refine Cv.go (pc' := 96) (go_aload_n (i := 0) (x := 40) dX6_atom1_95 rfl rfl) ?_
      refine Cv.go (pc' := 99) (go_getI (i := 24) cls6 (sx_k40 hS) (by decide) rfl lf_X6_156 (by decide) dX6_atom1_96) ?_
      refine Cv.ite (fun h11 => ?_) (fun h11 => ?_)
      · refine Cv.go (pc' := 102) (go_if_ne_f 123 dX6_atom1_99 rfl h11) ?_
        refine Cv.go (pc' := 103) (go_aload_n (i := 0) (x := 40) dX6_atom1_102 rfl rfl) ?_
        refine Cv.go (pc' := 106) (go_getI (i := 20) cls6 (sx_k40 hS) (by decide) rfl lf_X6_139 (by decide) dX6_atom1_103) ?_
        refine Cv.go (pc' := 107) (go_iconst dX6_atom1_106 ic_2) ?_
        refine Cv.ite (fun h12 => ?_) (fun h12 => ?_)
        · refine Cv.go (pc' := 110) (go_icmp_ne_f 123 dX6_atom1_107 rfl h12) ?_
          refine Cv.go (pc' := 111) (go_aload_n (i := 0) (x := 40) dX6_atom1_110 rfl rfl) ?_
          refine Cv.go (pc' := 114) (go_getL (i := 22) cls6 (sx_k40 hS) (by decide) rfl lf_X6_150 rfl dX6_atom1_111) ?_
          refine Cv.go (pc' := 115) (go_l2i dX6_atom1_114) ?_
          refine Cv.namI fun x13 ex13 => ?_
          refine Cv.go (pc' := 116) (ls' := [.ref 40, .int x13]) (go_istore_n dX6_atom1_115 rfl (by decide) rfl) ?_
          refine Cv.go (pc' := 117) (go_aload_n (i := 0) (x := 40) dX6_atom1_116 rfl rfl) ?_
          refine Cv.bnd fun v14 m15 e16 => ?_
          have C17 := kc_X6_next m7 hS v14 m15 e16
          refine Cv.go (pc' := 120) (st' := []) (go_callV (As := []) (st := []) C17 (by decide) ok_X6_next li_X6_next ls_X6_next lm_X6_173 cls6 (sx_k40 hS) rfl rfl (Nat.le_of_ble_eq_true rfl) dX6_atom1_117) ?_
          have zm15 := C17.1.2.2 rfl
          have hS := hS.sh zm15
          refine Cv.go (pc' := 161) (go_goto (tgt := 161) dX6_atom1_120 rfl) ?_
          refine Cv.go (pc' := 162) (go_iload_n (i := 1) (x := x13) dX6_atom1_161 rfl rfl) ?_
          exact Cv.ret dX6_atom1_162 rfl
        · refine Cv.go (pc' := 123) (go_icmp_ne_t (tgt := 123) dX6_atom1_107 rfl h12) ?_
          exact c_X6_atom1_123 m7 (0 : Int32) hS
      · refine Cv.go (pc' := 123) (go_if_ne_t (tgt := 123) dX6_atom1_99 rfl h11) ?_
        exact c_X6_atom1_123 m7 (0 : Int32) hS
    · refine Cv.go (pc' := 46) (go_if_eq_f 95 dX6_atom1_43 rfl h10) ?_
      refine Cv.go (pc' := 47) (go_aload_n (i := 0) (x := 40) dX6_atom1_46 rfl rfl) ?_
      refine Cv.bnd fun v18 m19 e20 => ?_
      have C21 := kc_X6_opens m7 hS v18 m19 e20
      refine Cv.go (pc' := 50) (st' := [.int (bz v18)]) (go_callV (As := []) (st := []) C21 (by decide) ok_X6_opens li_X6_opens ls_X6_opens lm_X6_201 cls6 (sx_k40 hS) rfl rfl (Nat.le_of_ble_eq_true rfl) dX6_atom1_47) ?_
      have zm19 := C21.1.2.2 rfl
      have hS := hS.sh zm19
      refine Cv.ite (fun h22 => ?_) (fun h22 => ?_)
      · refine Cv.go (pc' := 161) (go_if_eq_t (tgt := 161) dX6_atom1_50 rfl h22) ?_
        refine Cv.go (pc' := 162) (go_iload_n (i := 1) (x := (0 : Int32)) dX6_atom1_161 rfl rfl) ?_
        exact Cv.ret dX6_atom1_162 rfl
      · refine Cv.go (pc' := 53) (go_if_eq_f 161 dX6_atom1_50 rfl h22) ?_
        refine Cv.go (pc' := 54) (go_aload_n (i := 0) (x := 40) dX6_atom1_53 rfl rfl) ?_
        refine Cv.bnd fun v23 m24 e25 => ?_
        have C26 := kc_X6_either2 m19 hS v23 m24 e25
        refine Cv.go (pc' := 57) (st' := [.int v23]) (go_callV (As := []) (st := []) C26 (by decide) ok_X6_either2 li_X6_either2 ls_X6_either2 lm_X6_282 cls6 (sx_k40 hS) rfl rfl (Nat.le_of_ble_eq_true rfl) dX6_atom1_54) ?_
        have zm24 := C26.1.2.2 rfl
        have hS := hS.sh zm24
        refine Cv.go (pc' := 58) (ls' := [.ref 40, .int v23]) (go_istore_n dX6_atom1_57 rfl (by decide) rfl) ?_
        refine Cv.go (pc' := 59) (go_aload_n (i := 0) (x := 40) dX6_atom1_58 rfl rfl) ?_
        refine Cv.go (pc' := 61) (go_bipush dX6_atom1_59 ib_41) ?_
        refine Cv.bnd fun v27 m28 e29 => ?_
        have C30 := kc_X6_isSign m24 (41 : Int32) hS v27 m28 e29
        refine Cv.go (pc' := 64) (st' := [.int (bz v27)]) (go_callV (As := [.int (41 : Int32)]) (st := []) C30 (by decide) ok_X6_isSign li_X6_isSign ls_X6_isSign lm_X6_198 cls6 (sx_k40 hS) rfl rfl (Nat.le_of_ble_eq_true rfl) dX6_atom1_61) ?_
        have zm28 := C30.1.2.2 rfl
        have hS := hS.sh zm28
        refine Cv.ite (fun h31 => ?_) (fun h31 => ?_)
        · refine Cv.go (pc' := 67) (go_if_ne_f 71 dX6_atom1_64 rfl h31) ?_
          refine Cv.go (pc' := 68) (go_aload_n (i := 0) (x := 40) dX6_atom1_67 rfl rfl) ?_
          refine Cv.bnd fun v32 m33 e34 => ?_
          have C35 := kc_X6_fail m28 hS v32 m33 e34
          refine Cv.go (pc' := 71) (st' := []) (go_callV (As := []) (st := []) C35 (by decide) ok_X6_fail li_X6_fail ls_X6_fail lm_X6_170 cls6 (sx_k40 hS) rfl rfl (Nat.le_of_ble_eq_true rfl) dX6_atom1_68) ?_
          have zm33 := C35.1.2.2 rfl
          have hS := hS.sh zm33
          exact c_X6_atom1_71 m33 v23 hS
        · refine Cv.go (pc' := 71) (go_if_ne_t (tgt := 71) dX6_atom1_64 rfl h31) ?_
          exact c_X6_atom1_71 m28 v23 hS
  · refine Cv.go (pc' := 11) (go_if_eq_f 37 dX6_atom1_8 rfl h5) ?_
    refine Cv.go (pc' := 12) (go_aload_n (i := 0) (x := 40) dX6_atom1_11 rfl rfl) ?_
    refine Cv.bnd fun v36 m37 e38 => ?_
    have C39 := kc_X6_opens m2 hS v36 m37 e38
    refine Cv.go (pc' := 15) (st' := [.int (bz v36)]) (go_callV (As := []) (st := []) C39 (by decide) ok_X6_opens li_X6_opens ls_X6_opens lm_X6_201 cls6 (sx_k40 hS) rfl rfl (Nat.le_of_ble_eq_true rfl) dX6_atom1_12) ?_
    have zm37 := C39.1.2.2 rfl
    have hS := hS.sh zm37
    refine Cv.ite (fun h40 => ?_) (fun h40 => ?_)
    · refine Cv.go (pc' := 161) (go_if_eq_t (tgt := 161) dX6_atom1_15 rfl h40) ?_
      refine Cv.go (pc' := 162) (go_iload_n (i := 1) (x := (0 : Int32)) dX6_atom1_161 rfl rfl) ?_
      exact Cv.ret dX6_atom1_162 rfl
    · refine Cv.go (pc' := 18) (go_if_eq_f 161 dX6_atom1_15 rfl h40) ?_
      refine Cv.go (pc' := 19) (go_aload_n (i := 0) (x := 40) dX6_atom1_18 rfl rfl) ?_
      refine Cv.bnd fun v41 m42 e43 => ?_
      have C44 := kc_X6_atom2 m37 hS v41 m42 e43
      refine Cv.go (pc' := 22) (st' := [.int v41]) (go_callV (As := []) (st := []) C44 (by decide) ok_X6_atom2 li_X6_atom2 ls_X6_atom2 lm_X6_267 cls6 (sx_k40 hS) rfl rfl (Nat.le_of_ble_eq_true rfl) dX6_atom1_19) ?_
      have zm42 := C44.1.2.2 rfl
      have hS := hS.sh zm42
      refine Cv.go (pc' := 23) (go_ineg dX6_atom1_22) ?_
      refine Cv.namI fun x45 ex45 => ?_
      refine Cv.go (pc' := 24) (ls' := [.ref 40, .int x45]) (go_istore_n dX6_atom1_23 rfl (by decide) rfl) ?_
      refine Cv.go (pc' := 25) (go_aload_n (i := 0) (x := 40) dX6_atom1_24 rfl rfl) ?_
      refine Cv.go (pc' := 26) (go_dup_a dX6_atom1_25) ?_
      refine Cv.go (pc' := 29) (go_getI (i := 23) cls6 (sx_k40 hS) (by decide) rfl lf_X6_167 (by decide) dX6_atom1_26) ?_
      refine Cv.go (pc' := 30) (go_iconst dX6_atom1_29 ic_1) ?_
      refine Cv.go (pc' := 31) (go_isub dX6_atom1_30) ?_
      refine Cv.go (pc' := 34) (go_putI (i := 23) cls6 (sx_k40 hS) (by decide) rfl lf_X6_167 (by decide) rfl rfl rfl dX6_atom1_31) ?_
      refine Cv.namM fun m46 em46 => ?_
      have zm46 : SameSh m42 m46 := em46 ▸ SameSh.d
      have hS := hS.sh zm46
      refine Cv.go (pc' := 161) (go_goto (tgt := 161) dX6_atom1_34 rfl) ?_
      refine Cv.go (pc' := 162) (go_iload_n (i := 1) (x := x45) dX6_atom1_161 rfl rfl) ?_
      exact Cv.ret dX6_atom1_162 rfl
theorem c_X6_term1_5 : ∀ n, ∀ (m : Mem) (a1 : Int32) (hS : ShM m), Cv true (cX6_term1, 2, RX6, 29, ((false, none) : IK)) .ireturn eI (F_X6_term1_5 n m a1) m 5 [.ref 40, .int a1] [] := by
  intro n
  induction n with
  | zero => intro m a1 hS; exact Cv.no
  | succ n ih =>
    intro m a1 hS
    unfold F_X6_term1_5
    refine Cv.go (pc' := 6) (go_aload_n (i := 0) (x := 40) dX6_term1_5 rfl rfl) ?_
    refine Cv.go (pc' := 8) (go_bipush dX6_term1_6 ib_42) ?_
    refine Cv.bnd fun v5 m6 e7 => ?_
    have C8 := kc_X6_isSign m (42 : Int32) hS v5 m6 e7
    refine Cv.go (pc' := 11) (st' := [.int (bz v5)]) (go_callV (As := [.int (42 : Int32)]) (st := []) C8 (by decide) ok_X6_isSign li_X6_isSign ls_X6_isSign lm_X6_198 cls6 (sx_k40 hS) rfl rfl (Nat.le_of_ble_eq_true rfl) dX6_term1_8) ?_
    have zm6 := C8.1.2.2 rfl
    have hS := hS.sh zm6
    refine Cv.ite (fun h9 => ?_) (fun h9 => ?_)
    · refine Cv.go (pc' := 28) (go_if_eq_t (tgt := 28) dX6_term1_11 rfl h9) ?_
      refine Cv.go (pc' := 29) (go_iload_n (i := 1) (x := a1) dX6_term1_28 rfl rfl) ?_
      exact Cv.ret dX6_term1_29 rfl
    · refine Cv.go (pc' := 14) (go_if_eq_f 28 dX6_term1_11 rfl h9) ?_
      refine Cv.go (pc' := 15) (go_aload_n (i := 0) (x := 40) dX6_term1_14 rfl rfl) ?_
      refine Cv.bnd fun v10 m11 e12 => ?_
      have C13 := kc_X6_next m6 hS v10 m11 e12
      refine Cv.go (pc' := 18) (st' := []) (go_callV (As := []) (st := []) C13 (by decide) ok_X6_next li_X6_next ls_X6_next lm_X6_173 cls6 (sx_k40 hS) rfl rfl (Nat.le_of_ble_eq_true rfl) dX6_term1_15) ?_
      have zm11 := C13.1.2.2 rfl
      have hS := hS.sh zm11
      refine Cv.go (pc' := 19) (go_iload_n (i := 1) (x := a1) dX6_term1_18 rfl rfl) ?_
      refine Cv.go (pc' := 20) (go_aload_n (i := 0) (x := 40) dX6_term1_19 rfl rfl) ?_
      refine Cv.bnd fun v14 m15 e16 => ?_
      have C17 := kc_X6_atom1 m11 hS v14 m15 e16
      refine Cv.go (pc' := 23) (st' := [.int v14, .int a1]) (go_callV (As := []) (st := [.int a1]) C17 (by decide) ok_X6_atom1 li_X6_atom1 ls_X6_atom1 lm_X6_285 cls6 (sx_k40 hS) rfl rfl (Nat.le_of_ble_eq_true rfl) dX6_term1_20) ?_
      have zm15 := C17.1.2.2 rfl
      have hS := hS.sh zm15
      refine Cv.go (pc' := 24) (go_imul dX6_term1_23) ?_
      refine Cv.namI fun x18 ex18 => ?_
      refine Cv.go (pc' := 25) (ls' := [.ref 40, .int x18]) (go_istore_n dX6_term1_24 rfl (by decide) rfl) ?_
      refine Cv.go (pc' := 5) (go_goto (tgt := 5) dX6_term1_25 rfl) ?_
      exact ih m15 x18 hS
theorem kc_X6_term1 (m : Mem) (hS : ShM m) : ∀ v mE, F_X6_term1 m = some (v, mE) → Con true kX6_term1 29 [.ref 40] m (eI v) mE := by
  refine Con.of (ini := false) (ls0 := [.ref 40, .null]) (ri := .ireturn) (by decide) (by intro z; cases z) rfl (Nat.le_of_ble_eq_true rfl) (fun v mE _ => RetTy.i) ?_
  show Cv true (cX6_term1, 2, RX6, 29, ((false, none) : IK)) .ireturn eI (F_X6_term1 m) m 0 [.ref 40, .null] []
  unfold F_X6_term1
  refine Cv.go (pc' := 1) (go_aload_n (i := 0) (x := 40) dX6_term1_0 rfl rfl) ?_
  refine Cv.bnd fun v1 m2 e3 => ?_
  have C4 := kc_X6_atom1 m hS v1 m2 e3
  refine Cv.go (pc' := 4) (st' := [.int v1]) (go_callV (As := []) (st := []) C4 (by decide) ok_X6_atom1 li_X6_atom1 ls_X6_atom1 lm_X6_285 cls6 (sx_k40 hS) rfl rfl (Nat.le_of_ble_eq_true rfl) dX6_term1_1) ?_
  have zm2 := C4.1.2.2 rfl
  have hS := hS.sh zm2
  refine Cv.go (pc' := 5) (ls' := [.ref 40, .int v1]) (go_istore_n dX6_term1_4 rfl (by decide) rfl) ?_
  exact c_X6_term1_5 FU m2 v1 hS
theorem c_X6_added1_62 (K5 : Mem → Int32 → Option (Int32 × Mem)) (hK5 : ∀ (m : Mem) (a1 : Int32) (hS : ShM m), Cv true (cX6_added1, 4, RX6, 30, ((false, none) : IK)) .ireturn eI (K5 m a1) m 5 [.ref 40, .int a1, .null, .null] []) : ∀ (m : Mem) (s0 : Int32) (hS : ShM m), Cv true (cX6_added1, 4, RX6, 30, ((false, none) : IK)) .ireturn eI (F_X6_added1_62 K5 m s0) m 62 [.ref 40, .null, .null, .null] [.int s0] := by
  intro m s0 hS
  unfold F_X6_added1_62
  refine Cv.go (pc' := 63) (ls' := [.ref 40, .int s0, .null, .null]) (go_istore_n dX6_added1_62 rfl (by decide) rfl) ?_
  refine Cv.go (pc' := 5) (go_goto (tgt := 5) dX6_added1_63 rfl) ?_
  exact hK5 m s0 hS
theorem c_X6_added1_39 (K5 : Mem → Int32 → Option (Int32 × Mem)) (hK5 : ∀ (m : Mem) (a1 : Int32) (hS : ShM m), Cv true (cX6_added1, 4, RX6, 30, ((false, none) : IK)) .ireturn eI (K5 m a1) m 5 [.ref 40, .int a1, .null, .null] []) : ∀ (m : Mem) (a1 : Int32) (s0 : Int32) (hS : ShM m), Cv true (cX6_added1, 4, RX6, 30, ((false, none) : IK)) .ireturn eI (F_X6_added1_39 K5 m a1 s0) m 39 [.ref 40, .int a1, .null, .null] [.int s0] := by
  intro m a1 s0 hS
  unfold F_X6_added1_39
  refine Cv.go (pc' := 40) (ls' := [.ref 40, .int a1, .int s0, .null]) (go_istore_n dX6_added1_39 rfl (by decide) rfl) ?_
  refine Cv.go (pc' := 41) (go_aload_n (i := 0) (x := 40) dX6_added1_40 rfl rfl) ?_
  refine Cv.bnd fun v16 m17 e18 => ?_
  have C19 := kc_X6_next m hS v16 m17 e18
  refine Cv.go (pc' := 44) (st' := []) (go_callV (As := []) (st := []) C19 (by decide) ok_X6_next li_X6_next ls_X6_next lm_X6_173 cls6 (sx_k40 hS) rfl rfl (Nat.le_of_ble_eq_true rfl) dX6_added1_41) ?_
  have zm17 := C19.1.2.2 rfl
  have hS := hS.sh zm17
  refine Cv.go (pc' := 45) (go_aload_n (i := 0) (x := 40) dX6_added1_44 rfl rfl) ?_
  refine Cv.bnd fun v20 m21 e22 => ?_
  have C23 := kc_X6_term1 m17 hS v20 m21 e22
  refine Cv.go (pc' := 48) (st' := [.int v20]) (go_callV (As := []) (st := []) C23 (by decide) ok_X6_term1 li_X6_term1 ls_X6_term1 lm_X6_288 cls6 (sx_k40 hS) rfl rfl (Nat.le_of_ble_eq_true rfl) dX6_added1_45) ?_
  have zm21 := C23.1.2.2 rfl
  have hS := hS.sh zm21
  refine Cv.go (pc' := 49) (ls' := [.ref 40, .int a1, .int s0, .int v20]) (go_istore_n dX6_added1_48 rfl (by decide) rfl) ?_
  refine Cv.go (pc' := 50) (go_iload_n (i := 2) (x := s0) dX6_added1_49 rfl rfl) ?_
  refine Cv.ite (fun h24 => ?_) (fun h24 => ?_)
  · refine Cv.go (pc' := 59) (go_if_eq_t (tgt := 59) dX6_added1_50 rfl h24) ?_
    refine Cv.go (pc' := 60) (go_iload_n (i := 1) (x := a1) dX6_added1_59 rfl rfl) ?_
    refine Cv.go (pc' := 61) (go_iload_n (i := 3) (x := v20) dX6_added1_60 rfl rfl) ?_
    refine Cv.go (pc' := 62) (go_isub dX6_added1_61) ?_
    refine Cv.weak (ls' := [.ref 40, .null, .null, .null]) (⟨Or.inr rfl, ⟨Or.inl rfl, ⟨Or.inl rfl, ⟨Or.inl rfl, True.intro⟩⟩⟩⟩) ?_
    exact c_X6_added1_62 K5 hK5 m21 (a1 - v20) hS
  · refine Cv.go (pc' := 53) (go_if_eq_f 59 dX6_added1_50 rfl h24) ?_
    refine Cv.go (pc' := 54) (go_iload_n (i := 1) (x := a1) dX6_added1_53 rfl rfl) ?_
    refine Cv.go (pc' := 55) (go_iload_n (i := 3) (x := v20) dX6_added1_54 rfl rfl) ?_
    refine Cv.go (pc' := 56) (go_iadd dX6_added1_55) ?_
    refine Cv.go (pc' := 62) (go_goto (tgt := 62) dX6_added1_56 rfl) ?_
    refine Cv.weak (ls' := [.ref 40, .null, .null, .null]) (⟨Or.inr rfl, ⟨Or.inl rfl, ⟨Or.inl rfl, ⟨Or.inl rfl, True.intro⟩⟩⟩⟩) ?_
    exact c_X6_added1_62 K5 hK5 m21 (a1 + v20) hS
theorem c_X6_added1_23 (K5 : Mem → Int32 → Option (Int32 × Mem)) (hK5 : ∀ (m : Mem) (a1 : Int32) (hS : ShM m), Cv true (cX6_added1, 4, RX6, 30, ((false, none) : IK)) .ireturn eI (K5 m a1) m 5 [.ref 40, .int a1, .null, .null] []) : ∀ (m : Mem) (a1 : Int32) (hS : ShM m), Cv true (cX6_added1, 4, RX6, 30, ((false, none) : IK)) .ireturn eI (F_X6_added1_23 K5 m a1) m 23 [.ref 40, .int a1, .null, .null] [] := by
  intro m a1 hS
  unfold F_X6_added1_23
  refine Cv.go (pc' := 24) (go_aload_n (i := 0) (x := 40) dX6_added1_23 rfl rfl) ?_
  refine Cv.go (pc' := 27) (go_getL (i := 22) cls6 (sx_k40 hS) (by decide) rfl lf_X6_150 rfl dX6_added1_24) ?_
  refine Cv.go (pc' := 30) (go_ldc2 dX6_added1_27 ll_X6_215) ?_
  refine Cv.go (pc' := 31) (go_lcmp dX6_added1_30) ?_
  refine Cv.ite (fun h15 => ?_) (fun h15 => ?_)
  · refine Cv.go (pc' := 34) (go_if_ne_f 38 dX6_added1_31 rfl h15) ?_
    refine Cv.go (pc' := 35) (go_iconst dX6_added1_34 ic_1) ?_
    refine Cv.go (pc' := 39) (go_goto (tgt := 39) dX6_added1_35 rfl) ?_
    exact c_X6_added1_39 K5 hK5 m a1 (1 : Int32) hS
  · refine Cv.go (pc' := 38) (go_if_ne_t (tgt := 38) dX6_added1_31 rfl h15) ?_
    refine Cv.go (pc' := 39) (go_iconst dX6_added1_38 ic_0) ?_
    exact c_X6_added1_39 K5 hK5 m a1 (0 : Int32) hS
theorem c_X6_added1_5 : ∀ n, ∀ (m : Mem) (a1 : Int32) (hS : ShM m), Cv true (cX6_added1, 4, RX6, 30, ((false, none) : IK)) .ireturn eI (F_X6_added1_5 n m a1) m 5 [.ref 40, .int a1, .null, .null] [] := by
  intro n
  induction n with
  | zero => intro m a1 hS; exact Cv.no
  | succ n ih =>
    intro m a1 hS
    unfold F_X6_added1_5
    refine Cv.go (pc' := 6) (go_aload_n (i := 0) (x := 40) dX6_added1_5 rfl rfl) ?_
    refine Cv.go (pc' := 8) (go_bipush dX6_added1_6 ib_43) ?_
    refine Cv.bnd fun v5 m6 e7 => ?_
    have C8 := kc_X6_isSign m (43 : Int32) hS v5 m6 e7
    refine Cv.go (pc' := 11) (st' := [.int (bz v5)]) (go_callV (As := [.int (43 : Int32)]) (st := []) C8 (by decide) ok_X6_isSign li_X6_isSign ls_X6_isSign lm_X6_198 cls6 (sx_k40 hS) rfl rfl (Nat.le_of_ble_eq_true rfl) dX6_added1_8) ?_
    have zm6 := C8.1.2.2 rfl
    have hS := hS.sh zm6
    refine Cv.ite (fun h9 => ?_) (fun h9 => ?_)
    · refine Cv.go (pc' := 14) (go_if_ne_f 23 dX6_added1_11 rfl h9) ?_
      refine Cv.go (pc' := 15) (go_aload_n (i := 0) (x := 40) dX6_added1_14 rfl rfl) ?_
      refine Cv.go (pc' := 17) (go_bipush dX6_added1_15 ib_45) ?_
      refine Cv.bnd fun v10 m11 e12 => ?_
      have C13 := kc_X6_isSign m6 (45 : Int32) hS v10 m11 e12
      refine Cv.go (pc' := 20) (st' := [.int (bz v10)]) (go_callV (As := [.int (45 : Int32)]) (st := []) C13 (by decide) ok_X6_isSign li_X6_isSign ls_X6_isSign lm_X6_198 cls6 (sx_k40 hS) rfl rfl (Nat.le_of_ble_eq_true rfl) dX6_added1_17) ?_
      have zm11 := C13.1.2.2 rfl
      have hS := hS.sh zm11
      refine Cv.ite (fun h14 => ?_) (fun h14 => ?_)
      · refine Cv.go (pc' := 66) (go_if_eq_t (tgt := 66) dX6_added1_20 rfl h14) ?_
        refine Cv.go (pc' := 67) (go_iload_n (i := 1) (x := a1) dX6_added1_66 rfl rfl) ?_
        exact Cv.ret dX6_added1_67 rfl
      · refine Cv.go (pc' := 23) (go_if_eq_f 66 dX6_added1_20 rfl h14) ?_
        exact c_X6_added1_23 (F_X6_added1_5 n) ih m11 a1 hS
    · refine Cv.go (pc' := 23) (go_if_ne_t (tgt := 23) dX6_added1_11 rfl h9) ?_
      exact c_X6_added1_23 (F_X6_added1_5 n) ih m6 a1 hS
theorem kc_X6_added1 (m : Mem) (hS : ShM m) : ∀ v mE, F_X6_added1 m = some (v, mE) → Con true kX6_added1 30 [.ref 40] m (eI v) mE := by
  refine Con.of (ini := false) (ls0 := [.ref 40, .null, .null, .null]) (ri := .ireturn) (by decide) (by intro z; cases z) rfl (Nat.le_of_ble_eq_true rfl) (fun v mE _ => RetTy.i) ?_
  show Cv true (cX6_added1, 4, RX6, 30, ((false, none) : IK)) .ireturn eI (F_X6_added1 m) m 0 [.ref 40, .null, .null, .null] []
  unfold F_X6_added1
  refine Cv.go (pc' := 1) (go_aload_n (i := 0) (x := 40) dX6_added1_0 rfl rfl) ?_
  refine Cv.bnd fun v1 m2 e3 => ?_
  have C4 := kc_X6_term1 m hS v1 m2 e3
  refine Cv.go (pc' := 4) (st' := [.int v1]) (go_callV (As := []) (st := []) C4 (by decide) ok_X6_term1 li_X6_term1 ls_X6_term1 lm_X6_288 cls6 (sx_k40 hS) rfl rfl (Nat.le_of_ble_eq_true rfl) dX6_added1_1) ?_
  have zm2 := C4.1.2.2 rfl
  have hS := hS.sh zm2
  refine Cv.go (pc' := 5) (ls' := [.ref 40, .int v1, .null, .null]) (go_istore_n dX6_added1_4 rfl (by decide) rfl) ?_
  exact c_X6_added1_5 FU m2 v1 hS
theorem c_X6_not1_93 : ∀ (m : Mem) (a1 : Int32) (s0 : Int32) (hS : ShM m), Cv true (cX6_not1, 4, RX6, 31, ((false, none) : IK)) .ireturn eI (F_X6_not1_93 m a1 s0) m 93 [.ref 40, .int a1, .null, .null] [.int s0] := by
  intro m a1 s0 hS
  unfold F_X6_not1_93
  refine Cv.go (pc' := 94) (ls' := [.ref 40, .int a1, .int s0, .null]) (go_istore_n dX6_not1_93 rfl (by decide) rfl) ?_
  refine Cv.go (pc' := 95) (go_aload_n (i := 0) (x := 40) dX6_not1_94 rfl rfl) ?_
  refine Cv.bnd fun v32 m33 e34 => ?_
  have C35 := kc_X6_next m hS v32 m33 e34
  refine Cv.go (pc' := 98) (st' := []) (go_callV (As := []) (st := []) C35 (by decide) ok_X6_next li_X6_next ls_X6_next lm_X6_173 cls6 (sx_k40 hS) rfl rfl (Nat.le_of_ble_eq_true rfl) dX6_not1_95) ?_
  have zm33 := C35.1.2.2 rfl
  have hS := hS.sh zm33
  refine Cv.go (pc' := 99) (go_aload_n (i := 0) (x := 40) dX6_not1_98 rfl rfl) ?_
  refine Cv.bnd fun v36 m37 e38 => ?_
  have C39 := kc_X6_added1 m33 hS v36 m37 e38
  refine Cv.go (pc' := 102) (st' := [.int v36]) (go_callV (As := []) (st := []) C39 (by decide) ok_X6_added1 li_X6_added1 ls_X6_added1 lm_X6_291 cls6 (sx_k40 hS) rfl rfl (Nat.le_of_ble_eq_true rfl) dX6_not1_99) ?_
  have zm37 := C39.1.2.2 rfl
  have hS := hS.sh zm37
  refine Cv.go (pc' := 103) (ls' := [.ref 40, .int a1, .int s0, .int v36]) (go_istore_n dX6_not1_102 rfl (by decide) rfl) ?_
  refine Cv.go (pc' := 104) (go_iload_n (i := 2) (x := s0) dX6_not1_103 rfl rfl) ?_
  refine Cv.ite (fun h40 => ?_) (fun h40 => ?_)
  · refine Cv.go (pc' := 115) (go_if_eq_t (tgt := 115) dX6_not1_104 rfl h40) ?_
    refine Cv.go (pc' := 116) (go_iload_n (i := 1) (x := a1) dX6_not1_115 rfl rfl) ?_
    refine Cv.go (pc' := 117) (go_iload_n (i := 3) (x := v36) dX6_not1_116 rfl rfl) ?_
    refine Cv.ite (fun h41 => ?_) (fun h41 => ?_)
    · refine Cv.go (pc' := 120) (go_icmp_ne_f 124 dX6_not1_117 rfl h41) ?_
      refine Cv.go (pc' := 121) (go_iconst dX6_not1_120 ic_1) ?_
      refine Cv.go (pc' := 125) (go_goto (tgt := 125) dX6_not1_121 rfl) ?_
      exact Cv.ret dX6_not1_125 rfl
    · refine Cv.go (pc' := 124) (go_icmp_ne_t (tgt := 124) dX6_not1_117 rfl h41) ?_
      refine Cv.go (pc' := 125) (go_iconst dX6_not1_124 ic_0) ?_
      exact Cv.ret dX6_not1_125 rfl
  · refine Cv.go (pc' := 107) (go_if_eq_f 115 dX6_not1_104 rfl h40) ?_
    refine Cv.go (pc' := 108) (go_iload_n (i := 1) (x := a1) dX6_not1_107 rfl rfl) ?_
    refine Cv.go (pc' := 109) (go_iload_n (i := 3) (x := v36) dX6_not1_108 rfl rfl) ?_
    refine Cv.ite (fun h42 => ?_) (fun h42 => ?_)
    · refine Cv.go (pc' := 124) (go_icmp_ge_t (tgt := 124) dX6_not1_109 rfl h42) ?_
      refine Cv.go (pc' := 125) (go_iconst dX6_not1_124 ic_0) ?_
      exact Cv.ret dX6_not1_125 rfl
    · refine Cv.go (pc' := 112) (go_icmp_ge_f 124 dX6_not1_109 rfl h42) ?_
      refine Cv.go (pc' := 120) (go_goto (tgt := 120) dX6_not1_112 rfl) ?_
      refine Cv.go (pc' := 121) (go_iconst dX6_not1_120 ic_1) ?_
      refine Cv.go (pc' := 125) (go_goto (tgt := 125) dX6_not1_121 rfl) ?_
      exact Cv.ret dX6_not1_125 rfl
theorem c_X6_not1_77 : ∀ (m : Mem) (a1 : Int32) (hS : ShM m), Cv true (cX6_not1, 4, RX6, 31, ((false, none) : IK)) .ireturn eI (F_X6_not1_77 m a1) m 77 [.ref 40, .int a1, .null, .null] [] := by
  intro m a1 hS
  unfold F_X6_not1_77
  refine Cv.go (pc' := 78) (go_aload_n (i := 0) (x := 40) dX6_not1_77 rfl rfl) ?_
  refine Cv.go (pc' := 81) (go_getL (i := 22) cls6 (sx_k40 hS) (by decide) rfl lf_X6_150 rfl dX6_not1_78) ?_
  refine Cv.go (pc' := 84) (go_ldc2 dX6_not1_81 ll_X6_220) ?_
  refine Cv.go (pc' := 85) (go_lcmp dX6_not1_84) ?_
  refine Cv.ite (fun h31 => ?_) (fun h31 => ?_)
  · refine Cv.go (pc' := 88) (go_if_ne_f 92 dX6_not1_85 rfl h31) ?_
    refine Cv.go (pc' := 89) (go_iconst dX6_not1_88 ic_1) ?_
    refine Cv.go (pc' := 93) (go_goto (tgt := 93) dX6_not1_89 rfl) ?_
    exact c_X6_not1_93 m a1 (1 : Int32) hS
  · refine Cv.go (pc' := 92) (go_if_ne_t (tgt := 92) dX6_not1_85 rfl h31) ?_
    refine Cv.go (pc' := 93) (go_iconst dX6_not1_92 ic_0) ?_
    exact c_X6_not1_93 m a1 (0 : Int32) hS
theorem kc_X6_not1 (m : Mem) (hS : ShM m) : ∀ v mE, F_X6_not1 m = some (v, mE) → Con true kX6_not1 31 [.ref 40] m (eI v) mE := by
  refine Con.of (ini := false) (ls0 := [.ref 40, .null, .null, .null]) (ri := .ireturn) (by decide) (by intro z; cases z) rfl (Nat.le_of_ble_eq_true rfl) (fun v mE _ => RetTy.i) ?_
  show Cv true (cX6_not1, 4, RX6, 31, ((false, none) : IK)) .ireturn eI (F_X6_not1 m) m 0 [.ref 40, .null, .null, .null] []
  unfold F_X6_not1
  refine Cv.go (pc' := 1) (go_aload_n (i := 0) (x := 40) dX6_not1_0 rfl rfl) ?_
  refine Cv.go (pc' := 3) (go_bipush dX6_not1_1 ib_110) ?_
  refine Cv.go (pc' := 5) (go_bipush dX6_not1_3 ib_111) ?_
  refine Cv.go (pc' := 7) (go_bipush dX6_not1_5 ib_116) ?_
  refine Cv.go (pc' := 8) (go_iconst dX6_not1_7 ic_0) ?_
  refine Cv.go (pc' := 9) (go_iconst dX6_not1_8 ic_0) ?_
  refine Cv.go (pc' := 10) (go_iconst dX6_not1_9 ic_0) ?_
  refine Cv.go (pc' := 11) (go_iconst dX6_not1_10 ic_0) ?_
  refine Cv.go (pc' := 12) (go_iconst dX6_not1_11 ic_0) ?_
  refine Cv.bnd fun v1 m2 e3 => ?_
  have C4 := kc_X6_isWord m (110 : Int32) (111 : Int32) (116 : Int32) (0 : Int32) (0 : Int32) (0 : Int32) (0 : Int32) (0 : Int32) hS v1 m2 e3
  refine Cv.go (pc' := 15) (st' := [.int (bz v1)]) (go_callV (As := [.int (110 : Int32), .int (111 : Int32), .int (116 : Int32), .int (0 : Int32), .int (0 : Int32), .int (0 : Int32), .int (0 : Int32), .int (0 : Int32)]) (st := []) C4 (by decide) ok_X6_isWord li_X6_isWord ls_X6_isWord lm_X6_176 cls6 (sx_k40 hS) rfl rfl (Nat.le_of_ble_eq_true rfl) dX6_not1_12) ?_
  have zm2 := C4.1.2.2 rfl
  have hS := hS.sh zm2
  refine Cv.ite (fun h5 => ?_) (fun h5 => ?_)
  · refine Cv.go (pc' := 52) (go_if_eq_t (tgt := 52) dX6_not1_15 rfl h5) ?_
    refine Cv.go (pc' := 53) (go_aload_n (i := 0) (x := 40) dX6_not1_52 rfl rfl) ?_
    refine Cv.bnd fun v6 m7 e8 => ?_
    have C9 := kc_X6_added1 m2 hS v6 m7 e8
    refine Cv.go (pc' := 56) (st' := [.int v6]) (go_callV (As := []) (st := []) C9 (by decide) ok_X6_added1 li_X6_added1 ls_X6_added1 lm_X6_291 cls6 (sx_k40 hS) rfl rfl (Nat.le_of_ble_eq_true rfl) dX6_not1_53) ?_
    have zm7 := C9.1.2.2 rfl
    have hS := hS.sh zm7
    refine Cv.go (pc' := 57) (ls' := [.ref 40, .int v6, .null, .null]) (go_istore_n dX6_not1_56 rfl (by decide) rfl) ?_
    refine Cv.go (pc' := 58) (go_aload_n (i := 0) (x := 40) dX6_not1_57 rfl rfl) ?_
    refine Cv.go (pc' := 60) (go_bipush dX6_not1_58 ib_60) ?_
    refine Cv.bnd fun v10 m11 e12 => ?_
    have C13 := kc_X6_isSign m7 (60 : Int32) hS v10 m11 e12
    refine Cv.go (pc' := 63) (st' := [.int (bz v10)]) (go_callV (As := [.int (60 : Int32)]) (st := []) C13 (by decide) ok_X6_isSign li_X6_isSign ls_X6_isSign lm_X6_198 cls6 (sx_k40 hS) rfl rfl (Nat.le_of_ble_eq_true rfl) dX6_not1_60) ?_
    have zm11 := C13.1.2.2 rfl
    have hS := hS.sh zm11
    refine Cv.ite (fun h14 => ?_) (fun h14 => ?_)
    · refine Cv.go (pc' := 66) (go_if_ne_f 77 dX6_not1_63 rfl h14) ?_
      refine Cv.go (pc' := 67) (go_aload_n (i := 0) (x := 40) dX6_not1_66 rfl rfl) ?_
      refine Cv.go (pc' := 69) (go_bipush dX6_not1_67 ib_61) ?_
      refine Cv.bnd fun v15 m16 e17 => ?_
      have C18 := kc_X6_isSign m11 (61 : Int32) hS v15 m16 e17
      refine Cv.go (pc' := 72) (st' := [.int (bz v15)]) (go_callV (As := [.int (61 : Int32)]) (st := []) C18 (by decide) ok_X6_isSign li_X6_isSign ls_X6_isSign lm_X6_198 cls6 (sx_k40 hS) rfl rfl (Nat.le_of_ble_eq_true rfl) dX6_not1_69) ?_
      have zm16 := C18.1.2.2 rfl
      have hS := hS.sh zm16
      refine Cv.ite (fun h19 => ?_) (fun h19 => ?_)
      · refine Cv.go (pc' := 75) (go_if_ne_f 77 dX6_not1_72 rfl h19) ?_
        refine Cv.go (pc' := 76) (go_iload_n (i := 1) (x := v6) dX6_not1_75 rfl rfl) ?_
        exact Cv.ret dX6_not1_76 rfl
      · refine Cv.go (pc' := 77) (go_if_ne_t (tgt := 77) dX6_not1_72 rfl h19) ?_
        exact c_X6_not1_77 m16 v6 hS
    · refine Cv.go (pc' := 77) (go_if_ne_t (tgt := 77) dX6_not1_63 rfl h14) ?_
      exact c_X6_not1_77 m11 v6 hS
  · refine Cv.go (pc' := 18) (go_if_eq_f 52 dX6_not1_15 rfl h5) ?_
    refine Cv.go (pc' := 19) (go_aload_n (i := 0) (x := 40) dX6_not1_18 rfl rfl) ?_
    refine Cv.bnd fun v20 m21 e22 => ?_
    have C23 := kc_X6_opens m2 hS v20 m21 e22
    refine Cv.go (pc' := 22) (st' := [.int (bz v20)]) (go_callV (As := []) (st := []) C23 (by decide) ok_X6_opens li_X6_opens ls_X6_opens lm_X6_201 cls6 (sx_k40 hS) rfl rfl (Nat.le_of_ble_eq_true rfl) dX6_not1_19) ?_
    have zm21 := C23.1.2.2 rfl
    have hS := hS.sh zm21
    refine Cv.ite (fun h24 => ?_) (fun h24 => ?_)
    · refine Cv.go (pc' := 25) (go_if_ne_f 27 dX6_not1_22 rfl h24) ?_
      refine Cv.go (pc' := 26) (go_iconst dX6_not1_25 ic_0) ?_
      exact Cv.ret dX6_not1_26 rfl
    · refine Cv.go (pc' := 27) (go_if_ne_t (tgt := 27) dX6_not1_22 rfl h24) ?_
      refine Cv.go (pc' := 28) (go_aload_n (i := 0) (x := 40) dX6_not1_27 rfl rfl) ?_
      refine Cv.bnd fun v25 m26 e27 => ?_
      have C28 := kc_X6_not2 m21 hS v25 m26 e27
      refine Cv.go (pc' := 31) (st' := [.int v25]) (go_callV (As := []) (st := []) C28 (by decide) ok_X6_not2 li_X6_not2 ls_X6_not2 lm_X6_276 cls6 (sx_k40 hS) rfl rfl (Nat.le_of_ble_eq_true rfl) dX6_not1_28) ?_
      have zm26 := C28.1.2.2 rfl
      have hS := hS.sh zm26
      refine Cv.go (pc' := 32) (ls' := [.ref 40, .int v25, .null, .null]) (go_istore_n dX6_not1_31 rfl (by decide) rfl) ?_
      refine Cv.go (pc' := 33) (go_aload_n (i := 0) (x := 40) dX6_not1_32 rfl rfl) ?_
      refine Cv.go (pc' := 34) (go_dup_a dX6_not1_33) ?_
      refine Cv.go (pc' := 37) (go_getI (i := 23) cls6 (sx_k40 hS) (by decide) rfl lf_X6_167 (by decide) dX6_not1_34) ?_
      refine Cv.go (pc' := 38) (go_iconst dX6_not1_37 ic_1) ?_
      refine Cv.go (pc' := 39) (go_isub dX6_not1_38) ?_
      refine Cv.go (pc' := 42) (go_putI (i := 23) cls6 (sx_k40 hS) (by decide) rfl lf_X6_167 (by decide) rfl rfl rfl dX6_not1_39) ?_
      refine Cv.namM fun m29 em29 => ?_
      have zm29 : SameSh m26 m29 := em29 ▸ SameSh.d
      have hS := hS.sh zm29
      refine Cv.go (pc' := 43) (go_iload_n (i := 1) (x := v25) dX6_not1_42 rfl rfl) ?_
      refine Cv.ite (fun h30 => ?_) (fun h30 => ?_)
      · refine Cv.go (pc' := 46) (go_if_ne_f 50 dX6_not1_43 rfl h30) ?_
        refine Cv.go (pc' := 47) (go_iconst dX6_not1_46 ic_1) ?_
        refine Cv.go (pc' := 51) (go_goto (tgt := 51) dX6_not1_47 rfl) ?_
        exact Cv.ret dX6_not1_51 rfl
      · refine Cv.go (pc' := 50) (go_if_ne_t (tgt := 50) dX6_not1_43 rfl h30) ?_
        refine Cv.go (pc' := 51) (go_iconst dX6_not1_50 ic_0) ?_
        exact Cv.ret dX6_not1_51 rfl
