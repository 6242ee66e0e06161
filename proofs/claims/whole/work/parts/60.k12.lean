theorem c_X6_bitsOf_4 : ∀ n, ∀ (m : Mem) (a1 : Int32) (a2 : Int32), Cv true (cX6_bitsOf, 3, RX6, 0, ((false, none) : IK)) .ireturn eI (F_X6_bitsOf_4 n m a1 a2) m 4 [.null, .int a1, .int a2] [] := by
  intro n
  induction n with
  | zero => intro m a1 a2; exact Cv.no
  | succ n ih =>
    intro m a1 a2
    unfold F_X6_bitsOf_4
    refine Cv.go (pc' := 5) (go_iload_n (i := 2) (x := a2) dX6_bitsOf_4 rfl rfl) ?_
    refine Cv.ite (fun h1 => ?_) (fun h1 => ?_)
    · refine Cv.go (pc' := 20) (go_if_eq_t (tgt := 20) dX6_bitsOf_5 rfl h1) ?_
      refine Cv.go (pc' := 21) (go_iload_n (i := 1) (x := a1) dX6_bitsOf_20 rfl rfl) ?_
      exact Cv.ret dX6_bitsOf_21 rfl
    · refine Cv.go (pc' := 8) (go_if_eq_f 20 dX6_bitsOf_5 rfl h1) ?_
      refine Cv.go (pc' := 11) (ls' := [.null, .int (a1 + (1 : Int32)), .int a2]) (go_iinc (x := a1) (v := a1 + (1 : Int32)) dX6_bitsOf_8 rfl rfl (by decide) rfl) ?_
      refine Cv.go (pc' := 12) (go_iload_n (i := 2) (x := a2) dX6_bitsOf_11 rfl rfl) ?_
      refine Cv.go (pc' := 13) (go_iload_n (i := 2) (x := a2) dX6_bitsOf_12 rfl rfl) ?_
      refine Cv.go (pc' := 14) (go_iconst dX6_bitsOf_13 ic_1) ?_
      refine Cv.go (pc' := 15) (go_isub dX6_bitsOf_14) ?_
      refine Cv.go (pc' := 16) (go_iand dX6_bitsOf_15) ?_
      refine Cv.namI fun x2 ex2 => ?_
      refine Cv.go (pc' := 17) (ls' := [.null, .int (a1 + (1 : Int32)), .int x2]) (go_istore_n dX6_bitsOf_16 rfl (by decide) rfl) ?_
      refine Cv.go (pc' := 4) (go_goto (tgt := 4) dX6_bitsOf_17 rfl) ?_
      exact ih m (a1 + (1 : Int32)) x2
theorem kc_X6_bitsOf (m : Mem) (a0 : Int32) : ∀ v mE, F_X6_bitsOf m a0 = some (v, mE) → Con true kX6_bitsOf 0 [.int a0] m (eI v) mE := by
  refine Con.of (ini := false) (ls0 := [.int a0, .null, .null]) (ri := .ireturn) (by decide) (by intro z; cases z) rfl (Nat.le_of_ble_eq_true rfl) (fun v mE _ => RetTy.i) ?_
  show Cv true (cX6_bitsOf, 3, RX6, 0, ((false, none) : IK)) .ireturn eI (F_X6_bitsOf m a0) m 0 [.int a0, .null, .null] []
  unfold F_X6_bitsOf
  refine Cv.go (pc' := 1) (go_iconst dX6_bitsOf_0 ic_0) ?_
  refine Cv.go (pc' := 2) (ls' := [.int a0, .int (0 : Int32), .null]) (go_istore_n dX6_bitsOf_1 rfl (by decide) rfl) ?_
  refine Cv.go (pc' := 3) (go_iload_n (i := 0) (x := a0) dX6_bitsOf_2 rfl rfl) ?_
  refine Cv.go (pc' := 4) (ls' := [.int a0, .int (0 : Int32), .int a0]) (go_istore_n dX6_bitsOf_3 rfl (by decide) rfl) ?_
  refine Cv.weak (ls' := [.null, .int (0 : Int32), .int a0]) (⟨Or.inl rfl, ⟨Or.inr rfl, ⟨Or.inr rfl, True.intro⟩⟩⟩) ?_
  exact c_X6_bitsOf_4 FU m (0 : Int32) a0
theorem c_X6_valuesOf_36 (K4 : Mem → Int32 → Int32 → Int32 → Option (Int32 × Mem)) (hK4 : ∀ (m : Mem) (a1 : Int32) (a2 : Int32) (a3 : Int32) (hS : ShM m), Cv true (cX6_valuesOf, 4, RX6, 0, ((false, none) : IK)) .ireturn eI (K4 m a1 a2 a3) m 4 [.ref 40, .int a1, .int a2, .int a3] []) : ∀ (m : Mem) (a1 : Int32) (a3 : Int32) (s0 : Int32) (s1 : Int32) (hS : ShM m), Cv true (cX6_valuesOf, 4, RX6, 0, ((false, none) : IK)) .ireturn eI (F_X6_valuesOf_36 K4 m a1 a3 s0 s1) m 36 [.ref 40, .int a1, .null, .int a3] [.int s0, .int s1] := by
  intro m a1 a3 s0 s1 hS
  unfold F_X6_valuesOf_36
  refine Cv.go (pc' := 37) (go_iadd dX6_valuesOf_36) ?_
  refine Cv.namI fun x4 ex4 => ?_
  refine Cv.go (pc' := 38) (ls' := [.ref 40, .int a1, .int x4, .int a3]) (go_istore_n dX6_valuesOf_37 rfl (by decide) rfl) ?_
  refine Cv.go (pc' := 41) (ls' := [.ref 40, .int a1, .int x4, .int (a3 + (1 : Int32))]) (go_iinc (x := a3) (v := a3 + (1 : Int32)) dX6_valuesOf_38 rfl rfl (by decide) rfl) ?_
  refine Cv.go (pc' := 4) (go_goto (tgt := 4) dX6_valuesOf_41 rfl) ?_
  exact hK4 m a1 x4 (a3 + (1 : Int32)) hS
theorem c_X6_valuesOf_4 : ∀ n, ∀ (m : Mem) (a1 : Int32) (a2 : Int32) (a3 : Int32) (hS : ShM m), Cv true (cX6_valuesOf, 4, RX6, 0, ((false, none) : IK)) .ireturn eI (F_X6_valuesOf_4 n m a1 a2 a3) m 4 [.ref 40, .int a1, .int a2, .int a3] [] := by
  intro n
  induction n with
  | zero => intro m a1 a2 a3 hS; exact Cv.no
  | succ n ih =>
    intro m a1 a2 a3 hS
    unfold F_X6_valuesOf_4
    refine Cv.go (pc' := 5) (go_iload_n (i := 3) (x := a3) dX6_valuesOf_4 rfl rfl) ?_
    refine Cv.go (pc' := 6) (go_aload_n (i := 0) (x := 40) dX6_valuesOf_5 rfl rfl) ?_
    refine Cv.go (pc' := 9) (go_getI (i := 10) cls6 (sx_k40 hS) (by decide) rfl lf_X6_64 (by decide) dX6_valuesOf_6) ?_
    refine Cv.ite (fun h1 => ?_) (fun h1 => ?_)
    · refine Cv.go (pc' := 44) (go_icmp_ge_t (tgt := 44) dX6_valuesOf_9 rfl h1) ?_
      refine Cv.go (pc' := 45) (go_iload_n (i := 2) (x := a2) dX6_valuesOf_44 rfl rfl) ?_
      exact Cv.ret dX6_valuesOf_45 rfl
    · refine Cv.go (pc' := 12) (go_icmp_ge_f 44 dX6_valuesOf_9 rfl h1) ?_
      refine Cv.go (pc' := 13) (go_iload_n (i := 2) (x := a2) dX6_valuesOf_12 rfl rfl) ?_
      refine Cv.go (pc' := 14) (go_iload_n (i := 1) (x := a1) dX6_valuesOf_13 rfl rfl) ?_
      refine Cv.go (pc' := 15) (go_iload_n (i := 3) (x := a3) dX6_valuesOf_14 rfl rfl) ?_
      refine Cv.go (pc' := 16) (go_ishr dX6_valuesOf_15) ?_
      refine Cv.go (pc' := 17) (go_iconst dX6_valuesOf_16 ic_1) ?_
      refine Cv.go (pc' := 18) (go_iand dX6_valuesOf_17) ?_
      refine Cv.go (pc' := 19) (go_iconst dX6_valuesOf_18 ic_1) ?_
      refine Cv.ite (fun h2 => ?_) (fun h2 => ?_)
      · refine Cv.go (pc' := 22) (go_icmp_ne_f 35 dX6_valuesOf_19 rfl h2) ?_
        refine Cv.go (pc' := 23) (go_aload_n (i := 0) (x := 40) dX6_valuesOf_22 rfl rfl) ?_
        refine Cv.go (pc' := 26) (go_getR (i := 9) cls6 (sx_k40 hS) (by decide) rfl lf_X6_26 (Or.inr ⟨_, rfl⟩) (sx_r40_9 hS) dX6_valuesOf_23) ?_
        refine Cv.go (pc' := 27) (go_iconst dX6_valuesOf_26 ic_5) ?_
        refine Cv.go (pc' := 28) (go_iload_n (i := 3) (x := a3) dX6_valuesOf_27 rfl rfl) ?_
        refine Cv.go (pc' := 29) (go_imul dX6_valuesOf_28) ?_
        refine Cv.go (pc' := 30) (go_iconst dX6_valuesOf_29 ic_1) ?_
        refine Cv.go (pc' := 31) (go_iadd dX6_valuesOf_30) ?_
        refine Cv.gif fun g3 => ?_
        refine Cv.go (pc' := 32) (go_iaload (sx_k45 hS) g3 dX6_valuesOf_31) ?_
        refine Cv.go (pc' := 36) (go_goto (tgt := 36) dX6_valuesOf_32 rfl) ?_
        refine Cv.weak (ls' := [.ref 40, .int a1, .null, .int a3]) (⟨Or.inr rfl, ⟨Or.inr rfl, ⟨Or.inl rfl, ⟨Or.inr rfl, True.intro⟩⟩⟩⟩) ?_
        exact c_X6_valuesOf_36 (F_X6_valuesOf_4 n) ih m a1 a3 (mD m 45 (((5 : Int32) * a3) + (1 : Int32)).toNatClampNeg) a2 hS
      · refine Cv.go (pc' := 35) (go_icmp_ne_t (tgt := 35) dX6_valuesOf_19 rfl h2) ?_
        refine Cv.go (pc' := 36) (go_iconst dX6_valuesOf_35 ic_0) ?_
        refine Cv.weak (ls' := [.ref 40, .int a1, .null, .int a3]) (⟨Or.inr rfl, ⟨Or.inr rfl, ⟨Or.inl rfl, ⟨Or.inr rfl, True.intro⟩⟩⟩⟩) ?_
        exact c_X6_valuesOf_36 (F_X6_valuesOf_4 n) ih m a1 a3 (0 : Int32) a2 hS
theorem kc_X6_valuesOf (m : Mem) (a1 : Int32) (hS : ShM m) : ∀ v mE, F_X6_valuesOf m a1 = some (v, mE) → Con true kX6_valuesOf 0 [.ref 40, .int a1] m (eI v) mE := by
  refine Con.of (ini := false) (ls0 := [.ref 40, .int a1, .null, .null]) (ri := .ireturn) (by decide) (by intro z; cases z) rfl (Nat.le_of_ble_eq_true rfl) (fun v mE _ => RetTy.i) ?_
  show Cv true (cX6_valuesOf, 4, RX6, 0, ((false, none) : IK)) .ireturn eI (F_X6_valuesOf m a1) m 0 [.ref 40, .int a1, .null, .null] []
  unfold F_X6_valuesOf
  refine Cv.go (pc' := 1) (go_iconst dX6_valuesOf_0 ic_0) ?_
  refine Cv.go (pc' := 2) (ls' := [.ref 40, .int a1, .int (0 : Int32), .null]) (go_istore_n dX6_valuesOf_1 rfl (by decide) rfl) ?_
  refine Cv.go (pc' := 3) (go_iconst dX6_valuesOf_2 ic_0) ?_
  refine Cv.go (pc' := 4) (ls' := [.ref 40, .int a1, .int (0 : Int32), .int (0 : Int32)]) (go_istore_n dX6_valuesOf_3 rfl (by decide) rfl) ?_
  exact c_X6_valuesOf_4 FU m a1 (0 : Int32) (0 : Int32) hS
theorem c_X6_passes_28 (K4 : Mem → Int32 → Int32 → Option (Int32 × Mem)) (hK4 : ∀ (m : Mem) (a1 : Int32) (a2 : Int32) (hS : ShM m), Cv true (cX6_passes, 3, RX6, 45, ((false, none) : IK)) .ireturn eI (K4 m a1 a2) m 4 [.ref 40, .int a1, .int a2] []) : ∀ (m : Mem) (a2 : Int32) (s0 : Int32) (s1 : Int32) (hS : ShM m), Cv true (cX6_passes, 3, RX6, 45, ((false, none) : IK)) .ireturn eI (F_X6_passes_28 K4 m a2 s0 s1) m 28 [.ref 40, .null, .int a2] [.int s0, .int s1] := by
  intro m a2 s0 s1 hS
  unfold F_X6_passes_28
  refine Cv.go (pc' := 29) (go_iadd dX6_passes_28) ?_
  refine Cv.namI fun x7 ex7 => ?_
  refine Cv.go (pc' := 30) (ls' := [.ref 40, .int x7, .int a2]) (go_istore_n dX6_passes_29 rfl (by decide) rfl) ?_
  refine Cv.go (pc' := 33) (ls' := [.ref 40, .int x7, .int (a2 + (1 : Int32))]) (go_iinc (x := a2) (v := a2 + (1 : Int32)) dX6_passes_30 rfl rfl (by decide) rfl) ?_
  refine Cv.go (pc' := 4) (go_goto (tgt := 4) dX6_passes_33 rfl) ?_
  exact hK4 m x7 (a2 + (1 : Int32)) hS
theorem c_X6_passes_119 (K93 : Mem → Int32 → Int32 → Option (Int32 × Mem)) (hK93 : ∀ (m : Mem) (a1 : Int32) (a2 : Int32) (hS : ShM m), Cv true (cX6_passes, 3, RX6, 45, ((false, none) : IK)) .ireturn eI (K93 m a1 a2) m 93 [.ref 40, .int a1, .int a2] []) : ∀ (m : Mem) (a2 : Int32) (s0 : Int32) (s1 : Int32) (hS : ShM m), Cv true (cX6_passes, 3, RX6, 45, ((false, none) : IK)) .ireturn eI (F_X6_passes_119 K93 m a2 s0 s1) m 119 [.ref 40, .null, .int a2] [.int s0, .int s1] := by
  intro m a2 s0 s1 hS
  unfold F_X6_passes_119
  refine Cv.go (pc' := 120) (go_iand dX6_passes_119) ?_
  refine Cv.namI fun x27 ex27 => ?_
  refine Cv.go (pc' := 121) (ls' := [.ref 40, .int x27, .int a2]) (go_istore_n dX6_passes_120 rfl (by decide) rfl) ?_
  refine Cv.go (pc' := 124) (ls' := [.ref 40, .int x27, .int (a2 + (1 : Int32))]) (go_iinc (x := a2) (v := a2 + (1 : Int32)) dX6_passes_121 rfl rfl (by decide) rfl) ?_
  refine Cv.go (pc' := 93) (go_goto (tgt := 93) dX6_passes_124 rfl) ?_
  exact hK93 m x27 (a2 + (1 : Int32)) hS
theorem c_X6_passes_93 : ∀ n, ∀ (m : Mem) (a1 : Int32) (a2 : Int32) (hS : ShM m), Cv true (cX6_passes, 3, RX6, 45, ((false, none) : IK)) .ireturn eI (F_X6_passes_93 n m a1 a2) m 93 [.ref 40, .int a1, .int a2] [] := by
  intro n
  induction n with
  | zero => intro m a1 a2 hS; exact Cv.no
  | succ n ih =>
    intro m a1 a2 hS
    unfold F_X6_passes_93
    refine Cv.go (pc' := 94) (go_iload_n (i := 2) (x := a2) dX6_passes_93 rfl rfl) ?_
    refine Cv.go (pc' := 95) (go_aload_n (i := 0) (x := 40) dX6_passes_94 rfl rfl) ?_
    refine Cv.go (pc' := 98) (go_getI (i := 10) cls6 (sx_k40 hS) (by decide) rfl lf_X6_64 (by decide) dX6_passes_95) ?_
    refine Cv.ite (fun h17 => ?_) (fun h17 => ?_)
    · refine Cv.go (pc' := 127) (go_icmp_ge_t (tgt := 127) dX6_passes_98 rfl h17) ?_
      refine Cv.go (pc' := 128) (go_iload_n (i := 1) (x := a1) dX6_passes_127 rfl rfl) ?_
      refine Cv.bnd fun v18 m19 e20 => ?_
      have C21 := kc_X6_bitsOf m a1 v18 m19 e20
      refine Cv.go (pc' := 131) (st' := [.int v18]) (go_callS (As := [.int a1]) (st := []) C21 (by decide) ok_X6_bitsOf lt_X6_bitsOf lm_X6_338 rfl rfl (Nat.le_of_ble_eq_true rfl) dX6_passes_128) ?_
      have zm19 := C21.1.2.2 rfl
      have hS := hS.sh zm19
      exact Cv.ret dX6_passes_131 rfl
    · refine Cv.go (pc' := 101) (go_icmp_ge_f 127 dX6_passes_98 rfl h17) ?_
      refine Cv.go (pc' := 102) (go_iload_n (i := 1) (x := a1) dX6_passes_101 rfl rfl) ?_
      refine Cv.go (pc' := 103) (go_aload_n (i := 0) (x := 40) dX6_passes_102 rfl rfl) ?_
      refine Cv.go (pc' := 104) (go_iload_n (i := 2) (x := a2) dX6_passes_103 rfl rfl) ?_
      refine Cv.bnd fun v22 m23 e24 => ?_
      have C25 := kc_X6_isWhole m a2 hS v22 m23 e24
      refine Cv.go (pc' := 107) (st' := [.int (bz v22), .int a1]) (go_callV (As := [.int a2]) (st := [.int a1]) C25 (by decide) ok_X6_isWhole li_X6_isWhole ls_X6_isWhole lm_X6_113 cls6 (sx_k40 hS) rfl rfl (Nat.le_of_ble_eq_true rfl) dX6_passes_104) ?_
      have zm23 := C25.1.2.2 rfl
      have hS := hS.sh zm23
      refine Cv.ite (fun h26 => ?_) (fun h26 => ?_)
      · refine Cv.go (pc' := 118) (go_if_eq_t (tgt := 118) dX6_passes_107 rfl h26) ?_
        refine Cv.go (pc' := 119) (go_iconst dX6_passes_118 ic_n1) ?_
        refine Cv.weak (ls' := [.ref 40, .null, .int a2]) (⟨Or.inr rfl, ⟨Or.inl rfl, ⟨Or.inr rfl, True.intro⟩⟩⟩) ?_
        exact c_X6_passes_119 (F_X6_passes_93 n) ih m23 a2 (-1 : Int32) a1 hS
      · refine Cv.go (pc' := 110) (go_if_eq_f 118 dX6_passes_107 rfl h26) ?_
        refine Cv.go (pc' := 111) (go_iconst dX6_passes_110 ic_1) ?_
        refine Cv.go (pc' := 112) (go_iload_n (i := 2) (x := a2) dX6_passes_111 rfl rfl) ?_
        refine Cv.go (pc' := 113) (go_ishl dX6_passes_112) ?_
        refine Cv.go (pc' := 114) (go_iconst dX6_passes_113 ic_n1) ?_
        refine Cv.go (pc' := 115) (go_ixor dX6_passes_114) ?_
        refine Cv.go (pc' := 119) (go_goto (tgt := 119) dX6_passes_115 rfl) ?_
        refine Cv.weak (ls' := [.ref 40, .null, .int a2]) (⟨Or.inr rfl, ⟨Or.inl rfl, ⟨Or.inr rfl, True.intro⟩⟩⟩) ?_
        exact c_X6_passes_119 (F_X6_passes_93 n) ih m23 a2 (((1 : Int32) <<< (a2 &&& 31)) ^^^ (-1 : Int32)) a1 hS
theorem c_X6_passes_38 : ∀ n, ∀ (m : Mem) (a1 : Int32) (a2 : Int32) (hS : ShM m), Cv true (cX6_passes, 3, RX6, 45, ((false, none) : IK)) .ireturn eI (F_X6_passes_38 n m a1 a2) m 38 [.ref 40, .int a1, .int a2] [] := by
  intro n
  induction n with
  | zero => intro m a1 a2 hS; exact Cv.no
  | succ n ih =>
    intro m a1 a2 hS
    unfold F_X6_passes_38
    refine Cv.go (pc' := 39) (go_iload_n (i := 2) (x := a2) dX6_passes_38 rfl rfl) ?_
    refine Cv.go (pc' := 40) (go_aload_n (i := 0) (x := 40) dX6_passes_39 rfl rfl) ?_
    refine Cv.go (pc' := 43) (go_getI (i := 10) cls6 (sx_k40 hS) (by decide) rfl lf_X6_64 (by decide) dX6_passes_40) ?_
    refine Cv.ite (fun h8 => ?_) (fun h8 => ?_)
    · refine Cv.go (pc' := 81) (go_icmp_ge_t (tgt := 81) dX6_passes_43 rfl h8) ?_
      refine Cv.go (pc' := 82) (go_aload_n (i := 0) (x := 40) dX6_passes_81 rfl rfl) ?_
      refine Cv.go (pc' := 83) (go_dup_a dX6_passes_82) ?_
      refine Cv.go (pc' := 86) (go_getI (i := 7) cls6 (sx_k40 hS) (by decide) rfl lf_X6_91 (by decide) dX6_passes_83) ?_
      refine Cv.go (pc' := 87) (go_iconst dX6_passes_86 ic_1) ?_
      refine Cv.go (pc' := 88) (go_iadd dX6_passes_87) ?_
      refine Cv.go (pc' := 91) (go_putI (i := 7) cls6 (sx_k40 hS) (by decide) rfl lf_X6_91 (by decide) rfl rfl rfl dX6_passes_88) ?_
      refine Cv.namM fun m9 em9 => ?_
      have zm9 : SameSh m m9 := em9 ▸ SameSh.d
      have hS := hS.sh zm9
      refine Cv.go (pc' := 92) (go_iconst dX6_passes_91 ic_0) ?_
      refine Cv.go (pc' := 93) (ls' := [.ref 40, .int a1, .int (0 : Int32)]) (go_istore_n dX6_passes_92 rfl (by decide) rfl) ?_
      exact c_X6_passes_93 FU m9 a1 (0 : Int32) hS
    · refine Cv.go (pc' := 46) (go_icmp_ge_f 81 dX6_passes_43 rfl h8) ?_
      refine Cv.go (pc' := 47) (go_aload_n (i := 0) (x := 40) dX6_passes_46 rfl rfl) ?_
      refine Cv.go (pc' := 50) (go_getR (i := 9) cls6 (sx_k40 hS) (by decide) rfl lf_X6_26 (Or.inr ⟨_, rfl⟩) (sx_r40_9 hS) dX6_passes_47) ?_
      refine Cv.go (pc' := 51) (go_iconst dX6_passes_50 ic_5) ?_
      refine Cv.go (pc' := 52) (go_iload_n (i := 2) (x := a2) dX6_passes_51 rfl rfl) ?_
      refine Cv.go (pc' := 53) (go_imul dX6_passes_52) ?_
      refine Cv.go (pc' := 54) (go_iconst dX6_passes_53 ic_3) ?_
      refine Cv.go (pc' := 55) (go_iadd dX6_passes_54) ?_
      refine Cv.go (pc' := 56) (go_aload_n (i := 0) (x := 40) dX6_passes_55 rfl rfl) ?_
      refine Cv.go (pc' := 59) (go_getR (i := 9) cls6 (sx_k40 hS) (by decide) rfl lf_X6_26 (Or.inr ⟨_, rfl⟩) (sx_r40_9 hS) dX6_passes_56) ?_
      refine Cv.go (pc' := 60) (go_iconst dX6_passes_59 ic_5) ?_
      refine Cv.go (pc' := 61) (go_iload_n (i := 2) (x := a2) dX6_passes_60 rfl rfl) ?_
      refine Cv.go (pc' := 62) (go_imul dX6_passes_61) ?_
      refine Cv.go (pc' := 63) (go_iconst dX6_passes_62 ic_3) ?_
      refine Cv.go (pc' := 64) (go_iadd dX6_passes_63) ?_
      refine Cv.gif fun g10 => ?_
      refine Cv.go (pc' := 65) (go_iaload (sx_k45 hS) g10 dX6_passes_64) ?_
      refine Cv.go (pc' := 66) (go_iconst dX6_passes_65 ic_1) ?_
      refine Cv.go (pc' := 67) (go_iadd dX6_passes_66) ?_
      refine Cv.go (pc' := 68) (go_iconst dX6_passes_67 ic_0) ?_
      refine Cv.go (pc' := 71) (go_sipush dX6_passes_68 is_999) ?_
      refine Cv.bnd fun v11 m12 e13 => ?_
      have C14 := kc_X6_within m ((mD m 45 (((5 : Int32) * a2) + (3 : Int32)).toNatClampNeg) + (1 : Int32)) (0 : Int32) (999 : Int32) v11 m12 e13
      refine Cv.go (pc' := 74) (st' := [.int v11, .int (((5 : Int32) * a2) + (3 : Int32)), .ref 45]) (go_callS (As := [.int ((mD m 45 (((5 : Int32) * a2) + (3 : Int32)).toNatClampNeg) + (1 : Int32)), .int (0 : Int32), .int (999 : Int32)]) (st := [.int (((5 : Int32) * a2) + (3 : Int32)), .ref 45]) C14 (by decide) ok_X6_within lt_X6_within lm_X6_328 rfl rfl (Nat.le_of_ble_eq_true rfl) dX6_passes_71) ?_
      have zm12 := C14.1.2.2 rfl
      have hS := hS.sh zm12
      refine Cv.gif fun g15 => ?_
      refine Cv.go (pc' := 75) (go_iastore (sx_k45 hS) g15 dX6_passes_74) ?_
      refine Cv.namM fun m16 em16 => ?_
      have zm16 : SameSh m12 m16 := em16 ▸ SameSh.d
      have hS := hS.sh zm16
      refine Cv.go (pc' := 78) (ls' := [.ref 40, .int a1, .int (a2 + (1 : Int32))]) (go_iinc (x := a2) (v := a2 + (1 : Int32)) dX6_passes_75 rfl rfl (by decide) rfl) ?_
      refine Cv.go (pc' := 38) (go_goto (tgt := 38) dX6_passes_78 rfl) ?_
      exact ih m16 a1 (a2 + (1 : Int32)) hS
theorem c_X6_passes_4 : ∀ n, ∀ (m : Mem) (a1 : Int32) (a2 : Int32) (hS : ShM m), Cv true (cX6_passes, 3, RX6, 45, ((false, none) : IK)) .ireturn eI (F_X6_passes_4 n m a1 a2) m 4 [.ref 40, .int a1, .int a2] [] := by
  intro n
  induction n with
  | zero => intro m a1 a2 hS; exact Cv.no
  | succ n ih =>
    intro m a1 a2 hS
    unfold F_X6_passes_4
    refine Cv.go (pc' := 5) (go_iload_n (i := 2) (x := a2) dX6_passes_4 rfl rfl) ?_
    refine Cv.go (pc' := 6) (go_aload_n (i := 0) (x := 40) dX6_passes_5 rfl rfl) ?_
    refine Cv.go (pc' := 9) (go_getI (i := 10) cls6 (sx_k40 hS) (by decide) rfl lf_X6_64 (by decide) dX6_passes_6) ?_
    refine Cv.ite (fun h1 => ?_) (fun h1 => ?_)
    · refine Cv.go (pc' := 36) (go_icmp_ge_t (tgt := 36) dX6_passes_9 rfl h1) ?_
      refine Cv.go (pc' := 37) (go_iconst dX6_passes_36 ic_0) ?_
      refine Cv.go (pc' := 38) (ls' := [.ref 40, .int a1, .int (0 : Int32)]) (go_istore_n dX6_passes_37 rfl (by decide) rfl) ?_
      exact c_X6_passes_38 FU m a1 (0 : Int32) hS
    · refine Cv.go (pc' := 12) (go_icmp_ge_f 36 dX6_passes_9 rfl h1) ?_
      refine Cv.go (pc' := 13) (go_iload_n (i := 1) (x := a1) dX6_passes_12 rfl rfl) ?_
      refine Cv.go (pc' := 14) (go_aload_n (i := 0) (x := 40) dX6_passes_13 rfl rfl) ?_
      refine Cv.go (pc' := 15) (go_iload_n (i := 2) (x := a2) dX6_passes_14 rfl rfl) ?_
      refine Cv.bnd fun v2 m3 e4 => ?_
      have C5 := kc_X6_isWhole m a2 hS v2 m3 e4
      refine Cv.go (pc' := 18) (st' := [.int (bz v2), .int a1]) (go_callV (As := [.int a2]) (st := [.int a1]) C5 (by decide) ok_X6_isWhole li_X6_isWhole ls_X6_isWhole lm_X6_113 cls6 (sx_k40 hS) rfl rfl (Nat.le_of_ble_eq_true rfl) dX6_passes_15) ?_
      have zm3 := C5.1.2.2 rfl
      have hS := hS.sh zm3
      refine Cv.ite (fun h6 => ?_) (fun h6 => ?_)
      · refine Cv.go (pc' := 27) (go_if_eq_t (tgt := 27) dX6_passes_18 rfl h6) ?_
        refine Cv.go (pc' := 28) (go_iconst dX6_passes_27 ic_0) ?_
        refine Cv.weak (ls' := [.ref 40, .null, .int a2]) (⟨Or.inr rfl, ⟨Or.inl rfl, ⟨Or.inr rfl, True.intro⟩⟩⟩) ?_
        exact c_X6_passes_28 (F_X6_passes_4 n) ih m3 a2 (0 : Int32) a1 hS
      · refine Cv.go (pc' := 21) (go_if_eq_f 27 dX6_passes_18 rfl h6) ?_
        refine Cv.go (pc' := 22) (go_iconst dX6_passes_21 ic_1) ?_
        refine Cv.go (pc' := 23) (go_iload_n (i := 2) (x := a2) dX6_passes_22 rfl rfl) ?_
        refine Cv.go (pc' := 24) (go_ishl dX6_passes_23) ?_
        refine Cv.go (pc' := 28) (go_goto (tgt := 28) dX6_passes_24 rfl) ?_
        refine Cv.weak (ls' := [.ref 40, .null, .int a2]) (⟨Or.inr rfl, ⟨Or.inl rfl, ⟨Or.inr rfl, True.intro⟩⟩⟩) ?_
        exact c_X6_passes_28 (F_X6_passes_4 n) ih m3 a2 ((1 : Int32) <<< (a2 &&& 31)) a1 hS
theorem kc_X6_passes (m : Mem) (hS : ShM m) : ∀ v mE, F_X6_passes m = some (v, mE) → Con true kX6_passes 45 [.ref 40] m (eI v) mE := by
  refine Con.of (ini := false) (ls0 := [.ref 40, .null, .null]) (ri := .ireturn) (by decide) (by intro z; cases z) rfl (Nat.le_of_ble_eq_true rfl) (fun v mE _ => RetTy.i) ?_
  show Cv true (cX6_passes, 3, RX6, 45, ((false, none) : IK)) .ireturn eI (F_X6_passes m) m 0 [.ref 40, .null, .null] []
  unfold F_X6_passes
  refine Cv.go (pc' := 1) (go_iconst dX6_passes_0 ic_0) ?_
  refine Cv.go (pc' := 2) (ls' := [.ref 40, .int (0 : Int32), .null]) (go_istore_n dX6_passes_1 rfl (by decide) rfl) ?_
  refine Cv.go (pc' := 3) (go_iconst dX6_passes_2 ic_0) ?_
  refine Cv.go (pc' := 4) (ls' := [.ref 40, .int (0 : Int32), .int (0 : Int32)]) (go_istore_n dX6_passes_3 rfl (by decide) rfl) ?_
  exact c_X6_passes_4 FU m (0 : Int32) (0 : Int32) hS
theorem kc_X6_day (m : Mem) (hS : ShM m) : ∀ v mE, F_X6_day m = some (v, mE) → Con true kX6_day 46 [.ref 40] m (eI v) mE := by
  refine Con.of (ini := false) (ls0 := [.ref 40]) (ri := .ireturn) (by decide) (by intro z; cases z) rfl (Nat.le_of_ble_eq_true rfl) (fun v mE _ => RetTy.i) ?_
  show Cv true (cX6_day, 1, RX6, 46, ((false, none) : IK)) .ireturn eI (F_X6_day m) m 0 [.ref 40] []
  unfold F_X6_day
  refine Cv.go (pc' := 1) (go_aload_n (i := 0) (x := 40) dX6_day_0 rfl rfl) ?_
  refine Cv.go (pc' := 4) (go_getI (i := 7) cls6 (sx_k40 hS) (by decide) rfl lf_X6_91 (by decide) dX6_day_1) ?_
  refine Cv.go (pc' := 7) (go_sipush dX6_day_4 is_999) ?_
  refine Cv.ite (fun h1 => ?_) (fun h1 => ?_)
  · refine Cv.go (pc' := 10) (go_icmp_ne_f 15 dX6_day_7 rfl h1) ?_
    refine Cv.go (pc' := 12) (go_bipush dX6_day_10 ib_n3) ?_
    refine Cv.go (pc' := 19) (go_goto (tgt := 19) dX6_day_12 rfl) ?_
    exact Cv.ret dX6_day_19 rfl
  · refine Cv.go (pc' := 15) (go_icmp_ne_t (tgt := 15) dX6_day_7 rfl h1) ?_
    refine Cv.go (pc' := 16) (go_aload_n (i := 0) (x := 40) dX6_day_15 rfl rfl) ?_
    refine Cv.bnd fun v2 m3 e4 => ?_
    have C5 := kc_X6_passes m hS v2 m3 e4
    refine Cv.go (pc' := 19) (st' := [.int v2]) (go_callV (As := []) (st := []) C5 (by decide) ok_X6_passes li_X6_passes ls_X6_passes lm_X6_341 cls6 (sx_k40 hS) rfl rfl (Nat.le_of_ble_eq_true rfl) dX6_day_16) ?_
    have zm3 := C5.1.2.2 rfl
    have hS := hS.sh zm3
    exact Cv.ret dX6_day_19 rfl
theorem kc_X6_pays (m : Mem) (a1 : Int32) (a2 : Int32) (hS : ShM m) : ∀ v mE, F_X6_pays m a1 a2 = some (v, mE) → Con true kX6_pays 0 [.ref 40, .int a1, .int a2] m (eV v) mE := by
  refine Con.of (ini := false) (ls0 := [.ref 40, .int a1, .int a2]) (ri := .return_) (by decide) (by intro z; cases z) rfl (Nat.le_of_ble_eq_true rfl) (fun v mE _ => RetTy.v) ?_
  show Cv true (cX6_pays, 3, RX6, 0, ((false, none) : IK)) .return_ eV (F_X6_pays m a1 a2) m 0 [.ref 40, .int a1, .int a2] []
  unfold F_X6_pays
  refine Cv.go (pc' := 1) (go_aload_n (i := 0) (x := 40) dX6_pays_0 rfl rfl) ?_
  refine Cv.go (pc' := 4) (go_getR (i := 9) cls6 (sx_k40 hS) (by decide) rfl lf_X6_26 (Or.inr ⟨_, rfl⟩) (sx_r40_9 hS) dX6_pays_1) ?_
  refine Cv.go (pc' := 5) (go_iconst dX6_pays_4 ic_5) ?_
  refine Cv.go (pc' := 6) (go_iload_n (i := 1) (x := a1) dX6_pays_5 rfl rfl) ?_
  refine Cv.go (pc' := 7) (go_imul dX6_pays_6) ?_
  refine Cv.go (pc' := 8) (go_iconst dX6_pays_7 ic_4) ?_
  refine Cv.go (pc' := 9) (go_iadd dX6_pays_8) ?_
  refine Cv.go (pc' := 10) (go_iload_n (i := 2) (x := a2) dX6_pays_9 rfl rfl) ?_
  refine Cv.gif fun g1 => ?_
  refine Cv.go (pc' := 11) (go_iastore (sx_k45 hS) g1 dX6_pays_10) ?_
  refine Cv.namM fun m2 em2 => ?_
  have zm2 : SameSh m m2 := em2 ▸ SameSh.d
  have hS := hS.sh zm2
  refine Cv.go (pc' := 12) (go_aload_n (i := 0) (x := 40) dX6_pays_11 rfl rfl) ?_
  refine Cv.go (pc' := 15) (go_getR (i := 9) cls6 (sx_k40 hS) (by decide) rfl lf_X6_26 (Or.inr ⟨_, rfl⟩) (sx_r40_9 hS) dX6_pays_12) ?_
  refine Cv.go (pc' := 16) (go_iconst dX6_pays_15 ic_5) ?_
  refine Cv.go (pc' := 17) (go_iload_n (i := 1) (x := a1) dX6_pays_16 rfl rfl) ?_
  refine Cv.go (pc' := 18) (go_imul dX6_pays_17) ?_
  refine Cv.go (pc' := 19) (go_iconst dX6_pays_18 ic_3) ?_
  refine Cv.go (pc' := 20) (go_iadd dX6_pays_19) ?_
  refine Cv.go (pc' := 21) (go_iconst dX6_pays_20 ic_0) ?_
  refine Cv.gif fun g3 => ?_
  refine Cv.go (pc' := 22) (go_iastore (sx_k45 hS) g3 dX6_pays_21) ?_
  refine Cv.namM fun m4 em4 => ?_
  have zm4 : SameSh m2 m4 := em4 ▸ SameSh.d
  have hS := hS.sh zm4
  exact Cv.ret dX6_pays_22 rfl
theorem kc_X6_pay (m : Mem) (a1 : Int32) (a2 : Int32) (hS : ShM m) : ∀ v mE, F_X6_pay m a1 a2 = some (v, mE) → Con true kX6_pay 45 [.ref 40, .int a1, .int a2] m (eI v) mE := by
  refine Con.of (ini := false) (ls0 := [.ref 40, .int a1, .int a2, .null]) (ri := .ireturn) (by decide) (by intro z; cases z) rfl (Nat.le_of_ble_eq_true rfl) (fun v mE _ => RetTy.i) ?_
  show Cv true (cX6_pay, 4, RX6, 45, ((false, none) : IK)) .ireturn eI (F_X6_pay m a1 a2) m 0 [.ref 40, .int a1, .int a2, .null] []
  unfold F_X6_pay
  refine Cv.go (pc' := 1) (go_aload_n (i := 0) (x := 40) dX6_pay_0 rfl rfl) ?_
  refine Cv.go (pc' := 2) (go_iload_n (i := 1) (x := a1) dX6_pay_1 rfl rfl) ?_
  refine Cv.bnd fun v1 m2 e3 => ?_
  have C4 := kc_X6_isCoin m a1 hS v1 m2 e3
  refine Cv.go (pc' := 5) (st' := [.int (bz v1)]) (go_callV (As := [.int a1]) (st := []) C4 (by decide) ok_X6_isCoin li_X6_isCoin ls_X6_isCoin lm_X6_75 cls6 (sx_k40 hS) rfl rfl (Nat.le_of_ble_eq_true rfl) dX6_pay_2) ?_
  have zm2 := C4.1.2.2 rfl
  have hS := hS.sh zm2
  refine Cv.ite (fun h5 => ?_) (fun h5 => ?_)
  · refine Cv.go (pc' := 15) (go_if_eq_t (tgt := 15) dX6_pay_5 rfl h5) ?_
    refine Cv.go (pc' := 17) (go_bipush dX6_pay_15 ib_n2) ?_
    exact Cv.ret dX6_pay_17 rfl
  · refine Cv.go (pc' := 8) (go_if_eq_f 15 dX6_pay_5 rfl h5) ?_
    refine Cv.go (pc' := 9) (go_iload_n (i := 2) (x := a2) dX6_pay_8 rfl rfl) ?_
    refine Cv.bnd fun v6 m7 e8 => ?_
    have C9 := kc_X6_isOwner m2 a2 v6 m7 e8
    refine Cv.go (pc' := 12) (st' := [.int (bz v6)]) (go_callS (As := [.int a2]) (st := []) C9 (by decide) ok_X6_isOwner lt_X6_isOwner lm_X6_344 rfl rfl (Nat.le_of_ble_eq_true rfl) dX6_pay_9) ?_
    have zm7 := C9.1.2.2 rfl
    have hS := hS.sh zm7
    refine Cv.ite (fun h10 => ?_) (fun h10 => ?_)
    · refine Cv.go (pc' := 15) (go_if_ne_f 18 dX6_pay_12 rfl h10) ?_
      refine Cv.go (pc' := 17) (go_bipush dX6_pay_15 ib_n2) ?_
      exact Cv.ret dX6_pay_17 rfl
    · refine Cv.go (pc' := 18) (go_if_ne_t (tgt := 18) dX6_pay_12 rfl h10) ?_
      refine Cv.go (pc' := 19) (go_aload_n (i := 0) (x := 40) dX6_pay_18 rfl rfl) ?_
      refine Cv.go (pc' := 22) (go_getR (i := 9) cls6 (sx_k40 hS) (by decide) rfl lf_X6_26 (Or.inr ⟨_, rfl⟩) (sx_r40_9 hS) dX6_pay_19) ?_
      refine Cv.go (pc' := 23) (go_iconst dX6_pay_22 ic_5) ?_
      refine Cv.go (pc' := 24) (go_iload_n (i := 1) (x := a1) dX6_pay_23 rfl rfl) ?_
      refine Cv.go (pc' := 25) (go_imul dX6_pay_24) ?_
      refine Cv.go (pc' := 26) (go_iconst dX6_pay_25 ic_4) ?_
      refine Cv.go (pc' := 27) (go_iadd dX6_pay_26) ?_
      refine Cv.gif fun g11 => ?_
      refine Cv.go (pc' := 28) (go_iaload (sx_k45 hS) g11 dX6_pay_27) ?_
      refine Cv.namI fun x12 ex12 => ?_
      refine Cv.go (pc' := 29) (ls' := [.ref 40, .int a1, .int a2, .int x12]) (go_istore_n dX6_pay_28 rfl (by decide) rfl) ?_
      refine Cv.go (pc' := 30) (go_aload_n (i := 0) (x := 40) dX6_pay_29 rfl rfl) ?_
      refine Cv.go (pc' := 31) (go_iload_n (i := 1) (x := a1) dX6_pay_30 rfl rfl) ?_
      refine Cv.bnd fun v13 m14 e15 => ?_
      have C16 := kc_X6_isWhole m7 a1 hS v13 m14 e15
      refine Cv.go (pc' := 34) (st' := [.int (bz v13)]) (go_callV (As := [.int a1]) (st := []) C16 (by decide) ok_X6_isWhole li_X6_isWhole ls_X6_isWhole lm_X6_113 cls6 (sx_k40 hS) rfl rfl (Nat.le_of_ble_eq_true rfl) dX6_pay_31) ?_
      have zm14 := C16.1.2.2 rfl
      have hS := hS.sh zm14
      refine Cv.ite (fun h17 => ?_) (fun h17 => ?_)
      · refine Cv.go (pc' := 42) (go_if_eq_t (tgt := 42) dX6_pay_34 rfl h17) ?_
        refine Cv.go (pc' := 44) (go_bipush dX6_pay_42 ib_n3) ?_
        exact Cv.ret dX6_pay_44 rfl
      · refine Cv.go (pc' := 37) (go_if_eq_f 42 dX6_pay_34 rfl h17) ?_
        refine Cv.go (pc' := 38) (go_iload_n (i := 3) (x := x12) dX6_pay_37 rfl rfl) ?_
        refine Cv.go (pc' := 39) (go_iload_n (i := 2) (x := a2) dX6_pay_38 rfl rfl) ?_
        refine Cv.ite (fun h18 => ?_) (fun h18 => ?_)
        · refine Cv.go (pc' := 42) (go_icmp_ne_f 45 dX6_pay_39 rfl h18) ?_
          refine Cv.go (pc' := 44) (go_bipush dX6_pay_42 ib_n3) ?_
          exact Cv.ret dX6_pay_44 rfl
        · refine Cv.go (pc' := 45) (go_icmp_ne_t (tgt := 45) dX6_pay_39 rfl h18) ?_
          refine Cv.go (pc' := 46) (go_aload_n (i := 0) (x := 40) dX6_pay_45 rfl rfl) ?_
          refine Cv.go (pc' := 47) (go_iload_n (i := 1) (x := a1) dX6_pay_46 rfl rfl) ?_
          refine Cv.go (pc' := 48) (go_iload_n (i := 2) (x := a2) dX6_pay_47 rfl rfl) ?_
          refine Cv.bnd fun v19 m20 e21 => ?_
          have C22 := kc_X6_pays m14 a1 a2 hS v19 m20 e21
          refine Cv.go (pc' := 51) (st' := []) (go_callV (As := [.int a1, .int a2]) (st := []) C22 (by decide) ok_X6_pays li_X6_pays ls_X6_pays lm_X6_347 cls6 (sx_k40 hS) rfl rfl (Nat.le_of_ble_eq_true rfl) dX6_pay_48) ?_
          have zm20 := C22.1.2.2 rfl
          have hS := hS.sh zm20
          refine Cv.go (pc' := 52) (go_iload_n (i := 3) (x := x12) dX6_pay_51 rfl rfl) ?_
          exact Cv.ret dX6_pay_52 rfl
theorem c_X6_exactOf_77 (K12 : Mem → Int32 → Int32 → Int32 → Int32 → Option (Int32 × Mem)) (hK12 : ∀ (m : Mem) (a2 : Int32) (a3 : Int32) (a4 : Int32) (a5 : Int32) (hS : ShM m), Cv true (cX6_exactOf, 7, RX6, 46, ((false, none) : IK)) .ireturn eI (K12 m a2 a3 a4 a5) m 12 [.ref 40, .null, .int a2, .int a3, .int a4, .int a5, .null] []) : ∀ (m : Mem) (a2 : Int32) (a3 : Int32) (a4 : Int32) (a5 : Int32) (hS : ShM m), Cv true (cX6_exactOf, 7, RX6, 46, ((false, none) : IK)) .ireturn eI (F_X6_exactOf_77 K12 m a2 a3 a4 a5) m 77 [.ref 40, .null, .int a2, .int a3, .int a4, .int a5, .null] [] := by
  intro m a2 a3 a4 a5 hS
  unfold F_X6_exactOf_77
  refine Cv.go (pc' := 80) (ls' := [.ref 40, .null, .int a2, .int a3, .int a4, .int (a5 + (1 : Int32)), .null]) (go_iinc (x := a5) (v := a5 + (1 : Int32)) dX6_exactOf_77 rfl rfl (by decide) rfl) ?_
  refine Cv.go (pc' := 12) (go_goto (tgt := 12) dX6_exactOf_80 rfl) ?_
  exact hK12 m a2 a3 a4 (a5 + (1 : Int32)) hS
theorem c_X6_exactOf_73 (K12 : Mem → Int32 → Int32 → Int32 → Int32 → Option (Int32 × Mem)) (hK12 : ∀ (m : Mem) (a2 : Int32) (a3 : Int32) (a4 : Int32) (a5 : Int32) (hS : ShM m), Cv true (cX6_exactOf, 7, RX6, 46, ((false, none) : IK)) .ireturn eI (K12 m a2 a3 a4 a5) m 12 [.ref 40, .null, .int a2, .int a3, .int a4, .int a5, .null] []) : ∀ (m : Mem) (a2 : Int32) (a3 : Int32) (a5 : Int32) (hS : ShM m), Cv true (cX6_exactOf, 7, RX6, 46, ((false, none) : IK)) .ireturn eI (F_X6_exactOf_73 K12 m a2 a3 a5) m 73 [.ref 40, .null, .int a2, .int a3, .null, .int a5, .null] [] := by
  intro m a2 a3 a5 hS
  unfold F_X6_exactOf_73
  refine Cv.go (pc' := 75) (go_iload (i := 5) (x := a5) dX6_exactOf_73 rfl) ?_
  refine Cv.go (pc' := 77) (ls' := [.ref 40, .null, .int a2, .int a3, .int a5, .int a5, .null]) (go_istore dX6_exactOf_75 (by decide) rfl) ?_
  exact c_X6_exactOf_77 K12 hK12 m a2 a3 a5 a5 hS
theorem c_X6_exactOf_47 (K12 : Mem → Int32 → Int32 → Int32 → Int32 → Option (Int32 × Mem)) (hK12 : ∀ (m : Mem) (a2 : Int32) (a3 : Int32) (a4 : Int32) (a5 : Int32) (hS : ShM m), Cv true (cX6_exactOf, 7, RX6, 46, ((false, none) : IK)) .ireturn eI (K12 m a2 a3 a4 a5) m 12 [.ref 40, .null, .int a2, .int a3, .int a4, .int a5, .null] []) : ∀ (m : Mem) (a2 : Int32) (a3 : Int32) (a4 : Int32) (a5 : Int32) (s0 : Int32) (hS : ShM m), Cv true (cX6_exactOf, 7, RX6, 46, ((false, none) : IK)) .ireturn eI (F_X6_exactOf_47 K12 m a2 a3 a4 a5 s0) m 47 [.ref 40, .null, .int a2, .int a3, .int a4, .int a5, .null] [.int s0] := by
  intro m a2 a3 a4 a5 s0 hS
  unfold F_X6_exactOf_47
  refine Cv.go (pc' := 49) (ls' := [.ref 40, .null, .int a2, .int a3, .int a4, .int a5, .int s0]) (go_istore dX6_exactOf_47 (by decide) rfl) ?_
  refine Cv.go (pc' := 51) (go_iload (i := 6) (x := s0) dX6_exactOf_49 rfl) ?_
  refine Cv.ite (fun h12 => ?_) (fun h12 => ?_)
  · refine Cv.go (pc' := 77) (go_if_eq_t (tgt := 77) dX6_exactOf_51 rfl h12) ?_
    refine Cv.weak (ls' := [.ref 40, .null, .int a2, .int a3, .int a4, .int a5, .null]) (⟨Or.inr rfl, ⟨Or.inr rfl, ⟨Or.inr rfl, ⟨Or.inr rfl, ⟨Or.inr rfl, ⟨Or.inr rfl, ⟨Or.inl rfl, True.intro⟩⟩⟩⟩⟩⟩⟩) ?_
    exact c_X6_exactOf_77 K12 hK12 m a2 a3 a4 a5 hS
  · refine Cv.go (pc' := 54) (go_if_eq_f 77 dX6_exactOf_51 rfl h12) ?_
    refine Cv.go (pc' := 56) (go_iload (i := 4) (x := a4) dX6_exactOf_54 rfl) ?_
    refine Cv.go (pc' := 57) (go_iconst dX6_exactOf_56 ic_n1) ?_
    refine Cv.ite (fun h13 => ?_) (fun h13 => ?_)
    · refine Cv.go (pc' := 73) (go_icmp_eq_t (tgt := 73) dX6_exactOf_57 rfl h13) ?_
      refine Cv.weak (ls' := [.ref 40, .null, .int a2, .int a3, .null, .int a5, .null]) (⟨Or.inr rfl, ⟨Or.inr rfl, ⟨Or.inr rfl, ⟨Or.inr rfl, ⟨Or.inl rfl, ⟨Or.inr rfl, ⟨Or.inl rfl, True.intro⟩⟩⟩⟩⟩⟩⟩) ?_
      exact c_X6_exactOf_73 K12 hK12 m a2 a3 a5 hS
    · refine Cv.go (pc' := 60) (go_icmp_eq_f 73 dX6_exactOf_57 rfl h13) ?_
      refine Cv.go (pc' := 62) (go_iload (i := 5) (x := a5) dX6_exactOf_60 rfl) ?_
      refine Cv.bnd fun v14 m15 e16 => ?_
      have C17 := kc_X6_bitsOf m a5 v14 m15 e16
      refine Cv.go (pc' := 65) (st' := [.int v14]) (go_callS (As := [.int a5]) (st := []) C17 (by decide) ok_X6_bitsOf lt_X6_bitsOf lm_X6_338 rfl rfl (Nat.le_of_ble_eq_true rfl) dX6_exactOf_62) ?_
      have zm15 := C17.1.2.2 rfl
      have hS := hS.sh zm15
      refine Cv.go (pc' := 67) (go_iload (i := 4) (x := a4) dX6_exactOf_65 rfl) ?_
      refine Cv.bnd fun v18 m19 e20 => ?_
      have C21 := kc_X6_bitsOf m15 a4 v18 m19 e20
      refine Cv.go (pc' := 70) (st' := [.int v18, .int v14]) (go_callS (As := [.int a4]) (st := [.int v14]) C21 (by decide) ok_X6_bitsOf lt_X6_bitsOf lm_X6_338 rfl rfl (Nat.le_of_ble_eq_true rfl) dX6_exactOf_67) ?_
      have zm19 := C21.1.2.2 rfl
      have hS := hS.sh zm19
      refine Cv.ite (fun h22 => ?_) (fun h22 => ?_)
      · refine Cv.go (pc' := 77) (go_icmp_ge_t (tgt := 77) dX6_exactOf_70 rfl h22) ?_
        refine Cv.weak (ls' := [.ref 40, .null, .int a2, .int a3, .int a4, .int a5, .null]) (⟨Or.inr rfl, ⟨Or.inr rfl, ⟨Or.inr rfl, ⟨Or.inr rfl, ⟨Or.inr rfl, ⟨Or.inr rfl, ⟨Or.inl rfl, True.intro⟩⟩⟩⟩⟩⟩⟩) ?_
        exact c_X6_exactOf_77 K12 hK12 m19 a2 a3 a4 a5 hS
      · refine Cv.go (pc' := 73) (go_icmp_ge_f 77 dX6_exactOf_70 rfl h22) ?_
        refine Cv.weak (ls' := [.ref 40, .null, .int a2, .int a3, .null, .int a5, .null]) (⟨Or.inr rfl, ⟨Or.inr rfl, ⟨Or.inr rfl, ⟨Or.inr rfl, ⟨Or.inl rfl, ⟨Or.inr rfl, ⟨Or.inl rfl, True.intro⟩⟩⟩⟩⟩⟩⟩) ?_
        exact c_X6_exactOf_73 K12 hK12 m19 a2 a3 a5 hS
theorem c_X6_exactOf_46 (K12 : Mem → Int32 → Int32 → Int32 → Int32 → Option (Int32 × Mem)) (hK12 : ∀ (m : Mem) (a2 : Int32) (a3 : Int32) (a4 : Int32) (a5 : Int32) (hS : ShM m), Cv true (cX6_exactOf, 7, RX6, 46, ((false, none) : IK)) .ireturn eI (K12 m a2 a3 a4 a5) m 12 [.ref 40, .null, .int a2, .int a3, .int a4, .int a5, .null] []) : ∀ (m : Mem) (a2 : Int32) (a3 : Int32) (a4 : Int32) (a5 : Int32) (hS : ShM m), Cv true (cX6_exactOf, 7, RX6, 46, ((false, none) : IK)) .ireturn eI (F_X6_exactOf_46 K12 m a2 a3 a4 a5) m 46 [.ref 40, .null, .int a2, .int a3, .int a4, .int a5, .null] [] := by
  intro m a2 a3 a4 a5 hS
  unfold F_X6_exactOf_46
  refine Cv.go (pc' := 47) (go_iconst dX6_exactOf_46 ic_0) ?_
  exact c_X6_exactOf_47 K12 hK12 m a2 a3 a4 a5 (0 : Int32) hS
theorem c_X6_exactOf_12 : ∀ n, ∀ (m : Mem) (a2 : Int32) (a3 : Int32) (a4 : Int32) (a5 : Int32) (hS : ShM m), Cv true (cX6_exactOf, 7, RX6, 46, ((false, none) : IK)) .ireturn eI (F_X6_exactOf_12 n m a2 a3 a4 a5) m 12 [.ref 40, .null, .int a2, .int a3, .int a4, .int a5, .null] [] := by
  intro n
  induction n with
  | zero => intro m a2 a3 a4 a5 hS; exact Cv.no
  | succ n ih =>
    intro m a2 a3 a4 a5 hS
    unfold F_X6_exactOf_12
    refine Cv.go (pc' := 14) (go_iload (i := 5) (x := a5) dX6_exactOf_12 rfl) ?_
    refine Cv.go (pc' := 15) (go_iconst dX6_exactOf_14 ic_1) ?_
    refine Cv.go (pc' := 16) (go_aload_n (i := 0) (x := 40) dX6_exactOf_15 rfl rfl) ?_
    refine Cv.go (pc' := 19) (go_getI (i := 10) cls6 (sx_k40 hS) (by decide) rfl lf_X6_64 (by decide) dX6_exactOf_16) ?_
    refine Cv.go (pc' := 20) (go_ishl dX6_exactOf_19) ?_
    refine Cv.ite (fun h5 => ?_) (fun h5 => ?_)
    · refine Cv.go (pc' := 83) (go_icmp_ge_t (tgt := 83) dX6_exactOf_20 rfl h5) ?_
      refine Cv.go (pc' := 85) (go_iload (i := 4) (x := a4) dX6_exactOf_83 rfl) ?_
      exact Cv.ret dX6_exactOf_85 rfl
    · refine Cv.go (pc' := 23) (go_icmp_ge_f 83 dX6_exactOf_20 rfl h5) ?_
      refine Cv.go (pc' := 25) (go_iload (i := 5) (x := a5) dX6_exactOf_23 rfl) ?_
      refine Cv.go (pc' := 26) (go_iload_n (i := 3) (x := a3) dX6_exactOf_25 rfl rfl) ?_
      refine Cv.go (pc' := 27) (go_iconst dX6_exactOf_26 ic_n1) ?_
      refine Cv.go (pc' := 28) (go_ixor dX6_exactOf_27) ?_
      refine Cv.go (pc' := 29) (go_iand dX6_exactOf_28) ?_
      refine Cv.ite (fun h6 => ?_) (fun h6 => ?_)
      · refine Cv.go (pc' := 32) (go_if_ne_f 46 dX6_exactOf_29 rfl h6) ?_
        refine Cv.go (pc' := 33) (go_aload_n (i := 0) (x := 40) dX6_exactOf_32 rfl rfl) ?_
        refine Cv.go (pc' := 35) (go_iload (i := 5) (x := a5) dX6_exactOf_33 rfl) ?_
        refine Cv.bnd fun v7 m8 e9 => ?_
        have C10 := kc_X6_valuesOf m a5 hS v7 m8 e9
        refine Cv.go (pc' := 38) (st' := [.int v7]) (go_callV (As := [.int a5]) (st := []) C10 (by decide) ok_X6_valuesOf li_X6_valuesOf ls_X6_valuesOf lm_X6_373 cls6 (sx_k40 hS) rfl rfl (Nat.le_of_ble_eq_true rfl) dX6_exactOf_35) ?_
        have zm8 := C10.1.2.2 rfl
        have hS := hS.sh zm8
        refine Cv.go (pc' := 39) (go_iload_n (i := 2) (x := a2) dX6_exactOf_38 rfl rfl) ?_
        refine Cv.ite (fun h11 => ?_) (fun h11 => ?_)
        · refine Cv.go (pc' := 42) (go_icmp_ne_f 46 dX6_exactOf_39 rfl h11) ?_
          refine Cv.go (pc' := 43) (go_iconst dX6_exactOf_42 ic_1) ?_
          refine Cv.go (pc' := 47) (go_goto (tgt := 47) dX6_exactOf_43 rfl) ?_
          exact c_X6_exactOf_47 (F_X6_exactOf_12 n) ih m8 a2 a3 a4 a5 (1 : Int32) hS
        · refine Cv.go (pc' := 46) (go_icmp_ne_t (tgt := 46) dX6_exactOf_39 rfl h11) ?_
          exact c_X6_exactOf_46 (F_X6_exactOf_12 n) ih m8 a2 a3 a4 a5 hS
      · refine Cv.go (pc' := 46) (go_if_ne_t (tgt := 46) dX6_exactOf_29 rfl h6) ?_
        exact c_X6_exactOf_46 (F_X6_exactOf_12 n) ih m a2 a3 a4 a5 hS
theorem kc_X6_exactOf (m : Mem) (a1 : Int32) (a2 : Int32) (hS : ShM m) : ∀ v mE, F_X6_exactOf m a1 a2 = some (v, mE) → Con true kX6_exactOf 46 [.ref 40, .int a1, .int a2] m (eI v) mE := by
  refine Con.of (ini := false) (ls0 := [.ref 40, .int a1, .int a2, .null, .null, .null, .null]) (ri := .ireturn) (by decide) (by intro z; cases z) rfl (Nat.le_of_ble_eq_true rfl) (fun v mE _ => RetTy.i) ?_
  show Cv true (cX6_exactOf, 7, RX6, 46, ((false, none) : IK)) .ireturn eI (F_X6_exactOf m a1 a2) m 0 [.ref 40, .int a1, .int a2, .null, .null, .null, .null] []
  unfold F_X6_exactOf
  refine Cv.go (pc' := 1) (go_aload_n (i := 0) (x := 40) dX6_exactOf_0 rfl rfl) ?_
  refine Cv.go (pc' := 2) (go_iload_n (i := 1) (x := a1) dX6_exactOf_1 rfl rfl) ?_
  refine Cv.bnd fun v1 m2 e3 => ?_
  have C4 := kc_X6_purseOf m a1 hS v1 m2 e3
  refine Cv.go (pc' := 5) (st' := [.int v1]) (go_callV (As := [.int a1]) (st := []) C4 (by decide) ok_X6_purseOf li_X6_purseOf ls_X6_purseOf lm_X6_359 cls6 (sx_k40 hS) rfl rfl (Nat.le_of_ble_eq_true rfl) dX6_exactOf_2) ?_
  have zm2 := C4.1.2.2 rfl
  have hS := hS.sh zm2
  refine Cv.go (pc' := 6) (ls' := [.ref 40, .int a1, .int a2, .int v1, .null, .null, .null]) (go_istore_n dX6_exactOf_5 rfl (by decide) rfl) ?_
  refine Cv.go (pc' := 7) (go_iconst dX6_exactOf_6 ic_n1) ?_
  refine Cv.go (pc' := 9) (ls' := [.ref 40, .int a1, .int a2, .int v1, .int (-1 : Int32), .null, .null]) (go_istore dX6_exactOf_7 (by decide) rfl) ?_
  refine Cv.go (pc' := 10) (go_iconst dX6_exactOf_9 ic_0) ?_
  refine Cv.go (pc' := 12) (ls' := [.ref 40, .int a1, .int a2, .int v1, .int (-1 : Int32), .int (0 : Int32), .null]) (go_istore dX6_exactOf_10 (by decide) rfl) ?_
  refine Cv.weak (ls' := [.ref 40, .null, .int a2, .int v1, .int (-1 : Int32), .int (0 : Int32), .null]) (⟨Or.inr rfl, ⟨Or.inl rfl, ⟨Or.inr rfl, ⟨Or.inr rfl, ⟨Or.inr rfl, ⟨Or.inr rfl, ⟨Or.inr rfl, True.intro⟩⟩⟩⟩⟩⟩⟩) ?_
  exact c_X6_exactOf_12 FU m2 a2 v1 (-1 : Int32) (0 : Int32) hS
theorem c_X6_buy_81 (K54 : Mem → Int32 → Int32 → Int32 → Option (Int32 × Mem)) (hK54 : ∀ (m : Mem) (a2 : Int32) (a4 : Int32) (a5 : Int32) (hS : ShM m), Cv true (cX6_buy, 6, RX6, 47, ((false, none) : IK)) .ireturn eI (K54 m a2 a4 a5) m 54 [.ref 40, .null, .int a2, .null, .int a4, .int a5] []) : ∀ (m : Mem) (a2 : Int32) (a4 : Int32) (a5 : Int32) (hS : ShM m), Cv true (cX6_buy, 6, RX6, 47, ((false, none) : IK)) .ireturn eI (F_X6_buy_81 K54 m a2 a4 a5) m 81 [.ref 40, .null, .int a2, .null, .int a4, .int a5] [] := by
  intro m a2 a4 a5 hS
  unfold F_X6_buy_81
  refine Cv.go (pc' := 84) (ls' := [.ref 40, .null, .int a2, .null, .int a4, .int (a5 + (1 : Int32))]) (go_iinc (x := a5) (v := a5 + (1 : Int32)) dX6_buy_81 rfl rfl (by decide) rfl) ?_
  refine Cv.go (pc' := 54) (go_goto (tgt := 54) dX6_buy_84 rfl) ?_
  exact hK54 m a2 a4 (a5 + (1 : Int32)) hS
theorem c_X6_buy_54 : ∀ n, ∀ (m : Mem) (a2 : Int32) (a4 : Int32) (a5 : Int32) (hS : ShM m), Cv true (cX6_buy, 6, RX6, 47, ((false, none) : IK)) .ireturn eI (F_X6_buy_54 n m a2 a4 a5) m 54 [.ref 40, .null, .int a2, .null, .int a4, .int a5] [] := by
  intro n
  induction n with
  | zero => intro m a2 a4 a5 hS; exact Cv.no
  | succ n ih =>
    intro m a2 a4 a5 hS
    unfold F_X6_buy_54
    refine Cv.go (pc' := 56) (go_iload (i := 5) (x := a5) dX6_buy_54 rfl) ?_
    refine Cv.go (pc' := 57) (go_aload_n (i := 0) (x := 40) dX6_buy_56 rfl rfl) ?_
    refine Cv.go (pc' := 60) (go_getI (i := 10) cls6 (sx_k40 hS) (by decide) rfl lf_X6_64 (by decide) dX6_buy_57) ?_
    refine Cv.ite (fun h22 => ?_) (fun h22 => ?_)
    · refine Cv.go (pc' := 87) (go_icmp_ge_t (tgt := 87) dX6_buy_60 rfl h22) ?_
      refine Cv.go (pc' := 89) (go_iload (i := 4) (x := a4) dX6_buy_87 rfl) ?_
      refine Cv.bnd fun v23 m24 e25 => ?_
      have C26 := kc_X6_bitsOf m a4 v23 m24 e25
      refine Cv.go (pc' := 92) (st' := [.int v23]) (go_callS (As := [.int a4]) (st := []) C26 (by decide) ok_X6_bitsOf lt_X6_bitsOf lm_X6_338 rfl rfl (Nat.le_of_ble_eq_true rfl) dX6_buy_89) ?_
      have zm24 := C26.1.2.2 rfl
      have hS := hS.sh zm24
      exact Cv.ret dX6_buy_92 rfl
    · refine Cv.go (pc' := 63) (go_icmp_ge_f 87 dX6_buy_60 rfl h22) ?_
      refine Cv.go (pc' := 65) (go_iload (i := 4) (x := a4) dX6_buy_63 rfl) ?_
      refine Cv.go (pc' := 67) (go_iload (i := 5) (x := a5) dX6_buy_65 rfl) ?_
      refine Cv.go (pc' := 68) (go_ishr dX6_buy_67) ?_
      refine Cv.go (pc' := 69) (go_iconst dX6_buy_68 ic_1) ?_
      refine Cv.go (pc' := 70) (go_iand dX6_buy_69) ?_
      refine Cv.go (pc' := 71) (go_iconst dX6_buy_70 ic_1) ?_
      refine Cv.ite (fun h27 => ?_) (fun h27 => ?_)
      · refine Cv.go (pc' := 74) (go_icmp_ne_f 81 dX6_buy_71 rfl h27) ?_
        refine Cv.go (pc' := 75) (go_aload_n (i := 0) (x := 40) dX6_buy_74 rfl rfl) ?_
        refine Cv.go (pc' := 77) (go_iload (i := 5) (x := a5) dX6_buy_75 rfl) ?_
        refine Cv.go (pc' := 78) (go_iload_n (i := 2) (x := a2) dX6_buy_77 rfl rfl) ?_
        refine Cv.bnd fun v28 m29 e30 => ?_
        have C31 := kc_X6_pays m a5 a2 hS v28 m29 e30
        refine Cv.go (pc' := 81) (st' := []) (go_callV (As := [.int a5, .int a2]) (st := []) C31 (by decide) ok_X6_pays li_X6_pays ls_X6_pays lm_X6_347 cls6 (sx_k40 hS) rfl rfl (Nat.le_of_ble_eq_true rfl) dX6_buy_78) ?_
        have zm29 := C31.1.2.2 rfl
        have hS := hS.sh zm29
        exact c_X6_buy_81 (F_X6_buy_54 n) ih m29 a2 a4 a5 hS
      · refine Cv.go (pc' := 81) (go_icmp_ne_t (tgt := 81) dX6_buy_71 rfl h27) ?_
        exact c_X6_buy_81 (F_X6_buy_54 n) ih m a2 a4 a5 hS
theorem kc_X6_buy (m : Mem) (a1 : Int32) (a2 : Int32) (a3 : Int32) (hS : ShM m) : ∀ v mE, F_X6_buy m a1 a2 a3 = some (v, mE) → Con true kX6_buy 47 [.ref 40, .int a1, .int a2, .int a3] m (eI v) mE := by
  refine Con.of (ini := false) (ls0 := [.ref 40, .int a1, .int a2, .int a3, .null, .null]) (ri := .ireturn) (by decide) (by intro z; cases z) rfl (Nat.le_of_ble_eq_true rfl) (fun v mE _ => RetTy.i) ?_
  show Cv true (cX6_buy, 6, RX6, 47, ((false, none) : IK)) .ireturn eI (F_X6_buy m a1 a2 a3) m 0 [.ref 40, .int a1, .int a2, .int a3, .null, .null] []
  unfold F_X6_buy
  refine Cv.go (pc' := 1) (go_iload_n (i := 1) (x := a1) dX6_buy_0 rfl rfl) ?_
  refine Cv.bnd fun v1 m2 e3 => ?_
  have C4 := kc_X6_isOwner m a1 v1 m2 e3
  refine Cv.go (pc' := 4) (st' := [.int (bz v1)]) (go_callS (As := [.int a1]) (st := []) C4 (by decide) ok_X6_isOwner lt_X6_isOwner lm_X6_344 rfl rfl (Nat.le_of_ble_eq_true rfl) dX6_buy_1) ?_
  have zm2 := C4.1.2.2 rfl
  have hS := hS.sh zm2
  refine Cv.ite (fun h5 => ?_) (fun h5 => ?_)
  · refine Cv.go (pc' := 31) (go_if_eq_t (tgt := 31) dX6_buy_4 rfl h5) ?_
    refine Cv.go (pc' := 33) (go_bipush dX6_buy_31 ib_n2) ?_
    exact Cv.ret dX6_buy_33 rfl
  · refine Cv.go (pc' := 7) (go_if_eq_f 31 dX6_buy_4 rfl h5) ?_
    refine Cv.go (pc' := 8) (go_iload_n (i := 2) (x := a2) dX6_buy_7 rfl rfl) ?_
    refine Cv.bnd fun v6 m7 e8 => ?_
    have C9 := kc_X6_isOwner m2 a2 v6 m7 e8
    refine Cv.go (pc' := 11) (st' := [.int (bz v6)]) (go_callS (As := [.int a2]) (st := []) C9 (by decide) ok_X6_isOwner lt_X6_isOwner lm_X6_344 rfl rfl (Nat.le_of_ble_eq_true rfl) dX6_buy_8) ?_
    have zm7 := C9.1.2.2 rfl
    have hS := hS.sh zm7
    refine Cv.ite (fun h10 => ?_) (fun h10 => ?_)
    · refine Cv.go (pc' := 31) (go_if_eq_t (tgt := 31) dX6_buy_11 rfl h10) ?_
      refine Cv.go (pc' := 33) (go_bipush dX6_buy_31 ib_n2) ?_
      exact Cv.ret dX6_buy_33 rfl
    · refine Cv.go (pc' := 14) (go_if_eq_f 31 dX6_buy_11 rfl h10) ?_
      refine Cv.go (pc' := 15) (go_iload_n (i := 1) (x := a1) dX6_buy_14 rfl rfl) ?_
      refine Cv.go (pc' := 16) (go_iload_n (i := 2) (x := a2) dX6_buy_15 rfl rfl) ?_
      refine Cv.ite (fun h11 => ?_) (fun h11 => ?_)
      · refine Cv.go (pc' := 31) (go_icmp_eq_t (tgt := 31) dX6_buy_16 rfl h11) ?_
        refine Cv.go (pc' := 33) (go_bipush dX6_buy_31 ib_n2) ?_
        exact Cv.ret dX6_buy_33 rfl
      · refine Cv.go (pc' := 19) (go_icmp_eq_f 31 dX6_buy_16 rfl h11) ?_
        refine Cv.go (pc' := 20) (go_iload_n (i := 3) (x := a3) dX6_buy_19 rfl rfl) ?_
        refine Cv.go (pc' := 21) (go_i2l dX6_buy_20) ?_
        refine Cv.go (pc' := 22) (go_lconst (v := 0) dX6_buy_21 (by decide)) ?_
        refine Cv.go (pc' := 25) (go_ldc2 dX6_buy_22 ll_X6_351) ?_
        refine Cv.bnd fun v12 m13 e14 => ?_
        have C15 := kc_X6_in m7 a3.toInt64 (0 : Int64) (999 : Int64) v12 m13 e14
        refine Cv.go (pc' := 28) (st' := [.int (bz v12)]) (go_callS (As := [.long a3.toInt64, .long (0 : Int64), .long (999 : Int64)]) (st := []) C15 (by decide) ok_X6_in lt_X6_in lm_X6_67 rfl rfl (Nat.le_of_ble_eq_true rfl) dX6_buy_25) ?_
        have zm13 := C15.1.2.2 rfl
        have hS := hS.sh zm13
        refine Cv.ite (fun h16 => ?_) (fun h16 => ?_)
        · refine Cv.go (pc' := 31) (go_if_ne_f 34 dX6_buy_28 rfl h16) ?_
          refine Cv.go (pc' := 33) (go_bipush dX6_buy_31 ib_n2) ?_
          exact Cv.ret dX6_buy_33 rfl
        · refine Cv.go (pc' := 34) (go_if_ne_t (tgt := 34) dX6_buy_28 rfl h16) ?_
          refine Cv.go (pc' := 35) (go_aload_n (i := 0) (x := 40) dX6_buy_34 rfl rfl) ?_
          refine Cv.go (pc' := 36) (go_iload_n (i := 1) (x := a1) dX6_buy_35 rfl rfl) ?_
          refine Cv.go (pc' := 37) (go_iload_n (i := 3) (x := a3) dX6_buy_36 rfl rfl) ?_
          refine Cv.bnd fun v17 m18 e19 => ?_
          have C20 := kc_X6_exactOf m13 a1 a3 hS v17 m18 e19
          refine Cv.go (pc' := 40) (st' := [.int v17]) (go_callV (As := [.int a1, .int a3]) (st := []) C20 (by decide) ok_X6_exactOf li_X6_exactOf ls_X6_exactOf lm_X6_353 cls6 (sx_k40 hS) rfl rfl (Nat.le_of_ble_eq_true rfl) dX6_buy_37) ?_
          have zm18 := C20.1.2.2 rfl
          have hS := hS.sh zm18
          refine Cv.go (pc' := 42) (ls' := [.ref 40, .int a1, .int a2, .int a3, .int v17, .null]) (go_istore dX6_buy_40 (by decide) rfl) ?_
          refine Cv.go (pc' := 44) (go_iload (i := 4) (x := v17) dX6_buy_42 rfl) ?_
          refine Cv.go (pc' := 45) (go_iconst dX6_buy_44 ic_n1) ?_
          refine Cv.ite (fun h21 => ?_) (fun h21 => ?_)
          · refine Cv.go (pc' := 48) (go_icmp_ne_f 51 dX6_buy_45 rfl h21) ?_
            refine Cv.go (pc' := 50) (go_bipush dX6_buy_48 ib_n3) ?_
            exact Cv.ret dX6_buy_50 rfl
          · refine Cv.go (pc' := 51) (go_icmp_ne_t (tgt := 51) dX6_buy_45 rfl h21) ?_
            refine Cv.go (pc' := 52) (go_iconst dX6_buy_51 ic_0) ?_
            refine Cv.go (pc' := 54) (ls' := [.ref 40, .int a1, .int a2, .int a3, .int v17, .int (0 : Int32)]) (go_istore dX6_buy_52 (by decide) rfl) ?_
            refine Cv.weak (ls' := [.ref 40, .null, .int a2, .null, .int v17, .int (0 : Int32)]) (⟨Or.inr rfl, ⟨Or.inl rfl, ⟨Or.inr rfl, ⟨Or.inl rfl, ⟨Or.inr rfl, ⟨Or.inr rfl, True.intro⟩⟩⟩⟩⟩⟩) ?_
            exact c_X6_buy_54 FU m18 a2 v17 (0 : Int32) hS
theorem c_X6_laysAside_2 : ∀ n, ∀ (m : Mem) (a1 : Int32) (hS : ShM m), Cv true (cX6_laysAside, 2, RX6, 0, ((false, none) : IK)) .return_ eV (F_X6_laysAside_2 n m a1) m 2 [.ref 40, .int a1] [] := by
  intro n
  induction n with
  | zero => intro m a1 hS; exact Cv.no
  | succ n ih =>
    intro m a1 hS
    unfold F_X6_laysAside_2
    refine Cv.go (pc' := 3) (go_iload_n (i := 1) (x := a1) dX6_laysAside_2 rfl rfl) ?_
    refine Cv.go (pc' := 5) (go_bipush dX6_laysAside_3 ib_8) ?_
    refine Cv.ite (fun h1 => ?_) (fun h1 => ?_)
    · refine Cv.go (pc' := 46) (go_icmp_ge_t (tgt := 46) dX6_laysAside_5 rfl h1) ?_
      refine Cv.go (pc' := 47) (go_aload_n (i := 0) (x := 40) dX6_laysAside_46 rfl rfl) ?_
      refine Cv.go (pc' := 48) (go_aload_n (i := 0) (x := 40) dX6_laysAside_47 rfl rfl) ?_
      refine Cv.go (pc' := 51) (go_getI (i := 7) cls6 (sx_k40 hS) (by decide) rfl lf_X6_91 (by decide) dX6_laysAside_48) ?_
      refine Cv.go (pc' := 54) (go_putI (i := 28) cls6 (sx_k40 hS) (by decide) rfl lf_X6_356 (by decide) rfl rfl rfl dX6_laysAside_51) ?_
      refine Cv.namM fun m2 em2 => ?_
      have zm2 : SameSh m m2 := em2 ▸ SameSh.d
      have hS := hS.sh zm2
      exact Cv.ret dX6_laysAside_54 rfl
    · refine Cv.go (pc' := 8) (go_icmp_ge_f 46 dX6_laysAside_5 rfl h1) ?_
      refine Cv.go (pc' := 9) (go_aload_n (i := 0) (x := 40) dX6_laysAside_8 rfl rfl) ?_
      refine Cv.go (pc' := 12) (go_getR (i := 26) cls6 (sx_k40 hS) (by decide) rfl lf_X6_29 (Or.inr ⟨_, rfl⟩) (sx_r40_26 hS) dX6_laysAside_9) ?_
      refine Cv.go (pc' := 13) (go_iload_n (i := 1) (x := a1) dX6_laysAside_12 rfl rfl) ?_
      refine Cv.go (pc' := 14) (go_aload_n (i := 0) (x := 40) dX6_laysAside_13 rfl rfl) ?_
      refine Cv.go (pc' := 17) (go_getR (i := 9) cls6 (sx_k40 hS) (by decide) rfl lf_X6_26 (Or.inr ⟨_, rfl⟩) (sx_r40_9 hS) dX6_laysAside_14) ?_
      refine Cv.go (pc' := 18) (go_iconst dX6_laysAside_17 ic_5) ?_
      refine Cv.go (pc' := 19) (go_iload_n (i := 1) (x := a1) dX6_laysAside_18 rfl rfl) ?_
      refine Cv.go (pc' := 20) (go_imul dX6_laysAside_19) ?_
      refine Cv.go (pc' := 21) (go_iconst dX6_laysAside_20 ic_3) ?_
      refine Cv.go (pc' := 22) (go_iadd dX6_laysAside_21) ?_
      refine Cv.gif fun g3 => ?_
      refine Cv.go (pc' := 23) (go_iaload (sx_k45 hS) g3 dX6_laysAside_22) ?_
      refine Cv.gif fun g4 => ?_
      refine Cv.go (pc' := 24) (go_iastore (sx_k46 hS) g4 dX6_laysAside_23) ?_
      refine Cv.namM fun m5 em5 => ?_
      have zm5 : SameSh m m5 := em5 ▸ SameSh.d
      have hS := hS.sh zm5
      refine Cv.go (pc' := 25) (go_aload_n (i := 0) (x := 40) dX6_laysAside_24 rfl rfl) ?_
      refine Cv.go (pc' := 28) (go_getR (i := 27) cls6 (sx_k40 hS) (by decide) rfl lf_X6_32 (Or.inr ⟨_, rfl⟩) (sx_r40_27 hS) dX6_laysAside_25) ?_
      refine Cv.go (pc' := 29) (go_iload_n (i := 1) (x := a1) dX6_laysAside_28 rfl rfl) ?_
      refine Cv.go (pc' := 30) (go_aload_n (i := 0) (x := 40) dX6_laysAside_29 rfl rfl) ?_
      refine Cv.go (pc' := 33) (go_getR (i := 9) cls6 (sx_k40 hS) (by decide) rfl lf_X6_26 (Or.inr ⟨_, rfl⟩) (sx_r40_9 hS) dX6_laysAside_30) ?_
      refine Cv.go (pc' := 34) (go_iconst dX6_laysAside_33 ic_5) ?_
      refine Cv.go (pc' := 35) (go_iload_n (i := 1) (x := a1) dX6_laysAside_34 rfl rfl) ?_
      refine Cv.go (pc' := 36) (go_imul dX6_laysAside_35) ?_
      refine Cv.go (pc' := 37) (go_iconst dX6_laysAside_36 ic_4) ?_
      refine Cv.go (pc' := 38) (go_iadd dX6_laysAside_37) ?_
      refine Cv.gif fun g6 => ?_
      refine Cv.go (pc' := 39) (go_iaload (sx_k45 hS) g6 dX6_laysAside_38) ?_
      refine Cv.gif fun g7 => ?_
      refine Cv.go (pc' := 40) (go_iastore (sx_k47 hS) g7 dX6_laysAside_39) ?_
      refine Cv.namM fun m8 em8 => ?_
      have zm8 : SameSh m5 m8 := em8 ▸ SameSh.d
      have hS := hS.sh zm8
      refine Cv.go (pc' := 43) (ls' := [.ref 40, .int (a1 + (1 : Int32))]) (go_iinc (x := a1) (v := a1 + (1 : Int32)) dX6_laysAside_40 rfl rfl (by decide) rfl) ?_
      refine Cv.go (pc' := 2) (go_goto (tgt := 2) dX6_laysAside_43 rfl) ?_
      exact ih m8 (a1 + (1 : Int32)) hS
theorem kc_X6_laysAside (m : Mem) (hS : ShM m) : ∀ v mE, F_X6_laysAside m = some (v, mE) → Con true kX6_laysAside 0 [.ref 40] m (eV v) mE := by
  refine Con.of (ini := false) (ls0 := [.ref 40, .null]) (ri := .return_) (by decide) (by intro z; cases z) rfl (Nat.le_of_ble_eq_true rfl) (fun v mE _ => RetTy.v) ?_
  show Cv true (cX6_laysAside, 2, RX6, 0, ((false, none) : IK)) .return_ eV (F_X6_laysAside m) m 0 [.ref 40, .null] []
  unfold F_X6_laysAside
  refine Cv.go (pc' := 1) (go_iconst dX6_laysAside_0 ic_0) ?_
  refine Cv.go (pc' := 2) (ls' := [.ref 40, .int (0 : Int32)]) (go_istore_n dX6_laysAside_1 rfl (by decide) rfl) ?_
  exact c_X6_laysAside_2 FU m (0 : Int32) hS
theorem c_X6_laysBack_2 : ∀ n, ∀ (m : Mem) (a1 : Int32) (hS : ShM m), Cv true (cX6_laysBack, 2, RX6, 0, ((false, none) : IK)) .return_ eV (F_X6_laysBack_2 n m a1) m 2 [.ref 40, .int a1] [] := by
  intro n
  induction n with
  | zero => intro m a1 hS; exact Cv.no
  | succ n ih =>
    intro m a1 hS
    unfold F_X6_laysBack_2
    refine Cv.go (pc' := 3) (go_iload_n (i := 1) (x := a1) dX6_laysBack_2 rfl rfl) ?_
    refine Cv.go (pc' := 5) (go_bipush dX6_laysBack_3 ib_8) ?_
    refine Cv.ite (fun h1 => ?_) (fun h1 => ?_)
    · refine Cv.go (pc' := 46) (go_icmp_ge_t (tgt := 46) dX6_laysBack_5 rfl h1) ?_
      refine Cv.go (pc' := 47) (go_aload_n (i := 0) (x := 40) dX6_laysBack_46 rfl rfl) ?_
      refine Cv.go (pc' := 48) (go_aload_n (i := 0) (x := 40) dX6_laysBack_47 rfl rfl) ?_
      refine Cv.go (pc' := 51) (go_getI (i := 28) cls6 (sx_k40 hS) (by decide) rfl lf_X6_356 (by decide) dX6_laysBack_48) ?_
      refine Cv.go (pc' := 54) (go_putI (i := 7) cls6 (sx_k40 hS) (by decide) rfl lf_X6_91 (by decide) rfl rfl rfl dX6_laysBack_51) ?_
      refine Cv.namM fun m2 em2 => ?_
      have zm2 : SameSh m m2 := em2 ▸ SameSh.d
      have hS := hS.sh zm2
      exact Cv.ret dX6_laysBack_54 rfl
    · refine Cv.go (pc' := 8) (go_icmp_ge_f 46 dX6_laysBack_5 rfl h1) ?_
      refine Cv.go (pc' := 9) (go_aload_n (i := 0) (x := 40) dX6_laysBack_8 rfl rfl) ?_
      refine Cv.go (pc' := 12) (go_getR (i := 9) cls6 (sx_k40 hS) (by decide) rfl lf_X6_26 (Or.inr ⟨_, rfl⟩) (sx_r40_9 hS) dX6_laysBack_9) ?_
      refine Cv.go (pc' := 13) (go_iconst dX6_laysBack_12 ic_5) ?_
      refine Cv.go (pc' := 14) (go_iload_n (i := 1) (x := a1) dX6_laysBack_13 rfl rfl) ?_
      refine Cv.go (pc' := 15) (go_imul dX6_laysBack_14) ?_
      refine Cv.go (pc' := 16) (go_iconst dX6_laysBack_15 ic_3) ?_
      refine Cv.go (pc' := 17) (go_iadd dX6_laysBack_16) ?_
      refine Cv.go (pc' := 18) (go_aload_n (i := 0) (x := 40) dX6_laysBack_17 rfl rfl) ?_
      refine Cv.go (pc' := 21) (go_getR (i := 26) cls6 (sx_k40 hS) (by decide) rfl lf_X6_29 (Or.inr ⟨_, rfl⟩) (sx_r40_26 hS) dX6_laysBack_18) ?_
      refine Cv.go (pc' := 22) (go_iload_n (i := 1) (x := a1) dX6_laysBack_21 rfl rfl) ?_
      refine Cv.gif fun g3 => ?_
      refine Cv.go (pc' := 23) (go_iaload (sx_k46 hS) g3 dX6_laysBack_22) ?_
      refine Cv.gif fun g4 => ?_
      refine Cv.go (pc' := 24) (go_iastore (sx_k45 hS) g4 dX6_laysBack_23) ?_
      refine Cv.namM fun m5 em5 => ?_
      have zm5 : SameSh m m5 := em5 ▸ SameSh.d
      have hS := hS.sh zm5
      refine Cv.go (pc' := 25) (go_aload_n (i := 0) (x := 40) dX6_laysBack_24 rfl rfl) ?_
      refine Cv.go (pc' := 28) (go_getR (i := 9) cls6 (sx_k40 hS) (by decide) rfl lf_X6_26 (Or.inr ⟨_, rfl⟩) (sx_r40_9 hS) dX6_laysBack_25) ?_
      refine Cv.go (pc' := 29) (go_iconst dX6_laysBack_28 ic_5) ?_
      refine Cv.go (pc' := 30) (go_iload_n (i := 1) (x := a1) dX6_laysBack_29 rfl rfl) ?_
      refine Cv.go (pc' := 31) (go_imul dX6_laysBack_30) ?_
      refine Cv.go (pc' := 32) (go_iconst dX6_laysBack_31 ic_4) ?_
      refine Cv.go (pc' := 33) (go_iadd dX6_laysBack_32) ?_
      refine Cv.go (pc' := 34) (go_aload_n (i := 0) (x := 40) dX6_laysBack_33 rfl rfl) ?_
      refine Cv.go (pc' := 37) (go_getR (i := 27) cls6 (sx_k40 hS) (by decide) rfl lf_X6_32 (Or.inr ⟨_, rfl⟩) (sx_r40_27 hS) dX6_laysBack_34) ?_
      refine Cv.go (pc' := 38) (go_iload_n (i := 1) (x := a1) dX6_laysBack_37 rfl rfl) ?_
      refine Cv.gif fun g6 => ?_
      refine Cv.go (pc' := 39) (go_iaload (sx_k47 hS) g6 dX6_laysBack_38) ?_
      refine Cv.gif fun g7 => ?_
      refine Cv.go (pc' := 40) (go_iastore (sx_k45 hS) g7 dX6_laysBack_39) ?_
      refine Cv.namM fun m8 em8 => ?_
      have zm8 : SameSh m5 m8 := em8 ▸ SameSh.d
      have hS := hS.sh zm8
      refine Cv.go (pc' := 43) (ls' := [.ref 40, .int (a1 + (1 : Int32))]) (go_iinc (x := a1) (v := a1 + (1 : Int32)) dX6_laysBack_40 rfl rfl (by decide) rfl) ?_
      refine Cv.go (pc' := 2) (go_goto (tgt := 2) dX6_laysBack_43 rfl) ?_
      exact ih m8 (a1 + (1 : Int32)) hS
theorem kc_X6_laysBack (m : Mem) (hS : ShM m) : ∀ v mE, F_X6_laysBack m = some (v, mE) → Con true kX6_laysBack 0 [.ref 40] m (eV v) mE := by
  refine Con.of (ini := false) (ls0 := [.ref 40, .null]) (ri := .return_) (by decide) (by intro z; cases z) rfl (Nat.le_of_ble_eq_true rfl) (fun v mE _ => RetTy.v) ?_
  show Cv true (cX6_laysBack, 2, RX6, 0, ((false, none) : IK)) .return_ eV (F_X6_laysBack m) m 0 [.ref 40, .null] []
  unfold F_X6_laysBack
  refine Cv.go (pc' := 1) (go_iconst dX6_laysBack_0 ic_0) ?_
  refine Cv.go (pc' := 2) (ls' := [.ref 40, .int (0 : Int32)]) (go_istore_n dX6_laysBack_1 rfl (by decide) rfl) ?_
  exact c_X6_laysBack_2 FU m (0 : Int32) hS
theorem c_X6_spendOf_72 (K14 : Mem → Int32 → Int32 → Int32 → Int32 → Option (Int32 × Mem)) (hK14 : ∀ (m : Mem) (a2 : Int32) (a3 : Int32) (a4 : Int32) (a5 : Int32) (hS : ShM m), Cv true (cX6_spendOf, 7, RX6, 46, ((false, none) : IK)) .ireturn eI (K14 m a2 a3 a4 a5) m 14 [.ref 40, .null, .int a2, .int a3, .int a4, .int a5, .null] []) : ∀ (m : Mem) (a2 : Int32) (a3 : Int32) (a4 : Int32) (a5 : Int32) (hS : ShM m), Cv true (cX6_spendOf, 7, RX6, 46, ((false, none) : IK)) .ireturn eI (F_X6_spendOf_72 K14 m a2 a3 a4 a5) m 72 [.ref 40, .null, .int a2, .int a3, .int a4, .int a5, .null] [] := by
  intro m a2 a3 a4 a5 hS
  unfold F_X6_spendOf_72
  refine Cv.go (pc' := 75) (ls' := [.ref 40, .null, .int a2, .int a3, .int a4, .int (a5 + (1 : Int32)), .null]) (go_iinc (x := a5) (v := a5 + (1 : Int32)) dX6_spendOf_72 rfl rfl (by decide) rfl) ?_
  refine Cv.go (pc' := 14) (go_goto (tgt := 14) dX6_spendOf_75 rfl) ?_
  exact hK14 m a2 a3 a4 (a5 + (1 : Int32)) hS
theorem c_X6_spendOf_65 (K14 : Mem → Int32 → Int32 → Int32 → Int32 → Option (Int32 × Mem)) (hK14 : ∀ (m : Mem) (a2 : Int32) (a3 : Int32) (a4 : Int32) (a5 : Int32) (hS : ShM m), Cv true (cX6_spendOf, 7, RX6, 46, ((false, none) : IK)) .ireturn eI (K14 m a2 a3 a4 a5) m 14 [.ref 40, .null, .int a2, .int a3, .int a4, .int a5, .null] []) : ∀ (m : Mem) (a2 : Int32) (a5 : Int32) (a6 : Int32) (hS : ShM m), Cv true (cX6_spendOf, 7, RX6, 46, ((false, none) : IK)) .ireturn eI (F_X6_spendOf_65 K14 m a2 a5 a6) m 65 [.ref 40, .null, .int a2, .null, .null, .int a5, .int a6] [] := by
  intro m a2 a5 a6 hS
  unfold F_X6_spendOf_65
  refine Cv.go (pc' := 67) (go_iload (i := 5) (x := a5) dX6_spendOf_65 rfl) ?_
  refine Cv.go (pc' := 68) (ls' := [.ref 40, .null, .int a2, .int a5, .null, .int a5, .int a6]) (go_istore_n dX6_spendOf_67 rfl (by decide) rfl) ?_
  refine Cv.go (pc' := 70) (go_iload (i := 6) (x := a6) dX6_spendOf_68 rfl) ?_
  refine Cv.go (pc' := 72) (ls' := [.ref 40, .null, .int a2, .int a5, .int a6, .int a5, .int a6]) (go_istore dX6_spendOf_70 (by decide) rfl) ?_
  refine Cv.weak (ls' := [.ref 40, .null, .int a2, .int a5, .int a6, .int a5, .null]) (⟨Or.inr rfl, ⟨Or.inr rfl, ⟨Or.inr rfl, ⟨Or.inr rfl, ⟨Or.inr rfl, ⟨Or.inr rfl, ⟨Or.inl rfl, True.intro⟩⟩⟩⟩⟩⟩⟩) ?_
  exact c_X6_spendOf_72 K14 hK14 m a2 a5 a6 a5 hS
theorem c_X6_spendOf_14 : ∀ n, ∀ (m : Mem) (a2 : Int32) (a3 : Int32) (a4 : Int32) (a5 : Int32) (hS : ShM m), Cv true (cX6_spendOf, 7, RX6, 46, ((false, none) : IK)) .ireturn eI (F_X6_spendOf_14 n m a2 a3 a4 a5) m 14 [.ref 40, .null, .int a2, .int a3, .int a4, .int a5, .null] [] := by
  intro n
  induction n with
  | zero => intro m a2 a3 a4 a5 hS; exact Cv.no
  | succ n ih =>
    intro m a2 a3 a4 a5 hS
    unfold F_X6_spendOf_14
    refine Cv.go (pc' := 16) (go_iload (i := 5) (x := a5) dX6_spendOf_14 rfl) ?_
    refine Cv.go (pc' := 17) (go_aload_n (i := 0) (x := 40) dX6_spendOf_16 rfl rfl) ?_
    refine Cv.go (pc' := 20) (go_getI (i := 10) cls6 (sx_k40 hS) (by decide) rfl lf_X6_64 (by decide) dX6_spendOf_17) ?_
    refine Cv.ite (fun h5 => ?_) (fun h5 => ?_)
    · refine Cv.go (pc' := 78) (go_icmp_ge_t (tgt := 78) dX6_spendOf_20 rfl h5) ?_
      refine Cv.go (pc' := 79) (go_iload_n (i := 3) (x := a3) dX6_spendOf_78 rfl rfl) ?_
      exact Cv.ret dX6_spendOf_79 rfl
    · refine Cv.go (pc' := 23) (go_icmp_ge_f 78 dX6_spendOf_20 rfl h5) ?_
      refine Cv.go (pc' := 24) (go_aload_n (i := 0) (x := 40) dX6_spendOf_23 rfl rfl) ?_
      refine Cv.go (pc' := 26) (go_iload (i := 5) (x := a5) dX6_spendOf_24 rfl) ?_
      refine Cv.bnd fun v6 m7 e8 => ?_
      have C9 := kc_X6_turnsOf m a5 hS v6 m7 e8
      refine Cv.go (pc' := 29) (st' := [.int v6]) (go_callV (As := [.int a5]) (st := []) C9 (by decide) ok_X6_turnsOf li_X6_turnsOf ls_X6_turnsOf lm_X6_104 cls6 (sx_k40 hS) rfl rfl (Nat.le_of_ble_eq_true rfl) dX6_spendOf_26) ?_
      have zm7 := C9.1.2.2 rfl
      have hS := hS.sh zm7
      refine Cv.go (pc' := 30) (go_aload_n (i := 0) (x := 40) dX6_spendOf_29 rfl rfl) ?_
      refine Cv.go (pc' := 33) (go_getR (i := 9) cls6 (sx_k40 hS) (by decide) rfl lf_X6_26 (Or.inr ⟨_, rfl⟩) (sx_r40_9 hS) dX6_spendOf_30) ?_
      refine Cv.go (pc' := 34) (go_iconst dX6_spendOf_33 ic_5) ?_
      refine Cv.go (pc' := 36) (go_iload (i := 5) (x := a5) dX6_spendOf_34 rfl) ?_
      refine Cv.go (pc' := 37) (go_imul dX6_spendOf_36) ?_
      refine Cv.go (pc' := 38) (go_iconst dX6_spendOf_37 ic_3) ?_
      refine Cv.go (pc' := 39) (go_iadd dX6_spendOf_38) ?_
      refine Cv.gif fun g10 => ?_
      refine Cv.go (pc' := 40) (go_iaload (sx_k45 hS) g10 dX6_spendOf_39) ?_
      refine Cv.go (pc' := 41) (go_isub dX6_spendOf_40) ?_
      refine Cv.namI fun x11 ex11 => ?_
      refine Cv.go (pc' := 43) (ls' := [.ref 40, .null, .int a2, .int a3, .int a4, .int a5, .int x11]) (go_istore dX6_spendOf_41 (by decide) rfl) ?_
      refine Cv.go (pc' := 44) (go_iload_n (i := 2) (x := a2) dX6_spendOf_43 rfl rfl) ?_
      refine Cv.go (pc' := 46) (go_iload (i := 5) (x := a5) dX6_spendOf_44 rfl) ?_
      refine Cv.go (pc' := 47) (go_ishr dX6_spendOf_46) ?_
      refine Cv.go (pc' := 48) (go_iconst dX6_spendOf_47 ic_1) ?_
      refine Cv.go (pc' := 49) (go_iand dX6_spendOf_48) ?_
      refine Cv.go (pc' := 50) (go_iconst dX6_spendOf_49 ic_1) ?_
      refine Cv.ite (fun h12 => ?_) (fun h12 => ?_)
      · refine Cv.go (pc' := 53) (go_icmp_ne_f 72 dX6_spendOf_50 rfl h12) ?_
        refine Cv.go (pc' := 54) (go_iload_n (i := 3) (x := a3) dX6_spendOf_53 rfl rfl) ?_
        refine Cv.go (pc' := 55) (go_iconst dX6_spendOf_54 ic_n1) ?_
        refine Cv.ite (fun h13 => ?_) (fun h13 => ?_)
        · refine Cv.go (pc' := 65) (go_icmp_eq_t (tgt := 65) dX6_spendOf_55 rfl h13) ?_
          refine Cv.weak (ls' := [.ref 40, .null, .int a2, .null, .null, .int a5, .int x11]) (⟨Or.inr rfl, ⟨Or.inr rfl, ⟨Or.inr rfl, ⟨Or.inl rfl, ⟨Or.inl rfl, ⟨Or.inr rfl, ⟨Or.inr rfl, True.intro⟩⟩⟩⟩⟩⟩⟩) ?_
          exact c_X6_spendOf_65 (F_X6_spendOf_14 n) ih m7 a2 a5 x11 hS
        · refine Cv.go (pc' := 58) (go_icmp_eq_f 65 dX6_spendOf_55 rfl h13) ?_
          refine Cv.go (pc' := 60) (go_iload (i := 6) (x := x11) dX6_spendOf_58 rfl) ?_
          refine Cv.go (pc' := 62) (go_iload (i := 4) (x := a4) dX6_spendOf_60 rfl) ?_
          refine Cv.ite (fun h14 => ?_) (fun h14 => ?_)
          · refine Cv.go (pc' := 72) (go_icmp_ge_t (tgt := 72) dX6_spendOf_62 rfl h14) ?_
            refine Cv.weak (ls' := [.ref 40, .null, .int a2, .int a3, .int a4, .int a5, .null]) (⟨Or.inr rfl, ⟨Or.inr rfl, ⟨Or.inr rfl, ⟨Or.inr rfl, ⟨Or.inr rfl, ⟨Or.inr rfl, ⟨Or.inl rfl, True.intro⟩⟩⟩⟩⟩⟩⟩) ?_
            exact c_X6_spendOf_72 (F_X6_spendOf_14 n) ih m7 a2 a3 a4 a5 hS
          · refine Cv.go (pc' := 65) (go_icmp_ge_f 72 dX6_spendOf_62 rfl h14) ?_
            refine Cv.weak (ls' := [.ref 40, .null, .int a2, .null, .null, .int a5, .int x11]) (⟨Or.inr rfl, ⟨Or.inr rfl, ⟨Or.inr rfl, ⟨Or.inl rfl, ⟨Or.inl rfl, ⟨Or.inr rfl, ⟨Or.inr rfl, True.intro⟩⟩⟩⟩⟩⟩⟩) ?_
            exact c_X6_spendOf_65 (F_X6_spendOf_14 n) ih m7 a2 a5 x11 hS
      · refine Cv.go (pc' := 72) (go_icmp_ne_t (tgt := 72) dX6_spendOf_50 rfl h12) ?_
        refine Cv.weak (ls' := [.ref 40, .null, .int a2, .int a3, .int a4, .int a5, .null]) (⟨Or.inr rfl, ⟨Or.inr rfl, ⟨Or.inr rfl, ⟨Or.inr rfl, ⟨Or.inr rfl, ⟨Or.inr rfl, ⟨Or.inl rfl, True.intro⟩⟩⟩⟩⟩⟩⟩) ?_
        exact c_X6_spendOf_72 (F_X6_spendOf_14 n) ih m7 a2 a3 a4 a5 hS
theorem kc_X6_spendOf (m : Mem) (a1 : Int32) (hS : ShM m) : ∀ v mE, F_X6_spendOf m a1 = some (v, mE) → Con true kX6_spendOf 46 [.ref 40, .int a1] m (eI v) mE := by
  refine Con.of (ini := false) (ls0 := [.ref 40, .int a1, .null, .null, .null, .null, .null]) (ri := .ireturn) (by decide) (by intro z; cases z) rfl (Nat.le_of_ble_eq_true rfl) (fun v mE _ => RetTy.i) ?_
  show Cv true (cX6_spendOf, 7, RX6, 46, ((false, none) : IK)) .ireturn eI (F_X6_spendOf m a1) m 0 [.ref 40, .int a1, .null, .null, .null, .null, .null] []
  unfold F_X6_spendOf
  refine Cv.go (pc' := 1) (go_aload_n (i := 0) (x := 40) dX6_spendOf_0 rfl rfl) ?_
  refine Cv.go (pc' := 2) (go_iload_n (i := 1) (x := a1) dX6_spendOf_1 rfl rfl) ?_
  refine Cv.bnd fun v1 m2 e3 => ?_
  have C4 := kc_X6_purseOf m a1 hS v1 m2 e3
  refine Cv.go (pc' := 5) (st' := [.int v1]) (go_callV (As := [.int a1]) (st := []) C4 (by decide) ok_X6_purseOf li_X6_purseOf ls_X6_purseOf lm_X6_359 cls6 (sx_k40 hS) rfl rfl (Nat.le_of_ble_eq_true rfl) dX6_spendOf_2) ?_
  have zm2 := C4.1.2.2 rfl
  have hS := hS.sh zm2
  refine Cv.go (pc' := 6) (ls' := [.ref 40, .int a1, .int v1, .null, .null, .null, .null]) (go_istore_n dX6_spendOf_5 rfl (by decide) rfl) ?_
  refine Cv.go (pc' := 7) (go_iconst dX6_spendOf_6 ic_n1) ?_
  refine Cv.go (pc' := 8) (ls' := [.ref 40, .int a1, .int v1, .int (-1 : Int32), .null, .null, .null]) (go_istore_n dX6_spendOf_7 rfl (by decide) rfl) ?_
  refine Cv.go (pc' := 9) (go_iconst dX6_spendOf_8 ic_0) ?_
  refine Cv.go (pc' := 11) (ls' := [.ref 40, .int a1, .int v1, .int (-1 : Int32), .int (0 : Int32), .null, .null]) (go_istore dX6_spendOf_9 (by decide) rfl) ?_
  refine Cv.go (pc' := 12) (go_iconst dX6_spendOf_11 ic_0) ?_
  refine Cv.go (pc' := 14) (ls' := [.ref 40, .int a1, .int v1, .int (-1 : Int32), .int (0 : Int32), .int (0 : Int32), .null]) (go_istore dX6_spendOf_12 (by decide) rfl) ?_
  refine Cv.weak (ls' := [.ref 40, .null, .int v1, .int (-1 : Int32), .int (0 : Int32), .int (0 : Int32), .null]) (⟨Or.inr rfl, ⟨Or.inl rfl, ⟨Or.inr rfl, ⟨Or.inr rfl, ⟨Or.inr rfl, ⟨Or.inr rfl, ⟨Or.inr rfl, True.intro⟩⟩⟩⟩⟩⟩⟩) ?_
  exact c_X6_spendOf_14 FU m2 v1 (-1 : Int32) (0 : Int32) (0 : Int32) hS
theorem c_X6_goneOf_31 : ∀ (m : Mem) (a2 : Int32) (hS : ShM m), Cv true (cX6_goneOf, 3, RX6, 46, ((false, none) : IK)) .ireturn eI (F_X6_goneOf_31 m a2) m 31 [.ref 40, .null, .int a2] [] := by
  intro m a2 hS
  unfold F_X6_goneOf_31
  refine Cv.go (pc' := 32) (go_aload_n (i := 0) (x := 40) dX6_goneOf_31 rfl rfl) ?_
  refine Cv.bnd fun v15 m16 e17 => ?_
  have C18 := kc_X6_laysBack m hS v15 m16 e17
  refine Cv.go (pc' := 35) (st' := []) (go_callV (As := []) (st := []) C18 (by decide) ok_X6_laysBack li_X6_laysBack ls_X6_laysBack lm_X6_365 cls6 (sx_k40 hS) rfl rfl (Nat.le_of_ble_eq_true rfl) dX6_goneOf_32) ?_
  have zm16 := C18.1.2.2 rfl
  have hS := hS.sh zm16
  refine Cv.go (pc' := 36) (go_iload_n (i := 2) (x := a2) dX6_goneOf_35 rfl rfl) ?_
  refine Cv.go (pc' := 38) (go_bipush dX6_goneOf_36 ib_40) ?_
  refine Cv.ite (fun h19 => ?_) (fun h19 => ?_)
  · refine Cv.go (pc' := 45) (go_icmp_le_t (tgt := 45) dX6_goneOf_38 rfl h19) ?_
    refine Cv.go (pc' := 46) (go_iload_n (i := 2) (x := a2) dX6_goneOf_45 rfl rfl) ?_
    exact Cv.ret dX6_goneOf_46 rfl
  · refine Cv.go (pc' := 41) (go_icmp_le_f 45 dX6_goneOf_38 rfl h19) ?_
    refine Cv.go (pc' := 42) (go_iconst dX6_goneOf_41 ic_n1) ?_
    refine Cv.go (pc' := 46) (go_goto (tgt := 46) dX6_goneOf_42 rfl) ?_
    exact Cv.ret dX6_goneOf_46 rfl
theorem c_X6_goneOf_6 : ∀ n, ∀ (m : Mem) (a1 : Int32) (a2 : Int32) (hS : ShM m), Cv true (cX6_goneOf, 3, RX6, 46, ((false, none) : IK)) .ireturn eI (F_X6_goneOf_6 n m a1 a2) m 6 [.ref 40, .int a1, .int a2] [] := by
  intro n
  induction n with
  | zero => intro m a1 a2 hS; exact Cv.no
  | succ n ih =>
    intro m a1 a2 hS
    unfold F_X6_goneOf_6
    refine Cv.go (pc' := 7) (go_iload_n (i := 2) (x := a2) dX6_goneOf_6 rfl rfl) ?_
    refine Cv.go (pc' := 9) (go_bipush dX6_goneOf_7 ib_40) ?_
    refine Cv.ite (fun h5 => ?_) (fun h5 => ?_)
    · refine Cv.go (pc' := 31) (go_icmp_gt_t (tgt := 31) dX6_goneOf_9 rfl h5) ?_
      refine Cv.weak (ls' := [.ref 40, .null, .int a2]) (⟨Or.inr rfl, ⟨Or.inl rfl, ⟨Or.inr rfl, True.intro⟩⟩⟩) ?_
      exact c_X6_goneOf_31 m a2 hS
    · refine Cv.go (pc' := 12) (go_icmp_gt_f 31 dX6_goneOf_9 rfl h5) ?_
      refine Cv.go (pc' := 13) (go_aload_n (i := 0) (x := 40) dX6_goneOf_12 rfl rfl) ?_
      refine Cv.go (pc' := 14) (go_iload_n (i := 1) (x := a1) dX6_goneOf_13 rfl rfl) ?_
      refine Cv.bnd fun v6 m7 e8 => ?_
      have C9 := kc_X6_purseOf m a1 hS v6 m7 e8
      refine Cv.go (pc' := 17) (st' := [.int v6]) (go_callV (As := [.int a1]) (st := []) C9 (by decide) ok_X6_purseOf li_X6_purseOf ls_X6_purseOf lm_X6_359 cls6 (sx_k40 hS) rfl rfl (Nat.le_of_ble_eq_true rfl) dX6_goneOf_14) ?_
      have zm7 := C9.1.2.2 rfl
      have hS := hS.sh zm7
      refine Cv.ite (fun h10 => ?_) (fun h10 => ?_)
      · refine Cv.go (pc' := 31) (go_if_eq_t (tgt := 31) dX6_goneOf_17 rfl h10) ?_
        refine Cv.weak (ls' := [.ref 40, .null, .int a2]) (⟨Or.inr rfl, ⟨Or.inl rfl, ⟨Or.inr rfl, True.intro⟩⟩⟩) ?_
        exact c_X6_goneOf_31 m7 a2 hS
      · refine Cv.go (pc' := 20) (go_if_eq_f 31 dX6_goneOf_17 rfl h10) ?_
        refine Cv.go (pc' := 21) (go_aload_n (i := 0) (x := 40) dX6_goneOf_20 rfl rfl) ?_
        refine Cv.bnd fun v11 m12 e13 => ?_
        have C14 := kc_X6_passes m7 hS v11 m12 e13
        refine Cv.go (pc' := 24) (st' := [.int v11]) (go_callV (As := []) (st := []) C14 (by decide) ok_X6_passes li_X6_passes ls_X6_passes lm_X6_341 cls6 (sx_k40 hS) rfl rfl (Nat.le_of_ble_eq_true rfl) dX6_goneOf_21) ?_
        have zm12 := C14.1.2.2 rfl
        have hS := hS.sh zm12
        refine Cv.go (pc' := 25) (go_pop_i dX6_goneOf_24) ?_
        refine Cv.go (pc' := 28) (ls' := [.ref 40, .int a1, .int (a2 + (1 : Int32))]) (go_iinc (x := a2) (v := a2 + (1 : Int32)) dX6_goneOf_25 rfl rfl (by decide) rfl) ?_
        refine Cv.go (pc' := 6) (go_goto (tgt := 6) dX6_goneOf_28 rfl) ?_
        exact ih m12 a1 (a2 + (1 : Int32)) hS
theorem kc_X6_goneOf (m : Mem) (a1 : Int32) (hS : ShM m) : ∀ v mE, F_X6_goneOf m a1 = some (v, mE) → Con true kX6_goneOf 46 [.ref 40, .int a1] m (eI v) mE := by
  refine Con.of (ini := false) (ls0 := [.ref 40, .int a1, .null]) (ri := .ireturn) (by decide) (by intro z; cases z) rfl (Nat.le_of_ble_eq_true rfl) (fun v mE _ => RetTy.i) ?_
  show Cv true (cX6_goneOf, 3, RX6, 46, ((false, none) : IK)) .ireturn eI (F_X6_goneOf m a1) m 0 [.ref 40, .int a1, .null] []
  unfold F_X6_goneOf
  refine Cv.go (pc' := 1) (go_aload_n (i := 0) (x := 40) dX6_goneOf_0 rfl rfl) ?_
  refine Cv.bnd fun v1 m2 e3 => ?_
  have C4 := kc_X6_laysAside m hS v1 m2 e3
  refine Cv.go (pc' := 4) (st' := []) (go_callV (As := []) (st := []) C4 (by decide) ok_X6_laysAside li_X6_laysAside ls_X6_laysAside lm_X6_362 cls6 (sx_k40 hS) rfl rfl (Nat.le_of_ble_eq_true rfl) dX6_goneOf_1) ?_
  have zm2 := C4.1.2.2 rfl
  have hS := hS.sh zm2
  refine Cv.go (pc' := 5) (go_iconst dX6_goneOf_4 ic_0) ?_
  refine Cv.go (pc' := 6) (ls' := [.ref 40, .int a1, .int (0 : Int32)]) (go_istore_n dX6_goneOf_5 rfl (by decide) rfl) ?_
  exact c_X6_goneOf_6 FU m2 a1 (0 : Int32) hS
theorem c_X6_taxOf_27 (K4 : Mem → Int32 → Int32 → Int32 → Option (Int32 × Mem)) (hK4 : ∀ (m : Mem) (a1 : Int32) (a2 : Int32) (a3 : Int32) (hS : ShM m), Cv true (cX6_taxOf, 9, RX6, 45, ((false, none) : IK)) .ireturn eI (K4 m a1 a2 a3) m 4 [.ref 40, .int a1, .int a2, .int a3, .null, .null, .null, .null, .null] []) : ∀ (m : Mem) (a1 : Int32) (a3 : Int32) (s0 : Int32) (s1 : Int32) (hS : ShM m), Cv true (cX6_taxOf, 9, RX6, 45, ((false, none) : IK)) .ireturn eI (F_X6_taxOf_27 K4 m a1 a3 s0 s1) m 27 [.ref 40, .int a1, .null, .int a3, .null, .null, .null, .null, .null] [.int s0, .int s1] := by
  intro m a1 a3 s0 s1 hS
  unfold F_X6_taxOf_27
  refine Cv.go (pc' := 28) (go_iadd dX6_taxOf_27) ?_
  refine Cv.namI fun x7 ex7 => ?_
  refine Cv.go (pc' := 29) (ls' := [.ref 40, .int a1, .int x7, .int a3, .null, .null, .null, .null, .null]) (go_istore_n dX6_taxOf_28 rfl (by decide) rfl) ?_
  refine Cv.go (pc' := 32) (ls' := [.ref 40, .int a1, .int x7, .int (a3 + (1 : Int32)), .null, .null, .null, .null, .null]) (go_iinc (x := a3) (v := a3 + (1 : Int32)) dX6_taxOf_29 rfl rfl (by decide) rfl) ?_
  refine Cv.go (pc' := 4) (go_goto (tgt := 4) dX6_taxOf_32 rfl) ?_
  exact hK4 m a1 x7 (a3 + (1 : Int32)) hS
theorem c_X6_taxOf_122 (K43 : Mem → Int32 → Int32 → Int32 → Int32 → Int32 → Option (Int32 × Mem)) (hK43 : ∀ (m : Mem) (a1 : Int32) (a2 : Int32) (a3 : Int32) (a4 : Int32) (a5 : Int32) (hS : ShM m), Cv true (cX6_taxOf, 9, RX6, 45, ((false, none) : IK)) .ireturn eI (K43 m a1 a2 a3 a4 a5) m 43 [.ref 40, .int a1, .int a2, .int a3, .int a4, .int a5, .null, .null, .null] []) (K57 : Mem → Int32 → Int32 → Int32 → Int32 → Int32 → Int32 → Int32 → Option (Int32 × Mem)) (hK57 : ∀ (m : Mem) (a1 : Int32) (a2 : Int32) (a3 : Int32) (a4 : Int32) (a5 : Int32) (a6 : Int32) (a7 : Int32) (hS : ShM m), Cv true (cX6_taxOf, 9, RX6, 45, ((false, none) : IK)) .ireturn eI (K57 m a1 a2 a3 a4 a5 a6 a7) m 57 [.ref 40, .int a1, .int a2, .int a3, .int a4, .int a5, .int a6, .int a7, .null] []) : ∀ (m : Mem) (a1 : Int32) (a2 : Int32) (a3 : Int32) (a4 : Int32) (a5 : Int32) (a6 : Int32) (a7 : Int32) (hS : ShM m), Cv true (cX6_taxOf, 9, RX6, 45, ((false, none) : IK)) .ireturn eI (F_X6_taxOf_122 K43 K57 m a1 a2 a3 a4 a5 a6 a7) m 122 [.ref 40, .int a1, .int a2, .int a3, .int a4, .int a5, .int a6, .int a7, .null] [] := by
  intro m a1 a2 a3 a4 a5 a6 a7 hS
  unfold F_X6_taxOf_122
  refine Cv.go (pc' := 125) (ls' := [.ref 40, .int a1, .int a2, .int a3, .int a4, .int a5, .int a6, .int (a7 + (1 : Int32)), .null]) (go_iinc (x := a7) (v := a7 + (1 : Int32)) dX6_taxOf_122 rfl rfl (by decide) rfl) ?_
  refine Cv.go (pc' := 57) (go_goto (tgt := 57) dX6_taxOf_125 rfl) ?_
  exact hK57 m a1 a2 a3 a4 a5 a6 (a7 + (1 : Int32)) hS
theorem c_X6_taxOf_118 (K43 : Mem → Int32 → Int32 → Int32 → Int32 → Int32 → Option (Int32 × Mem)) (hK43 : ∀ (m : Mem) (a1 : Int32) (a2 : Int32) (a3 : Int32) (a4 : Int32) (a5 : Int32) (hS : ShM m), Cv true (cX6_taxOf, 9, RX6, 45, ((false, none) : IK)) .ireturn eI (K43 m a1 a2 a3 a4 a5) m 43 [.ref 40, .int a1, .int a2, .int a3, .int a4, .int a5, .null, .null, .null] []) (K57 : Mem → Int32 → Int32 → Int32 → Int32 → Int32 → Int32 → Int32 → Option (Int32 × Mem)) (hK57 : ∀ (m : Mem) (a1 : Int32) (a2 : Int32) (a3 : Int32) (a4 : Int32) (a5 : Int32) (a6 : Int32) (a7 : Int32) (hS : ShM m), Cv true (cX6_taxOf, 9, RX6, 45, ((false, none) : IK)) .ireturn eI (K57 m a1 a2 a3 a4 a5 a6 a7) m 57 [.ref 40, .int a1, .int a2, .int a3, .int a4, .int a5, .int a6, .int a7, .null] []) : ∀ (m : Mem) (a1 : Int32) (a2 : Int32) (a3 : Int32) (a4 : Int32) (a5 : Int32) (a7 : Int32) (hS : ShM m), Cv true (cX6_taxOf, 9, RX6, 45, ((false, none) : IK)) .ireturn eI (F_X6_taxOf_118 K43 K57 m a1 a2 a3 a4 a5 a7) m 118 [.ref 40, .int a1, .int a2, .int a3, .int a4, .int a5, .null, .int a7, .null] [] := by
  intro m a1 a2 a3 a4 a5 a7 hS
  unfold F_X6_taxOf_118
  refine Cv.go (pc' := 120) (go_iload (i := 7) (x := a7) dX6_taxOf_118 rfl) ?_
  refine Cv.go (pc' := 122) (ls' := [.ref 40, .int a1, .int a2, .int a3, .int a4, .int a5, .int a7, .int a7, .null]) (go_istore dX6_taxOf_120 (by decide) rfl) ?_
  exact c_X6_taxOf_122 K43 hK43 K57 hK57 m a1 a2 a3 a4 a5 a7 a7 hS
theorem c_X6_taxOf_90 (K43 : Mem → Int32 → Int32 → Int32 → Int32 → Int32 → Option (Int32 × Mem)) (hK43 : ∀ (m : Mem) (a1 : Int32) (a2 : Int32) (a3 : Int32) (a4 : Int32) (a5 : Int32) (hS : ShM m), Cv true (cX6_taxOf, 9, RX6, 45, ((false, none) : IK)) .ireturn eI (K43 m a1 a2 a3 a4 a5) m 43 [.ref 40, .int a1, .int a2, .int a3, .int a4, .int a5, .null, .null, .null] []) (K57 : Mem → Int32 → Int32 → Int32 → Int32 → Int32 → Int32 → Int32 → Option (Int32 × Mem)) (hK57 : ∀ (m : Mem) (a1 : Int32) (a2 : Int32) (a3 : Int32) (a4 : Int32) (a5 : Int32) (a6 : Int32) (a7 : Int32) (hS : ShM m), Cv true (cX6_taxOf, 9, RX6, 45, ((false, none) : IK)) .ireturn eI (K57 m a1 a2 a3 a4 a5 a6 a7) m 57 [.ref 40, .int a1, .int a2, .int a3, .int a4, .int a5, .int a6, .int a7, .null] []) : ∀ (m : Mem) (a1 : Int32) (a2 : Int32) (a3 : Int32) (a4 : Int32) (a5 : Int32) (a6 : Int32) (a7 : Int32) (s0 : Int32) (hS : ShM m), Cv true (cX6_taxOf, 9, RX6, 45, ((false, none) : IK)) .ireturn eI (F_X6_taxOf_90 K43 K57 m a1 a2 a3 a4 a5 a6 a7 s0) m 90 [.ref 40, .int a1, .int a2, .int a3, .int a4, .int a5, .int a6, .int a7, .null] [.int s0] := by
  intro m a1 a2 a3 a4 a5 a6 a7 s0 hS
  unfold F_X6_taxOf_90
  refine Cv.go (pc' := 92) (ls' := [.ref 40, .int a1, .int a2, .int a3, .int a4, .int a5, .int a6, .int a7, .int s0]) (go_istore dX6_taxOf_90 (by decide) rfl) ?_
  refine Cv.go (pc' := 94) (go_iload (i := 8) (x := s0) dX6_taxOf_92 rfl) ?_
  refine Cv.ite (fun h22 => ?_) (fun h22 => ?_)
  · refine Cv.go (pc' := 122) (go_if_eq_t (tgt := 122) dX6_taxOf_94 rfl h22) ?_
    refine Cv.weak (ls' := [.ref 40, .int a1, .int a2, .int a3, .int a4, .int a5, .int a6, .int a7, .null]) (⟨Or.inr rfl, ⟨Or.inr rfl, ⟨Or.inr rfl, ⟨Or.inr rfl, ⟨Or.inr rfl, ⟨Or.inr rfl, ⟨Or.inr rfl, ⟨Or.inr rfl, ⟨Or.inl rfl, True.intro⟩⟩⟩⟩⟩⟩⟩⟩⟩) ?_
    exact c_X6_taxOf_122 K43 hK43 K57 hK57 m a1 a2 a3 a4 a5 a6 a7 hS
  · refine Cv.go (pc' := 97) (go_if_eq_f 122 dX6_taxOf_94 rfl h22) ?_
    refine Cv.go (pc' := 99) (go_iload (i := 6) (x := a6) dX6_taxOf_97 rfl) ?_
    refine Cv.go (pc' := 100) (go_iconst dX6_taxOf_99 ic_n1) ?_
    refine Cv.ite (fun h23 => ?_) (fun h23 => ?_)
    · refine Cv.go (pc' := 118) (go_icmp_eq_t (tgt := 118) dX6_taxOf_100 rfl h23) ?_
      refine Cv.weak (ls' := [.ref 40, .int a1, .int a2, .int a3, .int a4, .int a5, .null, .int a7, .null]) (⟨Or.inr rfl, ⟨Or.inr rfl, ⟨Or.inr rfl, ⟨Or.inr rfl, ⟨Or.inr rfl, ⟨Or.inr rfl, ⟨Or.inl rfl, ⟨Or.inr rfl, ⟨Or.inl rfl, True.intro⟩⟩⟩⟩⟩⟩⟩⟩⟩) ?_
      exact c_X6_taxOf_118 K43 hK43 K57 hK57 m a1 a2 a3 a4 a5 a7 hS
    · refine Cv.go (pc' := 103) (go_icmp_eq_f 118 dX6_taxOf_100 rfl h23) ?_
      refine Cv.go (pc' := 104) (go_aload_n (i := 0) (x := 40) dX6_taxOf_103 rfl rfl) ?_
      refine Cv.go (pc' := 106) (go_iload (i := 7) (x := a7) dX6_taxOf_104 rfl) ?_
      refine Cv.bnd fun v24 m25 e26 => ?_
      have C27 := kc_X6_worthOf m a7 hS v24 m25 e26
      refine Cv.go (pc' := 109) (st' := [.int v24]) (go_callV (As := [.int a7]) (st := []) C27 (by decide) ok_X6_worthOf li_X6_worthOf ls_X6_worthOf lm_X6_116 cls6 (sx_k40 hS) rfl rfl (Nat.le_of_ble_eq_true rfl) dX6_taxOf_106) ?_
      have zm25 := C27.1.2.2 rfl
      have hS := hS.sh zm25
      refine Cv.go (pc' := 110) (go_aload_n (i := 0) (x := 40) dX6_taxOf_109 rfl rfl) ?_
      refine Cv.go (pc' := 112) (go_iload (i := 6) (x := a6) dX6_taxOf_110 rfl) ?_
      refine Cv.bnd fun v28 m29 e30 => ?_
      have C31 := kc_X6_worthOf m25 a6 hS v28 m29 e30
      refine Cv.go (pc' := 115) (st' := [.int v28, .int v24]) (go_callV (As := [.int a6]) (st := [.int v24]) C31 (by decide) ok_X6_worthOf li_X6_worthOf ls_X6_worthOf lm_X6_116 cls6 (sx_k40 hS) rfl rfl (Nat.le_of_ble_eq_true rfl) dX6_taxOf_112) ?_
      have zm29 := C31.1.2.2 rfl
      have hS := hS.sh zm29
      refine Cv.ite (fun h32 => ?_) (fun h32 => ?_)
      · refine Cv.go (pc' := 122) (go_icmp_le_t (tgt := 122) dX6_taxOf_115 rfl h32) ?_
        refine Cv.weak (ls' := [.ref 40, .int a1, .int a2, .int a3, .int a4, .int a5, .int a6, .int a7, .null]) (⟨Or.inr rfl, ⟨Or.inr rfl, ⟨Or.inr rfl, ⟨Or.inr rfl, ⟨Or.inr rfl, ⟨Or.inr rfl, ⟨Or.inr rfl, ⟨Or.inr rfl, ⟨Or.inl rfl, True.intro⟩⟩⟩⟩⟩⟩⟩⟩⟩) ?_
        exact c_X6_taxOf_122 K43 hK43 K57 hK57 m29 a1 a2 a3 a4 a5 a6 a7 hS
      · refine Cv.go (pc' := 118) (go_icmp_le_f 122 dX6_taxOf_115 rfl h32) ?_
        refine Cv.weak (ls' := [.ref 40, .int a1, .int a2, .int a3, .int a4, .int a5, .null, .int a7, .null]) (⟨Or.inr rfl, ⟨Or.inr rfl, ⟨Or.inr rfl, ⟨Or.inr rfl, ⟨Or.inr rfl, ⟨Or.inr rfl, ⟨Or.inl rfl, ⟨Or.inr rfl, ⟨Or.inl rfl, True.intro⟩⟩⟩⟩⟩⟩⟩⟩⟩) ?_
        exact c_X6_taxOf_118 K43 hK43 K57 hK57 m29 a1 a2 a3 a4 a5 a7 hS
theorem c_X6_taxOf_89 (K43 : Mem → Int32 → Int32 → Int32 → Int32 → Int32 → Option (Int32 × Mem)) (hK43 : ∀ (m : Mem) (a1 : Int32) (a2 : Int32) (a3 : Int32) (a4 : Int32) (a5 : Int32) (hS : ShM m), Cv true (cX6_taxOf, 9, RX6, 45, ((false, none) : IK)) .ireturn eI (K43 m a1 a2 a3 a4 a5) m 43 [.ref 40, .int a1, .int a2, .int a3, .int a4, .int a5, .null, .null, .null] []) (K57 : Mem → Int32 → Int32 → Int32 → Int32 → Int32 → Int32 → Int32 → Option (Int32 × Mem)) (hK57 : ∀ (m : Mem) (a1 : Int32) (a2 : Int32) (a3 : Int32) (a4 : Int32) (a5 : Int32) (a6 : Int32) (a7 : Int32) (hS : ShM m), Cv true (cX6_taxOf, 9, RX6, 45, ((false, none) : IK)) .ireturn eI (K57 m a1 a2 a3 a4 a5 a6 a7) m 57 [.ref 40, .int a1, .int a2, .int a3, .int a4, .int a5, .int a6, .int a7, .null] []) : ∀ (m : Mem) (a1 : Int32) (a2 : Int32) (a3 : Int32) (a4 : Int32) (a5 : Int32) (a6 : Int32) (a7 : Int32) (hS : ShM m), Cv true (cX6_taxOf, 9, RX6, 45, ((false, none) : IK)) .ireturn eI (F_X6_taxOf_89 K43 K57 m a1 a2 a3 a4 a5 a6 a7) m 89 [.ref 40, .int a1, .int a2, .int a3, .int a4, .int a5, .int a6, .int a7, .null] [] := by
  intro m a1 a2 a3 a4 a5 a6 a7 hS
  unfold F_X6_taxOf_89
  refine Cv.go (pc' := 90) (go_iconst dX6_taxOf_89 ic_0) ?_
  exact c_X6_taxOf_90 K43 hK43 K57 hK57 m a1 a2 a3 a4 a5 a6 a7 (0 : Int32) hS
theorem c_X6_taxOf_57 (K43 : Mem → Int32 → Int32 → Int32 → Int32 → Int32 → Option (Int32 × Mem)) (hK43 : ∀ (m : Mem) (a1 : Int32) (a2 : Int32) (a3 : Int32) (a4 : Int32) (a5 : Int32) (hS : ShM m), Cv true (cX6_taxOf, 9, RX6, 45, ((false, none) : IK)) .ireturn eI (K43 m a1 a2 a3 a4 a5) m 43 [.ref 40, .int a1, .int a2, .int a3, .int a4, .int a5, .null, .null, .null] []) : ∀ n, ∀ (m : Mem) (a1 : Int32) (a2 : Int32) (a3 : Int32) (a4 : Int32) (a5 : Int32) (a6 : Int32) (a7 : Int32) (hS : ShM m), Cv true (cX6_taxOf, 9, RX6, 45, ((false, none) : IK)) .ireturn eI (F_X6_taxOf_57 K43 n m a1 a2 a3 a4 a5 a6 a7) m 57 [.ref 40, .int a1, .int a2, .int a3, .int a4, .int a5, .int a6, .int a7, .null] [] := by
  intro n
  induction n with
  | zero => intro m a1 a2 a3 a4 a5 a6 a7 hS; exact Cv.no
  | succ n ih =>
    intro m a1 a2 a3 a4 a5 a6 a7 hS
    unfold F_X6_taxOf_57
    refine Cv.go (pc' := 59) (go_iload (i := 7) (x := a7) dX6_taxOf_57 rfl) ?_
    refine Cv.go (pc' := 60) (go_aload_n (i := 0) (x := 40) dX6_taxOf_59 rfl rfl) ?_
    refine Cv.go (pc' := 63) (go_getI (i := 10) cls6 (sx_k40 hS) (by decide) rfl lf_X6_64 (by decide) dX6_taxOf_60) ?_
    refine Cv.ite (fun h9 => ?_) (fun h9 => ?_)
    · refine Cv.go (pc' := 128) (go_icmp_ge_t (tgt := 128) dX6_taxOf_63 rfl h9) ?_
      refine Cv.go (pc' := 129) (go_iload_n (i := 3) (x := a3) dX6_taxOf_128 rfl rfl) ?_
      refine Cv.go (pc' := 130) (go_iconst dX6_taxOf_129 ic_1) ?_
      refine Cv.go (pc' := 132) (go_iload (i := 6) (x := a6) dX6_taxOf_130 rfl) ?_
      refine Cv.go (pc' := 133) (go_ishl dX6_taxOf_132) ?_
      refine Cv.go (pc' := 134) (go_ior dX6_taxOf_133) ?_
      refine Cv.namI fun x10 ex10 => ?_
      refine Cv.go (pc' := 135) (ls' := [.ref 40, .int a1, .int a2, .int x10, .int a4, .int a5, .int a6, .int a7, .null]) (go_istore_n dX6_taxOf_134 rfl (by decide) rfl) ?_
      refine Cv.go (pc' := 137) (go_iload (i := 4) (x := a4) dX6_taxOf_135 rfl) ?_
      refine Cv.go (pc' := 138) (go_aload_n (i := 0) (x := 40) dX6_taxOf_137 rfl rfl) ?_
      refine Cv.go (pc' := 140) (go_iload (i := 6) (x := a6) dX6_taxOf_138 rfl) ?_
      refine Cv.bnd fun v11 m12 e13 => ?_
      have C14 := kc_X6_worthOf m a6 hS v11 m12 e13
      refine Cv.go (pc' := 143) (st' := [.int v11, .int a4]) (go_callV (As := [.int a6]) (st := [.int a4]) C14 (by decide) ok_X6_worthOf li_X6_worthOf ls_X6_worthOf lm_X6_116 cls6 (sx_k40 hS) rfl rfl (Nat.le_of_ble_eq_true rfl) dX6_taxOf_140) ?_
      have zm12 := C14.1.2.2 rfl
      have hS := hS.sh zm12
      refine Cv.go (pc' := 144) (go_iadd dX6_taxOf_143) ?_
      refine Cv.namI fun x15 ex15 => ?_
      refine Cv.go (pc' := 146) (ls' := [.ref 40, .int a1, .int a2, .int x10, .int x15, .int a5, .int a6, .int a7, .null]) (go_istore dX6_taxOf_144 (by decide) rfl) ?_
      refine Cv.go (pc' := 149) (ls' := [.ref 40, .int a1, .int a2, .int x10, .int x15, .int (a5 + (1 : Int32)), .int a6, .int a7, .null]) (go_iinc (x := a5) (v := a5 + (1 : Int32)) dX6_taxOf_146 rfl rfl (by decide) rfl) ?_
      refine Cv.go (pc' := 43) (go_goto (tgt := 43) dX6_taxOf_149 rfl) ?_
      refine Cv.weak (ls' := [.ref 40, .int a1, .int a2, .int x10, .int x15, .int (a5 + (1 : Int32)), .null, .null, .null]) (⟨Or.inr rfl, ⟨Or.inr rfl, ⟨Or.inr rfl, ⟨Or.inr rfl, ⟨Or.inr rfl, ⟨Or.inr rfl, ⟨Or.inl rfl, ⟨Or.inl rfl, ⟨Or.inr rfl, True.intro⟩⟩⟩⟩⟩⟩⟩⟩⟩) ?_
      exact hK43 m12 a1 a2 x10 x15 (a5 + (1 : Int32)) hS
    · refine Cv.go (pc' := 66) (go_icmp_ge_f 128 dX6_taxOf_63 rfl h9) ?_
      refine Cv.go (pc' := 67) (go_aload_n (i := 0) (x := 40) dX6_taxOf_66 rfl rfl) ?_
      refine Cv.go (pc' := 69) (go_iload (i := 7) (x := a7) dX6_taxOf_67 rfl) ?_
      refine Cv.go (pc' := 70) (go_iload_n (i := 1) (x := a1) dX6_taxOf_69 rfl rfl) ?_
      refine Cv.bnd fun v16 m17 e18 => ?_
      have C19 := kc_X6_isOf m a7 a1 hS v16 m17 e18
      refine Cv.go (pc' := 73) (st' := [.int (bz v16)]) (go_callV (As := [.int a7, .int a1]) (st := []) C19 (by decide) ok_X6_isOf li_X6_isOf ls_X6_isOf lm_X6_335 cls6 (sx_k40 hS) rfl rfl (Nat.le_of_ble_eq_true rfl) dX6_taxOf_70) ?_
      have zm17 := C19.1.2.2 rfl
      have hS := hS.sh zm17
      refine Cv.ite (fun h20 => ?_) (fun h20 => ?_)
      · refine Cv.go (pc' := 89) (go_if_eq_t (tgt := 89) dX6_taxOf_73 rfl h20) ?_
        exact c_X6_taxOf_89 K43 hK43 (F_X6_taxOf_57 K43 n) ih m17 a1 a2 a3 a4 a5 a6 a7 hS
      · refine Cv.go (pc' := 76) (go_if_eq_f 89 dX6_taxOf_73 rfl h20) ?_
        refine Cv.go (pc' := 77) (go_iload_n (i := 3) (x := a3) dX6_taxOf_76 rfl rfl) ?_
        refine Cv.go (pc' := 79) (go_iload (i := 7) (x := a7) dX6_taxOf_77 rfl) ?_
        refine Cv.go (pc' := 80) (go_ishr dX6_taxOf_79) ?_
        refine Cv.go (pc' := 81) (go_iconst dX6_taxOf_80 ic_1) ?_
        refine Cv.go (pc' := 82) (go_iand dX6_taxOf_81) ?_
        refine Cv.ite (fun h21 => ?_) (fun h21 => ?_)
        · refine Cv.go (pc' := 85) (go_if_ne_f 89 dX6_taxOf_82 rfl h21) ?_
          refine Cv.go (pc' := 86) (go_iconst dX6_taxOf_85 ic_1) ?_
          refine Cv.go (pc' := 90) (go_goto (tgt := 90) dX6_taxOf_86 rfl) ?_
          exact c_X6_taxOf_90 K43 hK43 (F_X6_taxOf_57 K43 n) ih m17 a1 a2 a3 a4 a5 a6 a7 (1 : Int32) hS
        · refine Cv.go (pc' := 89) (go_if_ne_t (tgt := 89) dX6_taxOf_82 rfl h21) ?_
          exact c_X6_taxOf_89 K43 hK43 (F_X6_taxOf_57 K43 n) ih m17 a1 a2 a3 a4 a5 a6 a7 hS
theorem c_X6_taxOf_43 : ∀ n, ∀ (m : Mem) (a1 : Int32) (a2 : Int32) (a3 : Int32) (a4 : Int32) (a5 : Int32) (hS : ShM m), Cv true (cX6_taxOf, 9, RX6, 45, ((false, none) : IK)) .ireturn eI (F_X6_taxOf_43 n m a1 a2 a3 a4 a5) m 43 [.ref 40, .int a1, .int a2, .int a3, .int a4, .int a5, .null, .null, .null] [] := by
  intro n
  induction n with
  | zero => intro m a1 a2 a3 a4 a5 hS; exact Cv.no
  | succ n ih =>
    intro m a1 a2 a3 a4 a5 hS
    unfold F_X6_taxOf_43
    refine Cv.go (pc' := 45) (go_iload (i := 5) (x := a5) dX6_taxOf_43 rfl) ?_
    refine Cv.go (pc' := 46) (go_iload_n (i := 2) (x := a2) dX6_taxOf_45 rfl rfl) ?_
    refine Cv.go (pc' := 47) (go_iconst dX6_taxOf_46 ic_2) ?_
    refine Cv.go (pc' := 48) (go_idiv dX6_taxOf_47 (by decide)) ?_
    refine Cv.ite (fun h8 => ?_) (fun h8 => ?_)
    · refine Cv.go (pc' := 152) (go_icmp_ge_t (tgt := 152) dX6_taxOf_48 rfl h8) ?_
      refine Cv.go (pc' := 154) (go_iload (i := 4) (x := a4) dX6_taxOf_152 rfl) ?_
      exact Cv.ret dX6_taxOf_154 rfl
    · refine Cv.go (pc' := 51) (go_icmp_ge_f 152 dX6_taxOf_48 rfl h8) ?_
      refine Cv.go (pc' := 52) (go_iconst dX6_taxOf_51 ic_n1) ?_
      refine Cv.go (pc' := 54) (ls' := [.ref 40, .int a1, .int a2, .int a3, .int a4, .int a5, .int (-1 : Int32), .null, .null]) (go_istore dX6_taxOf_52 (by decide) rfl) ?_
      refine Cv.go (pc' := 55) (go_iconst dX6_taxOf_54 ic_0) ?_
      refine Cv.go (pc' := 57) (ls' := [.ref 40, .int a1, .int a2, .int a3, .int a4, .int a5, .int (-1 : Int32), .int (0 : Int32), .null]) (go_istore dX6_taxOf_55 (by decide) rfl) ?_
      exact c_X6_taxOf_57 (F_X6_taxOf_43 n) ih FU m a1 a2 a3 a4 a5 (-1 : Int32) (0 : Int32) hS
theorem c_X6_taxOf_4 : ∀ n, ∀ (m : Mem) (a1 : Int32) (a2 : Int32) (a3 : Int32) (hS : ShM m), Cv true (cX6_taxOf, 9, RX6, 45, ((false, none) : IK)) .ireturn eI (F_X6_taxOf_4 n m a1 a2 a3) m 4 [.ref 40, .int a1, .int a2, .int a3, .null, .null, .null, .null, .null] [] := by
  intro n
  induction n with
  | zero => intro m a1 a2 a3 hS; exact Cv.no
  | succ n ih =>
    intro m a1 a2 a3 hS
    unfold F_X6_taxOf_4
    refine Cv.go (pc' := 5) (go_iload_n (i := 3) (x := a3) dX6_taxOf_4 rfl rfl) ?_
    refine Cv.go (pc' := 6) (go_aload_n (i := 0) (x := 40) dX6_taxOf_5 rfl rfl) ?_
    refine Cv.go (pc' := 9) (go_getI (i := 10) cls6 (sx_k40 hS) (by decide) rfl lf_X6_64 (by decide) dX6_taxOf_6) ?_
    refine Cv.ite (fun h1 => ?_) (fun h1 => ?_)
    · refine Cv.go (pc' := 35) (go_icmp_ge_t (tgt := 35) dX6_taxOf_9 rfl h1) ?_
      refine Cv.go (pc' := 36) (go_iconst dX6_taxOf_35 ic_0) ?_
      refine Cv.go (pc' := 37) (ls' := [.ref 40, .int a1, .int a2, .int (0 : Int32), .null, .null, .null, .null, .null]) (go_istore_n dX6_taxOf_36 rfl (by decide) rfl) ?_
      refine Cv.go (pc' := 38) (go_iconst dX6_taxOf_37 ic_0) ?_
      refine Cv.go (pc' := 40) (ls' := [.ref 40, .int a1, .int a2, .int (0 : Int32), .int (0 : Int32), .null, .null, .null, .null]) (go_istore dX6_taxOf_38 (by decide) rfl) ?_
      refine Cv.go (pc' := 41) (go_iconst dX6_taxOf_40 ic_0) ?_
      refine Cv.go (pc' := 43) (ls' := [.ref 40, .int a1, .int a2, .int (0 : Int32), .int (0 : Int32), .int (0 : Int32), .null, .null, .null]) (go_istore dX6_taxOf_41 (by decide) rfl) ?_
      exact c_X6_taxOf_43 FU m a1 a2 (0 : Int32) (0 : Int32) (0 : Int32) hS
    · refine Cv.go (pc' := 12) (go_icmp_ge_f 35 dX6_taxOf_9 rfl h1) ?_
      refine Cv.go (pc' := 13) (go_iload_n (i := 2) (x := a2) dX6_taxOf_12 rfl rfl) ?_
      refine Cv.go (pc' := 14) (go_aload_n (i := 0) (x := 40) dX6_taxOf_13 rfl rfl) ?_
      refine Cv.go (pc' := 15) (go_iload_n (i := 3) (x := a3) dX6_taxOf_14 rfl rfl) ?_
      refine Cv.go (pc' := 16) (go_iload_n (i := 1) (x := a1) dX6_taxOf_15 rfl rfl) ?_
      refine Cv.bnd fun v2 m3 e4 => ?_
      have C5 := kc_X6_isOf m a3 a1 hS v2 m3 e4
      refine Cv.go (pc' := 19) (st' := [.int (bz v2), .int a2]) (go_callV (As := [.int a3, .int a1]) (st := [.int a2]) C5 (by decide) ok_X6_isOf li_X6_isOf ls_X6_isOf lm_X6_335 cls6 (sx_k40 hS) rfl rfl (Nat.le_of_ble_eq_true rfl) dX6_taxOf_16) ?_
      have zm3 := C5.1.2.2 rfl
      have hS := hS.sh zm3
      refine Cv.ite (fun h6 => ?_) (fun h6 => ?_)
      · refine Cv.go (pc' := 26) (go_if_eq_t (tgt := 26) dX6_taxOf_19 rfl h6) ?_
        refine Cv.go (pc' := 27) (go_iconst dX6_taxOf_26 ic_0) ?_
        refine Cv.weak (ls' := [.ref 40, .int a1, .null, .int a3, .null, .null, .null, .null, .null]) (⟨Or.inr rfl, ⟨Or.inr rfl, ⟨Or.inl rfl, ⟨Or.inr rfl, ⟨Or.inr rfl, ⟨Or.inr rfl, ⟨Or.inr rfl, ⟨Or.inr rfl, ⟨Or.inr rfl, True.intro⟩⟩⟩⟩⟩⟩⟩⟩⟩) ?_
        exact c_X6_taxOf_27 (F_X6_taxOf_4 n) ih m3 a1 a3 (0 : Int32) a2 hS
      · refine Cv.go (pc' := 22) (go_if_eq_f 26 dX6_taxOf_19 rfl h6) ?_
        refine Cv.go (pc' := 23) (go_iconst dX6_taxOf_22 ic_1) ?_
        refine Cv.go (pc' := 27) (go_goto (tgt := 27) dX6_taxOf_23 rfl) ?_
        refine Cv.weak (ls' := [.ref 40, .int a1, .null, .int a3, .null, .null, .null, .null, .null]) (⟨Or.inr rfl, ⟨Or.inr rfl, ⟨Or.inl rfl, ⟨Or.inr rfl, ⟨Or.inr rfl, ⟨Or.inr rfl, ⟨Or.inr rfl, ⟨Or.inr rfl, ⟨Or.inr rfl, True.intro⟩⟩⟩⟩⟩⟩⟩⟩⟩) ?_
        exact c_X6_taxOf_27 (F_X6_taxOf_4 n) ih m3 a1 a3 (1 : Int32) a2 hS
theorem kc_X6_taxOf (m : Mem) (a1 : Int32) (hS : ShM m) : ∀ v mE, F_X6_taxOf m a1 = some (v, mE) → Con true kX6_taxOf 45 [.ref 40, .int a1] m (eI v) mE := by
  refine Con.of (ini := false) (ls0 := [.ref 40, .int a1, .null, .null, .null, .null, .null, .null, .null]) (ri := .ireturn) (by decide) (by intro z; cases z) rfl (Nat.le_of_ble_eq_true rfl) (fun v mE _ => RetTy.i) ?_
  show Cv true (cX6_taxOf, 9, RX6, 45, ((false, none) : IK)) .ireturn eI (F_X6_taxOf m a1) m 0 [.ref 40, .int a1, .null, .null, .null, .null, .null, .null, .null] []
  unfold F_X6_taxOf
  refine Cv.go (pc' := 1) (go_iconst dX6_taxOf_0 ic_0) ?_
  refine Cv.go (pc' := 2) (ls' := [.ref 40, .int a1, .int (0 : Int32), .null, .null, .null, .null, .null, .null]) (go_istore_n dX6_taxOf_1 rfl (by decide) rfl) ?_
  refine Cv.go (pc' := 3) (go_iconst dX6_taxOf_2 ic_0) ?_
  refine Cv.go (pc' := 4) (ls' := [.ref 40, .int a1, .int (0 : Int32), .int (0 : Int32), .null, .null, .null, .null, .null]) (go_istore_n dX6_taxOf_3 rfl (by decide) rfl) ?_
  exact c_X6_taxOf_4 FU m a1 (0 : Int32) (0 : Int32) hS
