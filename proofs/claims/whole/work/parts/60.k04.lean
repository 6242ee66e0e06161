theorem c_X5_run_27 : ∀ (m : Mem) (hS : ShX m), Cv true (cX5_run, 4, RX5, 6, ((false, none) : IK)) .ireturn eI (F_X5_run_27 m) m 27 [.null, .null, .null, .null] [] := by
  intro m hS
  unfold F_X5_run_27
  refine Cv.go (pc' := 29) (go_ldc dX5_run_27 lc_X5_110) ?_
  exact Cv.ret dX5_run_29 rfl
theorem kc_X5_run (m : Mem) (a1 : Int32) (a2 : Int32) (a3 : Int32) (hS : ShX m) : ∀ v mE, F_X5_run m a1 a2 a3 = some (v, mE) → Con true kX5_run 6 [.ref 0, .int a1, .int a2, .int a3] m (eI v) mE := by
  refine Con.of (ini := false) (ls0 := [.ref 0, .int a1, .int a2, .int a3]) (ri := .ireturn) (by decide) (by intro z; cases z) rfl (Nat.le_of_ble_eq_true rfl) (fun v mE _ => RetTy.i) ?_
  show Cv true (cX5_run, 4, RX5, 6, ((false, none) : IK)) .ireturn eI (F_X5_run m a1 a2 a3) m 0 [.ref 0, .int a1, .int a2, .int a3] []
  unfold F_X5_run
  refine Cv.go (pc' := 1) (go_iconst dX5_run_0 ic_5) ?_
  refine Cv.go (pc' := 2) (go_iload_n (i := 1) (x := a1) dX5_run_1 rfl rfl) ?_
  refine Cv.bnd fun v1 m2 e3 => ?_
  have C4 := kc_X5_isOf m (5 : Int32) a1 v1 m2 e3
  refine Cv.go (pc' := 5) (st' := [.int (bz v1)]) (go_callS (As := [.int (5 : Int32), .int a1]) (st := []) C4 (by decide) ok_X5_isOf lt_X5_isOf lm_X5_99 rfl rfl (Nat.le_of_ble_eq_true rfl) dX5_run_2) ?_
  have zm2 := C4.1.2.2 rfl
  have hS := hS.sh zm2
  refine Cv.ite (fun h5 => ?_) (fun h5 => ?_)
  · refine Cv.go (pc' := 27) (go_if_eq_t (tgt := 27) dX5_run_5 rfl h5) ?_
    refine Cv.weak (ls' := [.null, .null, .null, .null]) (⟨Or.inl rfl, ⟨Or.inl rfl, ⟨Or.inl rfl, ⟨Or.inl rfl, True.intro⟩⟩⟩⟩) ?_
    exact c_X5_run_27 m2 hS
  · refine Cv.go (pc' := 8) (go_if_eq_f 27 dX5_run_5 rfl h5) ?_
    refine Cv.go (pc' := 9) (go_iload_n (i := 2) (x := a2) dX5_run_8 rfl rfl) ?_
    refine Cv.go (pc' := 10) (go_iconst dX5_run_9 ic_0) ?_
    refine Cv.go (pc' := 12) (go_bipush dX5_run_10 ib_40) ?_
    refine Cv.bnd fun v6 m7 e8 => ?_
    have C9 := kc_X5_isBetween m2 a2 (0 : Int32) (40 : Int32) v6 m7 e8
    refine Cv.go (pc' := 15) (st' := [.int (bz v6)]) (go_callS (As := [.int a2, .int (0 : Int32), .int (40 : Int32)]) (st := []) C9 (by decide) ok_X5_isBetween lt_X5_isBetween lm_X5_73 rfl rfl (Nat.le_of_ble_eq_true rfl) dX5_run_12) ?_
    have zm7 := C9.1.2.2 rfl
    have hS := hS.sh zm7
    refine Cv.ite (fun h10 => ?_) (fun h10 => ?_)
    · refine Cv.go (pc' := 27) (go_if_eq_t (tgt := 27) dX5_run_15 rfl h10) ?_
      refine Cv.weak (ls' := [.null, .null, .null, .null]) (⟨Or.inl rfl, ⟨Or.inl rfl, ⟨Or.inl rfl, ⟨Or.inl rfl, True.intro⟩⟩⟩⟩) ?_
      exact c_X5_run_27 m7 hS
    · refine Cv.go (pc' := 18) (go_if_eq_f 27 dX5_run_15 rfl h10) ?_
      refine Cv.go (pc' := 19) (go_iload_n (i := 3) (x := a3) dX5_run_18 rfl rfl) ?_
      refine Cv.go (pc' := 20) (go_iconst dX5_run_19 ic_0) ?_
      refine Cv.go (pc' := 21) (go_iconst dX5_run_20 ic_1) ?_
      refine Cv.bnd fun v11 m12 e13 => ?_
      have C14 := kc_X5_isBetween m7 a3 (0 : Int32) (1 : Int32) v11 m12 e13
      refine Cv.go (pc' := 24) (st' := [.int (bz v11)]) (go_callS (As := [.int a3, .int (0 : Int32), .int (1 : Int32)]) (st := []) C14 (by decide) ok_X5_isBetween lt_X5_isBetween lm_X5_73 rfl rfl (Nat.le_of_ble_eq_true rfl) dX5_run_21) ?_
      have zm12 := C14.1.2.2 rfl
      have hS := hS.sh zm12
      refine Cv.ite (fun h15 => ?_) (fun h15 => ?_)
      · refine Cv.go (pc' := 27) (go_if_ne_f 30 dX5_run_24 rfl h15) ?_
        refine Cv.weak (ls' := [.null, .null, .null, .null]) (⟨Or.inl rfl, ⟨Or.inl rfl, ⟨Or.inl rfl, ⟨Or.inl rfl, True.intro⟩⟩⟩⟩) ?_
        exact c_X5_run_27 m12 hS
      · refine Cv.go (pc' := 30) (go_if_ne_t (tgt := 30) dX5_run_24 rfl h15) ?_
        refine Cv.go (pc' := 31) (go_iload_n (i := 3) (x := a3) dX5_run_30 rfl rfl) ?_
        refine Cv.ite (fun h16 => ?_) (fun h16 => ?_)
        · refine Cv.go (pc' := 34) (go_if_ne_f 43 dX5_run_31 rfl h16) ?_
          refine Cv.go (pc' := 35) (go_aload_n (i := 0) (x := 0) dX5_run_34 rfl rfl) ?_
          refine Cv.go (pc' := 36) (go_iload_n (i := 1) (x := a1) dX5_run_35 rfl rfl) ?_
          refine Cv.go (pc' := 37) (go_iload_n (i := 2) (x := a2) dX5_run_36 rfl rfl) ?_
          refine Cv.bnd fun v25 m26 e27 => ?_
          have C28 := kc_X5_richBehind m12 a1 a2 hS v25 m26 e27
          refine Cv.go (pc' := 40) (st' := [.int v25]) (go_callV (As := [.int a1, .int a2]) (st := []) C28 (by decide) ok_X5_richBehind li_X5_richBehind ls_X5_richBehind lm_X5_169 cls5 (sx_k0 hS) rfl rfl (Nat.le_of_ble_eq_true rfl) dX5_run_37) ?_
          have zm26 := C28.1.2.2 rfl
          have hS := hS.sh zm26
          refine Cv.go (pc' := 52) (go_goto (tgt := 52) dX5_run_40 rfl) ?_
          exact Cv.ret dX5_run_52 rfl
        · refine Cv.go (pc' := 43) (go_if_ne_t (tgt := 43) dX5_run_31 rfl h16) ?_
          refine Cv.go (pc' := 44) (go_aload_n (i := 0) (x := 0) dX5_run_43 rfl rfl) ?_
          refine Cv.go (pc' := 45) (go_iload_n (i := 1) (x := a1) dX5_run_44 rfl rfl) ?_
          refine Cv.go (pc' := 46) (go_iload_n (i := 2) (x := a2) dX5_run_45 rfl rfl) ?_
          refine Cv.bnd fun v17 m18 e19 => ?_
          have C20 := kc_X5_purseBehind m12 a1 a2 hS v17 m18 e19
          refine Cv.go (pc' := 49) (st' := [.int v17]) (go_callV (As := [.int a1, .int a2]) (st := []) C20 (by decide) ok_X5_purseBehind li_X5_purseBehind ls_X5_purseBehind lm_X5_172 cls5 (sx_k0 hS) rfl rfl (Nat.le_of_ble_eq_true rfl) dX5_run_46) ?_
          have zm18 := C20.1.2.2 rfl
          have hS := hS.sh zm18
          refine Cv.bnd fun v21 m22 e23 => ?_
          have C24 := kc_J6_bitCount_0f7a4 m18 v17 v21 m22 e23
          refine Cv.go (pc' := 52) (st' := [.int v21]) (go_callS (As := [.int v17]) (st := []) C24 (by decide) ok_J6_bitCount_0f7a4 lt_J6_bitCount_0f7a4 lm_X5_164 rfl rfl (Nat.le_of_ble_eq_true rfl) dX5_run_49) ?_
          have zm22 := C24.1.2.2 rfl
          have hS := hS.sh zm22
          exact Cv.ret dX5_run_52 rfl
theorem c_X5_overSet_100 (K16 : Mem → Int32 → Int32 → Int32 → Int32 → Int32 → Option (Int32 × Mem)) (hK16 : ∀ (m : Mem) (a2 : Int32) (a3 : Int32) (a4 : Int32) (a5 : Int32) (a6 : Int32) (hS : ShX m), Cv true (cX5_overSet, 9, RX5, 5, ((false, none) : IK)) .ireturn eI (K16 m a2 a3 a4 a5 a6) m 16 [.ref 0, .null, .int a2, .int a3, .int a4, .int a5, .int a6, .null, .null] []) : ∀ (m : Mem) (a2 : Int32) (a3 : Int32) (a4 : Int32) (a5 : Int32) (a6 : Int32) (hS : ShX m), Cv true (cX5_overSet, 9, RX5, 5, ((false, none) : IK)) .ireturn eI (F_X5_overSet_100 K16 m a2 a3 a4 a5 a6) m 100 [.ref 0, .null, .int a2, .int a3, .int a4, .int a5, .int a6, .null, .null] [] := by
  intro m a2 a3 a4 a5 a6 hS
  unfold F_X5_overSet_100
  refine Cv.go (pc' := 103) (ls' := [.ref 0, .null, .int a2, .int a3, .int a4, .int a5, .int (a6 + (1 : Int32)), .null, .null]) (go_iinc (x := a6) (v := a6 + (1 : Int32)) dX5_overSet_100 rfl rfl (by decide) rfl) ?_
  refine Cv.go (pc' := 16) (go_goto (tgt := 16) dX5_overSet_103 rfl) ?_
  exact hK16 m a2 a3 a4 a5 (a6 + (1 : Int32)) hS
theorem c_X5_overSet_79 (K16 : Mem → Int32 → Int32 → Int32 → Int32 → Int32 → Option (Int32 × Mem)) (hK16 : ∀ (m : Mem) (a2 : Int32) (a3 : Int32) (a4 : Int32) (a5 : Int32) (a6 : Int32) (hS : ShX m), Cv true (cX5_overSet, 9, RX5, 5, ((false, none) : IK)) .ireturn eI (K16 m a2 a3 a4 a5 a6) m 16 [.ref 0, .null, .int a2, .int a3, .int a4, .int a5, .int a6, .null, .null] []) : ∀ (m : Mem) (a2 : Int32) (a3 : Int32) (a4 : Int32) (a5 : Int32) (a6 : Int32) (a7 : Int32) (s0 : Int32) (hS : ShX m), Cv true (cX5_overSet, 9, RX5, 5, ((false, none) : IK)) .ireturn eI (F_X5_overSet_79 K16 m a2 a3 a4 a5 a6 a7 s0) m 79 [.ref 0, .null, .int a2, .int a3, .int a4, .int a5, .int a6, .int a7, .null] [.int s0] := by
  intro m a2 a3 a4 a5 a6 a7 s0 hS
  unfold F_X5_overSet_79
  refine Cv.go (pc' := 81) (ls' := [.ref 0, .null, .int a2, .int a3, .int a4, .int a5, .int a6, .int a7, .int s0]) (go_istore dX5_overSet_79 (by decide) rfl) ?_
  refine Cv.go (pc' := 83) (go_iload (i := 7) (x := a7) dX5_overSet_81 rfl) ?_
  refine Cv.go (pc' := 84) (go_iload_n (i := 2) (x := a2) dX5_overSet_83 rfl rfl) ?_
  refine Cv.ite (fun h23 => ?_) (fun h23 => ?_)
  · refine Cv.go (pc' := 100) (go_icmp_lt_t (tgt := 100) dX5_overSet_84 rfl h23) ?_
    refine Cv.weak (ls' := [.ref 0, .null, .int a2, .int a3, .int a4, .int a5, .int a6, .null, .null]) (⟨Or.inr rfl, ⟨Or.inr rfl, ⟨Or.inr rfl, ⟨Or.inr rfl, ⟨Or.inr rfl, ⟨Or.inr rfl, ⟨Or.inr rfl, ⟨Or.inl rfl, ⟨Or.inl rfl, True.intro⟩⟩⟩⟩⟩⟩⟩⟩⟩) ?_
    exact c_X5_overSet_100 K16 hK16 m a2 a3 a4 a5 a6 hS
  · refine Cv.go (pc' := 87) (go_icmp_lt_f 100 dX5_overSet_84 rfl h23) ?_
    refine Cv.go (pc' := 89) (go_iload (i := 8) (x := s0) dX5_overSet_87 rfl) ?_
    refine Cv.ite (fun h24 => ?_) (fun h24 => ?_)
    · refine Cv.go (pc' := 100) (go_if_eq_t (tgt := 100) dX5_overSet_89 rfl h24) ?_
      refine Cv.weak (ls' := [.ref 0, .null, .int a2, .int a3, .int a4, .int a5, .int a6, .null, .null]) (⟨Or.inr rfl, ⟨Or.inr rfl, ⟨Or.inr rfl, ⟨Or.inr rfl, ⟨Or.inr rfl, ⟨Or.inr rfl, ⟨Or.inr rfl, ⟨Or.inl rfl, ⟨Or.inl rfl, True.intro⟩⟩⟩⟩⟩⟩⟩⟩⟩) ?_
      exact c_X5_overSet_100 K16 hK16 m a2 a3 a4 a5 a6 hS
    · refine Cv.go (pc' := 92) (go_if_eq_f 100 dX5_overSet_89 rfl h24) ?_
      refine Cv.go (pc' := 94) (go_iload (i := 6) (x := a6) dX5_overSet_92 rfl) ?_
      refine Cv.go (pc' := 96) (ls' := [.ref 0, .null, .int a2, .int a3, .int a6, .int a5, .int a6, .int a7, .int s0]) (go_istore dX5_overSet_94 (by decide) rfl) ?_
      refine Cv.go (pc' := 98) (go_iload (i := 7) (x := a7) dX5_overSet_96 rfl) ?_
      refine Cv.go (pc' := 100) (ls' := [.ref 0, .null, .int a2, .int a3, .int a6, .int a7, .int a6, .int a7, .int s0]) (go_istore dX5_overSet_98 (by decide) rfl) ?_
      refine Cv.weak (ls' := [.ref 0, .null, .int a2, .int a3, .int a6, .int a7, .int a6, .null, .null]) (⟨Or.inr rfl, ⟨Or.inr rfl, ⟨Or.inr rfl, ⟨Or.inr rfl, ⟨Or.inr rfl, ⟨Or.inr rfl, ⟨Or.inr rfl, ⟨Or.inl rfl, ⟨Or.inl rfl, True.intro⟩⟩⟩⟩⟩⟩⟩⟩⟩) ?_
      exact c_X5_overSet_100 K16 hK16 m a2 a3 a6 a7 a6 hS
theorem c_X5_overSet_74 (K16 : Mem → Int32 → Int32 → Int32 → Int32 → Int32 → Option (Int32 × Mem)) (hK16 : ∀ (m : Mem) (a2 : Int32) (a3 : Int32) (a4 : Int32) (a5 : Int32) (a6 : Int32) (hS : ShX m), Cv true (cX5_overSet, 9, RX5, 5, ((false, none) : IK)) .ireturn eI (K16 m a2 a3 a4 a5 a6) m 16 [.ref 0, .null, .int a2, .int a3, .int a4, .int a5, .int a6, .null, .null] []) : ∀ (m : Mem) (a2 : Int32) (a3 : Int32) (a4 : Int32) (a5 : Int32) (a6 : Int32) (a7 : Int32) (hS : ShX m), Cv true (cX5_overSet, 9, RX5, 5, ((false, none) : IK)) .ireturn eI (F_X5_overSet_74 K16 m a2 a3 a4 a5 a6 a7) m 74 [.ref 0, .null, .int a2, .int a3, .int a4, .int a5, .int a6, .int a7, .null] [] := by
  intro m a2 a3 a4 a5 a6 a7 hS
  unfold F_X5_overSet_74
  refine Cv.go (pc' := 75) (go_iconst dX5_overSet_74 ic_1) ?_
  refine Cv.go (pc' := 79) (go_goto (tgt := 79) dX5_overSet_75 rfl) ?_
  exact c_X5_overSet_79 K16 hK16 m a2 a3 a4 a5 a6 a7 (1 : Int32) hS
theorem c_X5_overSet_78 (K16 : Mem → Int32 → Int32 → Int32 → Int32 → Int32 → Option (Int32 × Mem)) (hK16 : ∀ (m : Mem) (a2 : Int32) (a3 : Int32) (a4 : Int32) (a5 : Int32) (a6 : Int32) (hS : ShX m), Cv true (cX5_overSet, 9, RX5, 5, ((false, none) : IK)) .ireturn eI (K16 m a2 a3 a4 a5 a6) m 16 [.ref 0, .null, .int a2, .int a3, .int a4, .int a5, .int a6, .null, .null] []) : ∀ (m : Mem) (a2 : Int32) (a3 : Int32) (a4 : Int32) (a5 : Int32) (a6 : Int32) (a7 : Int32) (hS : ShX m), Cv true (cX5_overSet, 9, RX5, 5, ((false, none) : IK)) .ireturn eI (F_X5_overSet_78 K16 m a2 a3 a4 a5 a6 a7) m 78 [.ref 0, .null, .int a2, .int a3, .int a4, .int a5, .int a6, .int a7, .null] [] := by
  intro m a2 a3 a4 a5 a6 a7 hS
  unfold F_X5_overSet_78
  refine Cv.go (pc' := 79) (go_iconst dX5_overSet_78 ic_0) ?_
  exact c_X5_overSet_79 K16 hK16 m a2 a3 a4 a5 a6 a7 (0 : Int32) hS
theorem c_X5_overSet_16 : ∀ n, ∀ (m : Mem) (a2 : Int32) (a3 : Int32) (a4 : Int32) (a5 : Int32) (a6 : Int32) (hS : ShX m), Cv true (cX5_overSet, 9, RX5, 5, ((false, none) : IK)) .ireturn eI (F_X5_overSet_16 n m a2 a3 a4 a5 a6) m 16 [.ref 0, .null, .int a2, .int a3, .int a4, .int a5, .int a6, .null, .null] [] := by
  intro n
  induction n with
  | zero => intro m a2 a3 a4 a5 a6 hS; exact Cv.no
  | succ n ih =>
    intro m a2 a3 a4 a5 a6 hS
    unfold F_X5_overSet_16
    refine Cv.go (pc' := 18) (go_iload (i := 6) (x := a6) dX5_overSet_16 rfl) ?_
    refine Cv.go (pc' := 21) (go_sipush dX5_overSet_18 is_256) ?_
    refine Cv.ite (fun h5 => ?_) (fun h5 => ?_)
    · refine Cv.go (pc' := 106) (go_icmp_ge_t (tgt := 106) dX5_overSet_21 rfl h5) ?_
      refine Cv.go (pc' := 108) (go_iload (i := 4) (x := a4) dX5_overSet_106 rfl) ?_
      exact Cv.ret dX5_overSet_108 rfl
    · refine Cv.go (pc' := 24) (go_icmp_ge_f 106 dX5_overSet_21 rfl h5) ?_
      refine Cv.go (pc' := 26) (go_iload (i := 6) (x := a6) dX5_overSet_24 rfl) ?_
      refine Cv.go (pc' := 27) (go_iload_n (i := 3) (x := a3) dX5_overSet_26 rfl rfl) ?_
      refine Cv.go (pc' := 28) (go_iconst dX5_overSet_27 ic_n1) ?_
      refine Cv.go (pc' := 29) (go_ixor dX5_overSet_28) ?_
      refine Cv.go (pc' := 30) (go_iand dX5_overSet_29) ?_
      refine Cv.ite (fun h6 => ?_) (fun h6 => ?_)
      · refine Cv.go (pc' := 33) (go_if_ne_f 100 dX5_overSet_30 rfl h6) ?_
        refine Cv.go (pc' := 34) (go_aload_n (i := 0) (x := 0) dX5_overSet_33 rfl rfl) ?_
        refine Cv.go (pc' := 36) (go_iload (i := 6) (x := a6) dX5_overSet_34 rfl) ?_
        refine Cv.bnd fun v7 m8 e9 => ?_
        have C10 := kc_X5_valuesOf m a6 hS v7 m8 e9
        refine Cv.go (pc' := 39) (st' := [.int v7]) (go_callV (As := [.int a6]) (st := []) C10 (by decide) ok_X5_valuesOf li_X5_valuesOf ls_X5_valuesOf lm_X5_175 cls5 (sx_k0 hS) rfl rfl (Nat.le_of_ble_eq_true rfl) dX5_overSet_36) ?_
        have zm8 := C10.1.2.2 rfl
        have hS := hS.sh zm8
        refine Cv.go (pc' := 41) (ls' := [.ref 0, .null, .int a2, .int a3, .int a4, .int a5, .int a6, .int v7, .null]) (go_istore dX5_overSet_39 (by decide) rfl) ?_
        refine Cv.go (pc' := 43) (go_iload (i := 4) (x := a4) dX5_overSet_41 rfl) ?_
        refine Cv.go (pc' := 44) (go_iconst dX5_overSet_43 ic_n1) ?_
        refine Cv.ite (fun h11 => ?_) (fun h11 => ?_)
        · refine Cv.go (pc' := 74) (go_icmp_eq_t (tgt := 74) dX5_overSet_44 rfl h11) ?_
          exact c_X5_overSet_74 (F_X5_overSet_16 n) ih m8 a2 a3 a4 a5 a6 v7 hS
        · refine Cv.go (pc' := 47) (go_icmp_eq_f 74 dX5_overSet_44 rfl h11) ?_
          refine Cv.go (pc' := 49) (go_iload (i := 7) (x := v7) dX5_overSet_47 rfl) ?_
          refine Cv.go (pc' := 51) (go_iload (i := 5) (x := a5) dX5_overSet_49 rfl) ?_
          refine Cv.ite (fun h12 => ?_) (fun h12 => ?_)
          · refine Cv.go (pc' := 74) (go_icmp_lt_t (tgt := 74) dX5_overSet_51 rfl h12) ?_
            exact c_X5_overSet_74 (F_X5_overSet_16 n) ih m8 a2 a3 a4 a5 a6 v7 hS
          · refine Cv.go (pc' := 54) (go_icmp_lt_f 74 dX5_overSet_51 rfl h12) ?_
            refine Cv.go (pc' := 56) (go_iload (i := 7) (x := v7) dX5_overSet_54 rfl) ?_
            refine Cv.go (pc' := 58) (go_iload (i := 5) (x := a5) dX5_overSet_56 rfl) ?_
            refine Cv.ite (fun h13 => ?_) (fun h13 => ?_)
            · refine Cv.go (pc' := 61) (go_icmp_ne_f 78 dX5_overSet_58 rfl h13) ?_
              refine Cv.go (pc' := 63) (go_iload (i := 6) (x := a6) dX5_overSet_61 rfl) ?_
              refine Cv.bnd fun v14 m15 e16 => ?_
              have C17 := kc_J6_bitCount_0f7a4 m8 a6 v14 m15 e16
              refine Cv.go (pc' := 66) (st' := [.int v14]) (go_callS (As := [.int a6]) (st := []) C17 (by decide) ok_J6_bitCount_0f7a4 lt_J6_bitCount_0f7a4 lm_X5_164 rfl rfl (Nat.le_of_ble_eq_true rfl) dX5_overSet_63) ?_
              have zm15 := C17.1.2.2 rfl
              have hS := hS.sh zm15
              refine Cv.go (pc' := 68) (go_iload (i := 4) (x := a4) dX5_overSet_66 rfl) ?_
              refine Cv.bnd fun v18 m19 e20 => ?_
              have C21 := kc_J6_bitCount_0f7a4 m15 a4 v18 m19 e20
              refine Cv.go (pc' := 71) (st' := [.int v18, .int v14]) (go_callS (As := [.int a4]) (st := [.int v14]) C21 (by decide) ok_J6_bitCount_0f7a4 lt_J6_bitCount_0f7a4 lm_X5_164 rfl rfl (Nat.le_of_ble_eq_true rfl) dX5_overSet_68) ?_
              have zm19 := C21.1.2.2 rfl
              have hS := hS.sh zm19
              refine Cv.ite (fun h22 => ?_) (fun h22 => ?_)
              · refine Cv.go (pc' := 78) (go_icmp_ge_t (tgt := 78) dX5_overSet_71 rfl h22) ?_
                exact c_X5_overSet_78 (F_X5_overSet_16 n) ih m19 a2 a3 a4 a5 a6 v7 hS
              · refine Cv.go (pc' := 74) (go_icmp_ge_f 78 dX5_overSet_71 rfl h22) ?_
                exact c_X5_overSet_74 (F_X5_overSet_16 n) ih m19 a2 a3 a4 a5 a6 v7 hS
            · refine Cv.go (pc' := 78) (go_icmp_ne_t (tgt := 78) dX5_overSet_58 rfl h13) ?_
              exact c_X5_overSet_78 (F_X5_overSet_16 n) ih m8 a2 a3 a4 a5 a6 v7 hS
      · refine Cv.go (pc' := 100) (go_if_ne_t (tgt := 100) dX5_overSet_30 rfl h6) ?_
        exact c_X5_overSet_100 (F_X5_overSet_16 n) ih m a2 a3 a4 a5 a6 hS
theorem kc_X5_overSet (m : Mem) (a1 : Int32) (a2 : Int32) (hS : ShX m) : ∀ v mE, F_X5_overSet m a1 a2 = some (v, mE) → Con true kX5_overSet 5 [.ref 0, .int a1, .int a2] m (eI v) mE := by
  refine Con.of (ini := false) (ls0 := [.ref 0, .int a1, .int a2, .null, .null, .null, .null, .null, .null]) (ri := .ireturn) (by decide) (by intro z; cases z) rfl (Nat.le_of_ble_eq_true rfl) (fun v mE _ => RetTy.i) ?_
  show Cv true (cX5_overSet, 9, RX5, 5, ((false, none) : IK)) .ireturn eI (F_X5_overSet m a1 a2) m 0 [.ref 0, .int a1, .int a2, .null, .null, .null, .null, .null, .null] []
  unfold F_X5_overSet
  refine Cv.go (pc' := 1) (go_aload_n (i := 0) (x := 0) dX5_overSet_0 rfl rfl) ?_
  refine Cv.go (pc' := 2) (go_iload_n (i := 1) (x := a1) dX5_overSet_1 rfl rfl) ?_
  refine Cv.go (pc' := 3) (go_iconst dX5_overSet_2 ic_0) ?_
  refine Cv.bnd fun v1 m2 e3 => ?_
  have C4 := kc_X5_purseBehind m a1 (0 : Int32) hS v1 m2 e3
  refine Cv.go (pc' := 6) (st' := [.int v1]) (go_callV (As := [.int a1, .int (0 : Int32)]) (st := []) C4 (by decide) ok_X5_purseBehind li_X5_purseBehind ls_X5_purseBehind lm_X5_172 cls5 (sx_k0 hS) rfl rfl (Nat.le_of_ble_eq_true rfl) dX5_overSet_3) ?_
  have zm2 := C4.1.2.2 rfl
  have hS := hS.sh zm2
  refine Cv.go (pc' := 7) (ls' := [.ref 0, .int a1, .int a2, .int v1, .null, .null, .null, .null, .null]) (go_istore_n dX5_overSet_6 rfl (by decide) rfl) ?_
  refine Cv.go (pc' := 8) (go_iconst dX5_overSet_7 ic_n1) ?_
  refine Cv.go (pc' := 10) (ls' := [.ref 0, .int a1, .int a2, .int v1, .int (-1 : Int32), .null, .null, .null, .null]) (go_istore dX5_overSet_8 (by decide) rfl) ?_
  refine Cv.go (pc' := 11) (go_iconst dX5_overSet_10 ic_0) ?_
  refine Cv.go (pc' := 13) (ls' := [.ref 0, .int a1, .int a2, .int v1, .int (-1 : Int32), .int (0 : Int32), .null, .null, .null]) (go_istore dX5_overSet_11 (by decide) rfl) ?_
  refine Cv.go (pc' := 14) (go_iconst dX5_overSet_13 ic_0) ?_
  refine Cv.go (pc' := 16) (ls' := [.ref 0, .int a1, .int a2, .int v1, .int (-1 : Int32), .int (0 : Int32), .int (0 : Int32), .null, .null]) (go_istore dX5_overSet_14 (by decide) rfl) ?_
  refine Cv.weak (ls' := [.ref 0, .null, .int a2, .int v1, .int (-1 : Int32), .int (0 : Int32), .int (0 : Int32), .null, .null]) (⟨Or.inr rfl, ⟨Or.inl rfl, ⟨Or.inr rfl, ⟨Or.inr rfl, ⟨Or.inr rfl, ⟨Or.inr rfl, ⟨Or.inr rfl, ⟨Or.inr rfl, ⟨Or.inr rfl, True.intro⟩⟩⟩⟩⟩⟩⟩⟩⟩) ?_
  exact c_X5_overSet_16 FU m2 a2 v1 (-1 : Int32) (0 : Int32) (0 : Int32) hS
theorem c_X5_exact_51 : ∀ (m : Mem) (a3 : Int32) (s0 : Int32) (hS : ShX m), Cv true (cX5_exact, 5, RX5, 6, ((false, none) : IK)) .ireturn eI (F_X5_exact_51 m a3 s0) m 51 [.ref 0, .null, .null, .int a3, .null] [.int s0] := by
  intro m a3 s0 hS
  unfold F_X5_exact_51
  refine Cv.go (pc' := 53) (ls' := [.ref 0, .null, .null, .int a3, .int s0]) (go_istore dX5_exact_51 (by decide) rfl) ?_
  refine Cv.go (pc' := 55) (go_iload (i := 4) (x := s0) dX5_exact_53 rfl) ?_
  refine Cv.go (pc' := 56) (go_iconst dX5_exact_55 ic_n1) ?_
  refine Cv.ite (fun h25 => ?_) (fun h25 => ?_)
  · refine Cv.go (pc' := 59) (go_icmp_ne_f 61 dX5_exact_56 rfl h25) ?_
    refine Cv.go (pc' := 60) (go_iconst dX5_exact_59 ic_n1) ?_
    exact Cv.ret dX5_exact_60 rfl
  · refine Cv.go (pc' := 61) (go_icmp_ne_t (tgt := 61) dX5_exact_56 rfl h25) ?_
    refine Cv.go (pc' := 62) (go_iload_n (i := 3) (x := a3) dX5_exact_61 rfl rfl) ?_
    refine Cv.go (pc' := 63) (go_iconst dX5_exact_62 ic_1) ?_
    refine Cv.ite (fun h26 => ?_) (fun h26 => ?_)
    · refine Cv.go (pc' := 66) (go_icmp_ne_f 72 dX5_exact_63 rfl h26) ?_
      refine Cv.go (pc' := 68) (go_iload (i := 4) (x := s0) dX5_exact_66 rfl) ?_
      refine Cv.bnd fun v32 m33 e34 => ?_
      have C35 := kc_J6_bitCount_0f7a4 m s0 v32 m33 e34
      refine Cv.go (pc' := 71) (st' := [.int v32]) (go_callS (As := [.int s0]) (st := []) C35 (by decide) ok_J6_bitCount_0f7a4 lt_J6_bitCount_0f7a4 lm_X5_164 rfl rfl (Nat.le_of_ble_eq_true rfl) dX5_exact_68) ?_
      have zm33 := C35.1.2.2 rfl
      have hS := hS.sh zm33
      exact Cv.ret dX5_exact_71 rfl
    · refine Cv.go (pc' := 72) (go_icmp_ne_t (tgt := 72) dX5_exact_63 rfl h26) ?_
      refine Cv.go (pc' := 73) (go_iload_n (i := 3) (x := a3) dX5_exact_72 rfl rfl) ?_
      refine Cv.go (pc' := 74) (go_iconst dX5_exact_73 ic_3) ?_
      refine Cv.ite (fun h27 => ?_) (fun h27 => ?_)
      · refine Cv.go (pc' := 77) (go_icmp_ne_f 86 dX5_exact_74 rfl h27) ?_
        refine Cv.go (pc' := 78) (go_aload_n (i := 0) (x := 0) dX5_exact_77 rfl rfl) ?_
        refine Cv.go (pc' := 80) (go_iload (i := 4) (x := s0) dX5_exact_78 rfl) ?_
        refine Cv.bnd fun v28 m29 e30 => ?_
        have C31 := kc_X5_valuesOf m s0 hS v28 m29 e30
        refine Cv.go (pc' := 83) (st' := [.int v28]) (go_callV (As := [.int s0]) (st := []) C31 (by decide) ok_X5_valuesOf li_X5_valuesOf ls_X5_valuesOf lm_X5_175 cls5 (sx_k0 hS) rfl rfl (Nat.le_of_ble_eq_true rfl) dX5_exact_80) ?_
        have zm29 := C31.1.2.2 rfl
        have hS := hS.sh zm29
        refine Cv.go (pc' := 88) (go_goto (tgt := 88) dX5_exact_83 rfl) ?_
        exact Cv.ret dX5_exact_88 rfl
      · refine Cv.go (pc' := 86) (go_icmp_ne_t (tgt := 86) dX5_exact_74 rfl h27) ?_
        refine Cv.go (pc' := 88) (go_iload (i := 4) (x := s0) dX5_exact_86 rfl) ?_
        exact Cv.ret dX5_exact_88 rfl
theorem kc_X5_exact (m : Mem) (a1 : Int32) (a2 : Int32) (a3 : Int32) (hS : ShX m) : ∀ v mE, F_X5_exact m a1 a2 a3 = some (v, mE) → Con true kX5_exact 6 [.ref 0, .int a1, .int a2, .int a3] m (eI v) mE := by
  refine Con.of (ini := false) (ls0 := [.ref 0, .int a1, .int a2, .int a3, .null]) (ri := .ireturn) (by decide) (by intro z; cases z) rfl (Nat.le_of_ble_eq_true rfl) (fun v mE _ => RetTy.i) ?_
  show Cv true (cX5_exact, 5, RX5, 6, ((false, none) : IK)) .ireturn eI (F_X5_exact m a1 a2 a3) m 0 [.ref 0, .int a1, .int a2, .int a3, .null] []
  unfold F_X5_exact
  refine Cv.go (pc' := 1) (go_iconst dX5_exact_0 ic_5) ?_
  refine Cv.go (pc' := 2) (go_iload_n (i := 1) (x := a1) dX5_exact_1 rfl rfl) ?_
  refine Cv.bnd fun v1 m2 e3 => ?_
  have C4 := kc_X5_isOf m (5 : Int32) a1 v1 m2 e3
  refine Cv.go (pc' := 5) (st' := [.int (bz v1)]) (go_callS (As := [.int (5 : Int32), .int a1]) (st := []) C4 (by decide) ok_X5_isOf lt_X5_isOf lm_X5_99 rfl rfl (Nat.le_of_ble_eq_true rfl) dX5_exact_2) ?_
  have zm2 := C4.1.2.2 rfl
  have hS := hS.sh zm2
  refine Cv.ite (fun h5 => ?_) (fun h5 => ?_)
  · refine Cv.go (pc' := 28) (go_if_eq_t (tgt := 28) dX5_exact_5 rfl h5) ?_
    refine Cv.go (pc' := 30) (go_bipush dX5_exact_28 ib_n2) ?_
    exact Cv.ret dX5_exact_30 rfl
  · refine Cv.go (pc' := 8) (go_if_eq_f 28 dX5_exact_5 rfl h5) ?_
    refine Cv.go (pc' := 9) (go_iload_n (i := 2) (x := a2) dX5_exact_8 rfl rfl) ?_
    refine Cv.go (pc' := 10) (go_iconst dX5_exact_9 ic_0) ?_
    refine Cv.go (pc' := 13) (go_sipush dX5_exact_10 is_999) ?_
    refine Cv.bnd fun v6 m7 e8 => ?_
    have C9 := kc_X5_isBetween m2 a2 (0 : Int32) (999 : Int32) v6 m7 e8
    refine Cv.go (pc' := 16) (st' := [.int (bz v6)]) (go_callS (As := [.int a2, .int (0 : Int32), .int (999 : Int32)]) (st := []) C9 (by decide) ok_X5_isBetween lt_X5_isBetween lm_X5_73 rfl rfl (Nat.le_of_ble_eq_true rfl) dX5_exact_13) ?_
    have zm7 := C9.1.2.2 rfl
    have hS := hS.sh zm7
    refine Cv.ite (fun h10 => ?_) (fun h10 => ?_)
    · refine Cv.go (pc' := 28) (go_if_eq_t (tgt := 28) dX5_exact_16 rfl h10) ?_
      refine Cv.go (pc' := 30) (go_bipush dX5_exact_28 ib_n2) ?_
      exact Cv.ret dX5_exact_30 rfl
    · refine Cv.go (pc' := 19) (go_if_eq_f 28 dX5_exact_16 rfl h10) ?_
      refine Cv.go (pc' := 20) (go_iload_n (i := 3) (x := a3) dX5_exact_19 rfl rfl) ?_
      refine Cv.go (pc' := 21) (go_iconst dX5_exact_20 ic_0) ?_
      refine Cv.go (pc' := 22) (go_iconst dX5_exact_21 ic_3) ?_
      refine Cv.bnd fun v11 m12 e13 => ?_
      have C14 := kc_X5_isBetween m7 a3 (0 : Int32) (3 : Int32) v11 m12 e13
      refine Cv.go (pc' := 25) (st' := [.int (bz v11)]) (go_callS (As := [.int a3, .int (0 : Int32), .int (3 : Int32)]) (st := []) C14 (by decide) ok_X5_isBetween lt_X5_isBetween lm_X5_73 rfl rfl (Nat.le_of_ble_eq_true rfl) dX5_exact_22) ?_
      have zm12 := C14.1.2.2 rfl
      have hS := hS.sh zm12
      refine Cv.ite (fun h15 => ?_) (fun h15 => ?_)
      · refine Cv.go (pc' := 28) (go_if_ne_f 31 dX5_exact_25 rfl h15) ?_
        refine Cv.go (pc' := 30) (go_bipush dX5_exact_28 ib_n2) ?_
        exact Cv.ret dX5_exact_30 rfl
      · refine Cv.go (pc' := 31) (go_if_ne_t (tgt := 31) dX5_exact_25 rfl h15) ?_
        refine Cv.go (pc' := 32) (go_iload_n (i := 3) (x := a3) dX5_exact_31 rfl rfl) ?_
        refine Cv.go (pc' := 33) (go_iconst dX5_exact_32 ic_2) ?_
        refine Cv.ite (fun h16 => ?_) (fun h16 => ?_)
        · refine Cv.go (pc' := 45) (go_icmp_ge_t (tgt := 45) dX5_exact_33 rfl h16) ?_
          refine Cv.go (pc' := 46) (go_aload_n (i := 0) (x := 0) dX5_exact_45 rfl rfl) ?_
          refine Cv.go (pc' := 47) (go_iload_n (i := 1) (x := a1) dX5_exact_46 rfl rfl) ?_
          refine Cv.go (pc' := 48) (go_iload_n (i := 2) (x := a2) dX5_exact_47 rfl rfl) ?_
          refine Cv.bnd fun v17 m18 e19 => ?_
          have C20 := kc_X5_overSet m12 a1 a2 hS v17 m18 e19
          refine Cv.go (pc' := 51) (st' := [.int v17]) (go_callV (As := [.int a1, .int a2]) (st := []) C20 (by decide) ok_X5_overSet li_X5_overSet ls_X5_overSet lm_X5_190 cls5 (sx_k0 hS) rfl rfl (Nat.le_of_ble_eq_true rfl) dX5_exact_48) ?_
          have zm18 := C20.1.2.2 rfl
          have hS := hS.sh zm18
          refine Cv.weak (ls' := [.ref 0, .null, .null, .int a3, .null]) (⟨Or.inr rfl, ⟨Or.inl rfl, ⟨Or.inl rfl, ⟨Or.inr rfl, ⟨Or.inr rfl, True.intro⟩⟩⟩⟩⟩) ?_
          exact c_X5_exact_51 m18 a3 v17 hS
        · refine Cv.go (pc' := 36) (go_icmp_ge_f 45 dX5_exact_33 rfl h16) ?_
          refine Cv.go (pc' := 37) (go_aload_n (i := 0) (x := 0) dX5_exact_36 rfl rfl) ?_
          refine Cv.go (pc' := 38) (go_iload_n (i := 1) (x := a1) dX5_exact_37 rfl rfl) ?_
          refine Cv.go (pc' := 39) (go_iload_n (i := 2) (x := a2) dX5_exact_38 rfl rfl) ?_
          refine Cv.bnd fun v21 m22 e23 => ?_
          have C24 := kc_X5_exactSet m12 a1 a2 hS v21 m22 e23
          refine Cv.go (pc' := 42) (st' := [.int v21]) (go_callV (As := [.int a1, .int a2]) (st := []) C24 (by decide) ok_X5_exactSet li_X5_exactSet ls_X5_exactSet lm_X5_157 cls5 (sx_k0 hS) rfl rfl (Nat.le_of_ble_eq_true rfl) dX5_exact_39) ?_
          have zm22 := C24.1.2.2 rfl
          have hS := hS.sh zm22
          refine Cv.go (pc' := 51) (go_goto (tgt := 51) dX5_exact_42 rfl) ?_
          refine Cv.weak (ls' := [.ref 0, .null, .null, .int a3, .null]) (⟨Or.inr rfl, ⟨Or.inl rfl, ⟨Or.inl rfl, ⟨Or.inr rfl, ⟨Or.inr rfl, True.intro⟩⟩⟩⟩⟩) ?_
          exact c_X5_exact_51 m22 a3 v21 hS
theorem c_X5_worthsWithout_29 (K4 : Mem → Int32 → Int32 → Int32 → Option (Int32 × Mem)) (hK4 : ∀ (m : Mem) (a1 : Int32) (a2 : Int32) (a3 : Int32) (hS : ShX m), Cv true (cX5_worthsWithout, 4, RX5, 1, ((false, none) : IK)) .ireturn eI (K4 m a1 a2 a3) m 4 [.ref 0, .int a1, .int a2, .int a3] []) : ∀ (m : Mem) (a1 : Int32) (a2 : Int32) (a3 : Int32) (hS : ShX m), Cv true (cX5_worthsWithout, 4, RX5, 1, ((false, none) : IK)) .ireturn eI (F_X5_worthsWithout_29 K4 m a1 a2 a3) m 29 [.ref 0, .int a1, .int a2, .int a3] [] := by
  intro m a1 a2 a3 hS
  unfold F_X5_worthsWithout_29
  refine Cv.go (pc' := 32) (ls' := [.ref 0, .int a1, .int a2, .int (a3 + (1 : Int32))]) (go_iinc (x := a3) (v := a3 + (1 : Int32)) dX5_worthsWithout_29 rfl rfl (by decide) rfl) ?_
  refine Cv.go (pc' := 4) (go_goto (tgt := 4) dX5_worthsWithout_32 rfl) ?_
  exact hK4 m a1 a2 (a3 + (1 : Int32)) hS
theorem c_X5_worthsWithout_4 : ∀ n, ∀ (m : Mem) (a1 : Int32) (a2 : Int32) (a3 : Int32) (hS : ShX m), Cv true (cX5_worthsWithout, 4, RX5, 1, ((false, none) : IK)) .ireturn eI (F_X5_worthsWithout_4 n m a1 a2 a3) m 4 [.ref 0, .int a1, .int a2, .int a3] [] := by
  intro n
  induction n with
  | zero => intro m a1 a2 a3 hS; exact Cv.no
  | succ n ih =>
    intro m a1 a2 a3 hS
    unfold F_X5_worthsWithout_4
    refine Cv.go (pc' := 5) (go_iload_n (i := 3) (x := a3) dX5_worthsWithout_4 rfl rfl) ?_
    refine Cv.go (pc' := 6) (go_aload_n (i := 0) (x := 0) dX5_worthsWithout_5 rfl rfl) ?_
    refine Cv.go (pc' := 9) (go_getI (i := 2) cls5 (sx_k0 hS) (by decide) rfl lf_X5_103 (by decide) dX5_worthsWithout_6) ?_
    refine Cv.ite (fun h1 => ?_) (fun h1 => ?_)
    · refine Cv.go (pc' := 35) (go_icmp_ge_t (tgt := 35) dX5_worthsWithout_9 rfl h1) ?_
      refine Cv.go (pc' := 36) (go_iload_n (i := 2) (x := a2) dX5_worthsWithout_35 rfl rfl) ?_
      exact Cv.ret dX5_worthsWithout_36 rfl
    · refine Cv.go (pc' := 12) (go_icmp_ge_f 35 dX5_worthsWithout_9 rfl h1) ?_
      refine Cv.go (pc' := 13) (go_iload_n (i := 1) (x := a1) dX5_worthsWithout_12 rfl rfl) ?_
      refine Cv.go (pc' := 14) (go_iload_n (i := 3) (x := a3) dX5_worthsWithout_13 rfl rfl) ?_
      refine Cv.bnd fun v2 m3 e4 => ?_
      have C5 := kc_X5_holds m a1 a3 v2 m3 e4
      refine Cv.go (pc' := 17) (st' := [.int (bz v2)]) (go_callS (As := [.int a1, .int a3]) (st := []) C5 (by decide) ok_X5_holds lt_X5_holds lm_X5_161 rfl rfl (Nat.le_of_ble_eq_true rfl) dX5_worthsWithout_14) ?_
      have zm3 := C5.1.2.2 rfl
      have hS := hS.sh zm3
      refine Cv.ite (fun h6 => ?_) (fun h6 => ?_)
      · refine Cv.go (pc' := 20) (go_if_ne_f 29 dX5_worthsWithout_17 rfl h6) ?_
        refine Cv.go (pc' := 21) (go_iload_n (i := 2) (x := a2) dX5_worthsWithout_20 rfl rfl) ?_
        refine Cv.go (pc' := 22) (go_aload_n (i := 0) (x := 0) dX5_worthsWithout_21 rfl rfl) ?_
        refine Cv.go (pc' := 25) (go_getR (i := 10) cls5 (sx_k0 hS) (by decide) rfl lf_X5_46 (Or.inr ⟨_, rfl⟩) (sx_r0_10 hS) dX5_worthsWithout_22) ?_
        refine Cv.go (pc' := 26) (go_iload_n (i := 3) (x := a3) dX5_worthsWithout_25 rfl rfl) ?_
        refine Cv.gif fun g7 => ?_
        refine Cv.go (pc' := 27) (go_iaload (sx_k19 hS) g7 dX5_worthsWithout_26) ?_
        refine Cv.go (pc' := 28) (go_iadd dX5_worthsWithout_27) ?_
        refine Cv.namI fun x8 ex8 => ?_
        refine Cv.go (pc' := 29) (ls' := [.ref 0, .int a1, .int x8, .int a3]) (go_istore_n dX5_worthsWithout_28 rfl (by decide) rfl) ?_
        exact c_X5_worthsWithout_29 (F_X5_worthsWithout_4 n) ih m3 a1 x8 a3 hS
      · refine Cv.go (pc' := 29) (go_if_ne_t (tgt := 29) dX5_worthsWithout_17 rfl h6) ?_
        exact c_X5_worthsWithout_29 (F_X5_worthsWithout_4 n) ih m3 a1 a2 a3 hS
theorem kc_X5_worthsWithout (m : Mem) (a1 : Int32) (hS : ShX m) : ∀ v mE, F_X5_worthsWithout m a1 = some (v, mE) → Con true kX5_worthsWithout 1 [.ref 0, .int a1] m (eI v) mE := by
  refine Con.of (ini := false) (ls0 := [.ref 0, .int a1, .null, .null]) (ri := .ireturn) (by decide) (by intro z; cases z) rfl (Nat.le_of_ble_eq_true rfl) (fun v mE _ => RetTy.i) ?_
  show Cv true (cX5_worthsWithout, 4, RX5, 1, ((false, none) : IK)) .ireturn eI (F_X5_worthsWithout m a1) m 0 [.ref 0, .int a1, .null, .null] []
  unfold F_X5_worthsWithout
  refine Cv.go (pc' := 1) (go_iconst dX5_worthsWithout_0 ic_0) ?_
  refine Cv.go (pc' := 2) (ls' := [.ref 0, .int a1, .int (0 : Int32), .null]) (go_istore_n dX5_worthsWithout_1 rfl (by decide) rfl) ?_
  refine Cv.go (pc' := 3) (go_iconst dX5_worthsWithout_2 ic_0) ?_
  refine Cv.go (pc' := 4) (ls' := [.ref 0, .int a1, .int (0 : Int32), .int (0 : Int32)]) (go_istore_n dX5_worthsWithout_3 rfl (by decide) rfl) ?_
  exact c_X5_worthsWithout_4 FU m a1 (0 : Int32) (0 : Int32) hS
theorem c_X5_wiseSet_72 (K16 : Mem → Int32 → Int32 → Int32 → Int32 → Int32 → Option (Int32 × Mem)) (hK16 : ∀ (m : Mem) (a2 : Int32) (a3 : Int32) (a4 : Int32) (a5 : Int32) (a6 : Int32) (hS : ShX m), Cv true (cX5_wiseSet, 8, RX5, 5, ((false, none) : IK)) .ireturn eI (K16 m a2 a3 a4 a5 a6) m 16 [.ref 0, .null, .int a2, .int a3, .int a4, .int a5, .int a6, .null] []) : ∀ (m : Mem) (a2 : Int32) (a3 : Int32) (a4 : Int32) (a5 : Int32) (a6 : Int32) (hS : ShX m), Cv true (cX5_wiseSet, 8, RX5, 5, ((false, none) : IK)) .ireturn eI (F_X5_wiseSet_72 K16 m a2 a3 a4 a5 a6) m 72 [.ref 0, .null, .int a2, .int a3, .int a4, .int a5, .int a6, .null] [] := by
  intro m a2 a3 a4 a5 a6 hS
  unfold F_X5_wiseSet_72
  refine Cv.go (pc' := 75) (ls' := [.ref 0, .null, .int a2, .int a3, .int a4, .int a5, .int (a6 + (1 : Int32)), .null]) (go_iinc (x := a6) (v := a6 + (1 : Int32)) dX5_wiseSet_72 rfl rfl (by decide) rfl) ?_
  refine Cv.go (pc' := 16) (go_goto (tgt := 16) dX5_wiseSet_75 rfl) ?_
  exact hK16 m a2 a3 a4 a5 (a6 + (1 : Int32)) hS
theorem c_X5_wiseSet_64 (K16 : Mem → Int32 → Int32 → Int32 → Int32 → Int32 → Option (Int32 × Mem)) (hK16 : ∀ (m : Mem) (a2 : Int32) (a3 : Int32) (a4 : Int32) (a5 : Int32) (a6 : Int32) (hS : ShX m), Cv true (cX5_wiseSet, 8, RX5, 5, ((false, none) : IK)) .ireturn eI (K16 m a2 a3 a4 a5 a6) m 16 [.ref 0, .null, .int a2, .int a3, .int a4, .int a5, .int a6, .null] []) : ∀ (m : Mem) (a2 : Int32) (a3 : Int32) (a6 : Int32) (a7 : Int32) (hS : ShX m), Cv true (cX5_wiseSet, 8, RX5, 5, ((false, none) : IK)) .ireturn eI (F_X5_wiseSet_64 K16 m a2 a3 a6 a7) m 64 [.ref 0, .null, .int a2, .int a3, .null, .null, .int a6, .int a7] [] := by
  intro m a2 a3 a6 a7 hS
  unfold F_X5_wiseSet_64
  refine Cv.go (pc' := 66) (go_iload (i := 6) (x := a6) dX5_wiseSet_64 rfl) ?_
  refine Cv.go (pc' := 68) (ls' := [.ref 0, .null, .int a2, .int a3, .int a6, .null, .int a6, .int a7]) (go_istore dX5_wiseSet_66 (by decide) rfl) ?_
  refine Cv.go (pc' := 70) (go_iload (i := 7) (x := a7) dX5_wiseSet_68 rfl) ?_
  refine Cv.go (pc' := 72) (ls' := [.ref 0, .null, .int a2, .int a3, .int a6, .int a7, .int a6, .int a7]) (go_istore dX5_wiseSet_70 (by decide) rfl) ?_
  refine Cv.weak (ls' := [.ref 0, .null, .int a2, .int a3, .int a6, .int a7, .int a6, .null]) (⟨Or.inr rfl, ⟨Or.inr rfl, ⟨Or.inr rfl, ⟨Or.inr rfl, ⟨Or.inr rfl, ⟨Or.inr rfl, ⟨Or.inr rfl, ⟨Or.inl rfl, True.intro⟩⟩⟩⟩⟩⟩⟩⟩) ?_
  exact c_X5_wiseSet_72 K16 hK16 m a2 a3 a6 a7 a6 hS
theorem c_X5_wiseSet_16 : ∀ n, ∀ (m : Mem) (a2 : Int32) (a3 : Int32) (a4 : Int32) (a5 : Int32) (a6 : Int32) (hS : ShX m), Cv true (cX5_wiseSet, 8, RX5, 5, ((false, none) : IK)) .ireturn eI (F_X5_wiseSet_16 n m a2 a3 a4 a5 a6) m 16 [.ref 0, .null, .int a2, .int a3, .int a4, .int a5, .int a6, .null] [] := by
  intro n
  induction n with
  | zero => intro m a2 a3 a4 a5 a6 hS; exact Cv.no
  | succ n ih =>
    intro m a2 a3 a4 a5 a6 hS
    unfold F_X5_wiseSet_16
    refine Cv.go (pc' := 18) (go_iload (i := 6) (x := a6) dX5_wiseSet_16 rfl) ?_
    refine Cv.go (pc' := 21) (go_sipush dX5_wiseSet_18 is_256) ?_
    refine Cv.ite (fun h5 => ?_) (fun h5 => ?_)
    · refine Cv.go (pc' := 78) (go_icmp_ge_t (tgt := 78) dX5_wiseSet_21 rfl h5) ?_
      refine Cv.go (pc' := 80) (go_iload (i := 4) (x := a4) dX5_wiseSet_78 rfl) ?_
      exact Cv.ret dX5_wiseSet_80 rfl
    · refine Cv.go (pc' := 24) (go_icmp_ge_f 78 dX5_wiseSet_21 rfl h5) ?_
      refine Cv.go (pc' := 26) (go_iload (i := 6) (x := a6) dX5_wiseSet_24 rfl) ?_
      refine Cv.go (pc' := 27) (go_iload_n (i := 3) (x := a3) dX5_wiseSet_26 rfl rfl) ?_
      refine Cv.go (pc' := 28) (go_iconst dX5_wiseSet_27 ic_n1) ?_
      refine Cv.go (pc' := 29) (go_ixor dX5_wiseSet_28) ?_
      refine Cv.go (pc' := 30) (go_iand dX5_wiseSet_29) ?_
      refine Cv.ite (fun h6 => ?_) (fun h6 => ?_)
      · refine Cv.go (pc' := 33) (go_if_ne_f 72 dX5_wiseSet_30 rfl h6) ?_
        refine Cv.go (pc' := 34) (go_aload_n (i := 0) (x := 0) dX5_wiseSet_33 rfl rfl) ?_
        refine Cv.go (pc' := 36) (go_iload (i := 6) (x := a6) dX5_wiseSet_34 rfl) ?_
        refine Cv.bnd fun v7 m8 e9 => ?_
        have C10 := kc_X5_valuesOf m a6 hS v7 m8 e9
        refine Cv.go (pc' := 39) (st' := [.int v7]) (go_callV (As := [.int a6]) (st := []) C10 (by decide) ok_X5_valuesOf li_X5_valuesOf ls_X5_valuesOf lm_X5_175 cls5 (sx_k0 hS) rfl rfl (Nat.le_of_ble_eq_true rfl) dX5_wiseSet_36) ?_
        have zm8 := C10.1.2.2 rfl
        have hS := hS.sh zm8
        refine Cv.go (pc' := 40) (go_iload_n (i := 2) (x := a2) dX5_wiseSet_39 rfl rfl) ?_
        refine Cv.ite (fun h11 => ?_) (fun h11 => ?_)
        · refine Cv.go (pc' := 72) (go_icmp_lt_t (tgt := 72) dX5_wiseSet_40 rfl h11) ?_
          exact c_X5_wiseSet_72 (F_X5_wiseSet_16 n) ih m8 a2 a3 a4 a5 a6 hS
        · refine Cv.go (pc' := 43) (go_icmp_lt_f 72 dX5_wiseSet_40 rfl h11) ?_
          refine Cv.go (pc' := 44) (go_aload_n (i := 0) (x := 0) dX5_wiseSet_43 rfl rfl) ?_
          refine Cv.go (pc' := 46) (go_iload (i := 6) (x := a6) dX5_wiseSet_44 rfl) ?_
          refine Cv.bnd fun v12 m13 e14 => ?_
          have C15 := kc_X5_worthsWithout m8 a6 hS v12 m13 e14
          refine Cv.go (pc' := 49) (st' := [.int v12]) (go_callV (As := [.int a6]) (st := []) C15 (by decide) ok_X5_worthsWithout li_X5_worthsWithout ls_X5_worthsWithout lm_X5_199 cls5 (sx_k0 hS) rfl rfl (Nat.le_of_ble_eq_true rfl) dX5_wiseSet_46) ?_
          have zm13 := C15.1.2.2 rfl
          have hS := hS.sh zm13
          refine Cv.go (pc' := 51) (ls' := [.ref 0, .null, .int a2, .int a3, .int a4, .int a5, .int a6, .int v12]) (go_istore dX5_wiseSet_49 (by decide) rfl) ?_
          refine Cv.go (pc' := 53) (go_iload (i := 4) (x := a4) dX5_wiseSet_51 rfl) ?_
          refine Cv.go (pc' := 54) (go_iconst dX5_wiseSet_53 ic_n1) ?_
          refine Cv.ite (fun h16 => ?_) (fun h16 => ?_)
          · refine Cv.go (pc' := 64) (go_icmp_eq_t (tgt := 64) dX5_wiseSet_54 rfl h16) ?_
            refine Cv.weak (ls' := [.ref 0, .null, .int a2, .int a3, .null, .null, .int a6, .int v12]) (⟨Or.inr rfl, ⟨Or.inr rfl, ⟨Or.inr rfl, ⟨Or.inr rfl, ⟨Or.inl rfl, ⟨Or.inl rfl, ⟨Or.inr rfl, ⟨Or.inr rfl, True.intro⟩⟩⟩⟩⟩⟩⟩⟩) ?_
            exact c_X5_wiseSet_64 (F_X5_wiseSet_16 n) ih m13 a2 a3 a6 v12 hS
          · refine Cv.go (pc' := 57) (go_icmp_eq_f 64 dX5_wiseSet_54 rfl h16) ?_
            refine Cv.go (pc' := 59) (go_iload (i := 7) (x := v12) dX5_wiseSet_57 rfl) ?_
            refine Cv.go (pc' := 61) (go_iload (i := 5) (x := a5) dX5_wiseSet_59 rfl) ?_
            refine Cv.ite (fun h17 => ?_) (fun h17 => ?_)
            · refine Cv.go (pc' := 72) (go_icmp_le_t (tgt := 72) dX5_wiseSet_61 rfl h17) ?_
              refine Cv.weak (ls' := [.ref 0, .null, .int a2, .int a3, .int a4, .int a5, .int a6, .null]) (⟨Or.inr rfl, ⟨Or.inr rfl, ⟨Or.inr rfl, ⟨Or.inr rfl, ⟨Or.inr rfl, ⟨Or.inr rfl, ⟨Or.inr rfl, ⟨Or.inl rfl, True.intro⟩⟩⟩⟩⟩⟩⟩⟩) ?_
              exact c_X5_wiseSet_72 (F_X5_wiseSet_16 n) ih m13 a2 a3 a4 a5 a6 hS
            · refine Cv.go (pc' := 64) (go_icmp_le_f 72 dX5_wiseSet_61 rfl h17) ?_
              refine Cv.weak (ls' := [.ref 0, .null, .int a2, .int a3, .null, .null, .int a6, .int v12]) (⟨Or.inr rfl, ⟨Or.inr rfl, ⟨Or.inr rfl, ⟨Or.inr rfl, ⟨Or.inl rfl, ⟨Or.inl rfl, ⟨Or.inr rfl, ⟨Or.inr rfl, True.intro⟩⟩⟩⟩⟩⟩⟩⟩) ?_
              exact c_X5_wiseSet_64 (F_X5_wiseSet_16 n) ih m13 a2 a3 a6 v12 hS
      · refine Cv.go (pc' := 72) (go_if_ne_t (tgt := 72) dX5_wiseSet_30 rfl h6) ?_
        exact c_X5_wiseSet_72 (F_X5_wiseSet_16 n) ih m a2 a3 a4 a5 a6 hS
theorem kc_X5_wiseSet (m : Mem) (a1 : Int32) (a2 : Int32) (hS : ShX m) : ∀ v mE, F_X5_wiseSet m a1 a2 = some (v, mE) → Con true kX5_wiseSet 5 [.ref 0, .int a1, .int a2] m (eI v) mE := by
  refine Con.of (ini := false) (ls0 := [.ref 0, .int a1, .int a2, .null, .null, .null, .null, .null]) (ri := .ireturn) (by decide) (by intro z; cases z) rfl (Nat.le_of_ble_eq_true rfl) (fun v mE _ => RetTy.i) ?_
  show Cv true (cX5_wiseSet, 8, RX5, 5, ((false, none) : IK)) .ireturn eI (F_X5_wiseSet m a1 a2) m 0 [.ref 0, .int a1, .int a2, .null, .null, .null, .null, .null] []
  unfold F_X5_wiseSet
  refine Cv.go (pc' := 1) (go_aload_n (i := 0) (x := 0) dX5_wiseSet_0 rfl rfl) ?_
  refine Cv.go (pc' := 2) (go_iload_n (i := 1) (x := a1) dX5_wiseSet_1 rfl rfl) ?_
  refine Cv.go (pc' := 3) (go_iconst dX5_wiseSet_2 ic_0) ?_
  refine Cv.bnd fun v1 m2 e3 => ?_
  have C4 := kc_X5_purseBehind m a1 (0 : Int32) hS v1 m2 e3
  refine Cv.go (pc' := 6) (st' := [.int v1]) (go_callV (As := [.int a1, .int (0 : Int32)]) (st := []) C4 (by decide) ok_X5_purseBehind li_X5_purseBehind ls_X5_purseBehind lm_X5_172 cls5 (sx_k0 hS) rfl rfl (Nat.le_of_ble_eq_true rfl) dX5_wiseSet_3) ?_
  have zm2 := C4.1.2.2 rfl
  have hS := hS.sh zm2
  refine Cv.go (pc' := 7) (ls' := [.ref 0, .int a1, .int a2, .int v1, .null, .null, .null, .null]) (go_istore_n dX5_wiseSet_6 rfl (by decide) rfl) ?_
  refine Cv.go (pc' := 8) (go_iconst dX5_wiseSet_7 ic_n1) ?_
  refine Cv.go (pc' := 10) (ls' := [.ref 0, .int a1, .int a2, .int v1, .int (-1 : Int32), .null, .null, .null]) (go_istore dX5_wiseSet_8 (by decide) rfl) ?_
  refine Cv.go (pc' := 11) (go_iconst dX5_wiseSet_10 ic_0) ?_
  refine Cv.go (pc' := 13) (ls' := [.ref 0, .int a1, .int a2, .int v1, .int (-1 : Int32), .int (0 : Int32), .null, .null]) (go_istore dX5_wiseSet_11 (by decide) rfl) ?_
  refine Cv.go (pc' := 14) (go_iconst dX5_wiseSet_13 ic_0) ?_
  refine Cv.go (pc' := 16) (ls' := [.ref 0, .int a1, .int a2, .int v1, .int (-1 : Int32), .int (0 : Int32), .int (0 : Int32), .null]) (go_istore dX5_wiseSet_14 (by decide) rfl) ?_
  refine Cv.weak (ls' := [.ref 0, .null, .int a2, .int v1, .int (-1 : Int32), .int (0 : Int32), .int (0 : Int32), .null]) (⟨Or.inr rfl, ⟨Or.inl rfl, ⟨Or.inr rfl, ⟨Or.inr rfl, ⟨Or.inr rfl, ⟨Or.inr rfl, ⟨Or.inr rfl, ⟨Or.inr rfl, True.intro⟩⟩⟩⟩⟩⟩⟩⟩) ?_
  exact c_X5_wiseSet_16 FU m2 a2 v1 (-1 : Int32) (0 : Int32) (0 : Int32) hS
theorem kc_X5_wise (m : Mem) (a1 : Int32) (a2 : Int32) (a3 : Int32) (a4 : Int32) (hS : ShX m) : ∀ v mE, F_X5_wise m a1 a2 a3 a4 = some (v, mE) → Con true kX5_wise 6 [.ref 0, .int a1, .int a2, .int a3, .int a4] m (eI v) mE := by
  refine Con.of (ini := false) (ls0 := [.ref 0, .int a1, .int a2, .int a3, .int a4, .null]) (ri := .ireturn) (by decide) (by intro z; cases z) rfl (Nat.le_of_ble_eq_true rfl) (fun v mE _ => RetTy.i) ?_
  show Cv true (cX5_wise, 6, RX5, 6, ((false, none) : IK)) .ireturn eI (F_X5_wise m a1 a2 a3 a4) m 0 [.ref 0, .int a1, .int a2, .int a3, .int a4, .null] []
  unfold F_X5_wise
  refine Cv.go (pc' := 1) (go_iconst dX5_wise_0 ic_5) ?_
  refine Cv.go (pc' := 2) (go_iload_n (i := 1) (x := a1) dX5_wise_1 rfl rfl) ?_
  refine Cv.bnd fun v1 m2 e3 => ?_
  have C4 := kc_X5_isOf m (5 : Int32) a1 v1 m2 e3
  refine Cv.go (pc' := 5) (st' := [.int (bz v1)]) (go_callS (As := [.int (5 : Int32), .int a1]) (st := []) C4 (by decide) ok_X5_isOf lt_X5_isOf lm_X5_99 rfl rfl (Nat.le_of_ble_eq_true rfl) dX5_wise_2) ?_
  have zm2 := C4.1.2.2 rfl
  have hS := hS.sh zm2
  refine Cv.ite (fun h5 => ?_) (fun h5 => ?_)
  · refine Cv.go (pc' := 39) (go_if_eq_t (tgt := 39) dX5_wise_5 rfl h5) ?_
    refine Cv.go (pc' := 41) (go_bipush dX5_wise_39 ib_n2) ?_
    exact Cv.ret dX5_wise_41 rfl
  · refine Cv.go (pc' := 8) (go_if_eq_f 39 dX5_wise_5 rfl h5) ?_
    refine Cv.go (pc' := 9) (go_iload_n (i := 2) (x := a2) dX5_wise_8 rfl rfl) ?_
    refine Cv.go (pc' := 10) (go_iconst dX5_wise_9 ic_0) ?_
    refine Cv.go (pc' := 13) (go_sipush dX5_wise_10 is_999) ?_
    refine Cv.bnd fun v6 m7 e8 => ?_
    have C9 := kc_X5_isBetween m2 a2 (0 : Int32) (999 : Int32) v6 m7 e8
    refine Cv.go (pc' := 16) (st' := [.int (bz v6)]) (go_callS (As := [.int a2, .int (0 : Int32), .int (999 : Int32)]) (st := []) C9 (by decide) ok_X5_isBetween lt_X5_isBetween lm_X5_73 rfl rfl (Nat.le_of_ble_eq_true rfl) dX5_wise_13) ?_
    have zm7 := C9.1.2.2 rfl
    have hS := hS.sh zm7
    refine Cv.ite (fun h10 => ?_) (fun h10 => ?_)
    · refine Cv.go (pc' := 39) (go_if_eq_t (tgt := 39) dX5_wise_16 rfl h10) ?_
      refine Cv.go (pc' := 41) (go_bipush dX5_wise_39 ib_n2) ?_
      exact Cv.ret dX5_wise_41 rfl
    · refine Cv.go (pc' := 19) (go_if_eq_f 39 dX5_wise_16 rfl h10) ?_
      refine Cv.go (pc' := 20) (go_iload_n (i := 3) (x := a3) dX5_wise_19 rfl rfl) ?_
      refine Cv.go (pc' := 21) (go_iconst dX5_wise_20 ic_0) ?_
      refine Cv.go (pc' := 23) (go_bipush dX5_wise_21 ib_40) ?_
      refine Cv.bnd fun v11 m12 e13 => ?_
      have C14 := kc_X5_isBetween m7 a3 (0 : Int32) (40 : Int32) v11 m12 e13
      refine Cv.go (pc' := 26) (st' := [.int (bz v11)]) (go_callS (As := [.int a3, .int (0 : Int32), .int (40 : Int32)]) (st := []) C14 (by decide) ok_X5_isBetween lt_X5_isBetween lm_X5_73 rfl rfl (Nat.le_of_ble_eq_true rfl) dX5_wise_23) ?_
      have zm12 := C14.1.2.2 rfl
      have hS := hS.sh zm12
      refine Cv.ite (fun h15 => ?_) (fun h15 => ?_)
      · refine Cv.go (pc' := 39) (go_if_eq_t (tgt := 39) dX5_wise_26 rfl h15) ?_
        refine Cv.go (pc' := 41) (go_bipush dX5_wise_39 ib_n2) ?_
        exact Cv.ret dX5_wise_41 rfl
      · refine Cv.go (pc' := 29) (go_if_eq_f 39 dX5_wise_26 rfl h15) ?_
        refine Cv.go (pc' := 31) (go_iload (i := 4) (x := a4) dX5_wise_29 rfl) ?_
        refine Cv.go (pc' := 32) (go_iconst dX5_wise_31 ic_0) ?_
        refine Cv.go (pc' := 33) (go_iconst dX5_wise_32 ic_1) ?_
        refine Cv.bnd fun v16 m17 e18 => ?_
        have C19 := kc_X5_isBetween m12 a4 (0 : Int32) (1 : Int32) v16 m17 e18
        refine Cv.go (pc' := 36) (st' := [.int (bz v16)]) (go_callS (As := [.int a4, .int (0 : Int32), .int (1 : Int32)]) (st := []) C19 (by decide) ok_X5_isBetween lt_X5_isBetween lm_X5_73 rfl rfl (Nat.le_of_ble_eq_true rfl) dX5_wise_33) ?_
        have zm17 := C19.1.2.2 rfl
        have hS := hS.sh zm17
        refine Cv.ite (fun h20 => ?_) (fun h20 => ?_)
        · refine Cv.go (pc' := 39) (go_if_ne_f 42 dX5_wise_36 rfl h20) ?_
          refine Cv.go (pc' := 41) (go_bipush dX5_wise_39 ib_n2) ?_
          exact Cv.ret dX5_wise_41 rfl
        · refine Cv.go (pc' := 42) (go_if_ne_t (tgt := 42) dX5_wise_36 rfl h20) ?_
          refine Cv.go (pc' := 43) (go_aload_n (i := 0) (x := 0) dX5_wise_42 rfl rfl) ?_
          refine Cv.go (pc' := 44) (go_iload_n (i := 1) (x := a1) dX5_wise_43 rfl rfl) ?_
          refine Cv.go (pc' := 45) (go_iload_n (i := 3) (x := a3) dX5_wise_44 rfl rfl) ?_
          refine Cv.bnd fun v21 m22 e23 => ?_
          have C24 := kc_X5_layWorths m17 a1 a3 hS v21 m22 e23
          refine Cv.go (pc' := 48) (st' := []) (go_callV (As := [.int a1, .int a3]) (st := []) C24 (by decide) ok_X5_layWorths li_X5_layWorths ls_X5_layWorths lm_X5_193 cls5 (sx_k0 hS) rfl rfl (Nat.le_of_ble_eq_true rfl) dX5_wise_45) ?_
          have zm22 := C24.1.2.2 rfl
          have hS := hS.sh zm22
          refine Cv.go (pc' := 49) (go_aload_n (i := 0) (x := 0) dX5_wise_48 rfl rfl) ?_
          refine Cv.go (pc' := 50) (go_iload_n (i := 1) (x := a1) dX5_wise_49 rfl rfl) ?_
          refine Cv.go (pc' := 51) (go_iload_n (i := 2) (x := a2) dX5_wise_50 rfl rfl) ?_
          refine Cv.bnd fun v25 m26 e27 => ?_
          have C28 := kc_X5_wiseSet m22 a1 a2 hS v25 m26 e27
          refine Cv.go (pc' := 54) (st' := [.int v25]) (go_callV (As := [.int a1, .int a2]) (st := []) C28 (by decide) ok_X5_wiseSet li_X5_wiseSet ls_X5_wiseSet lm_X5_196 cls5 (sx_k0 hS) rfl rfl (Nat.le_of_ble_eq_true rfl) dX5_wise_51) ?_
          have zm26 := C28.1.2.2 rfl
          have hS := hS.sh zm26
          refine Cv.go (pc' := 56) (ls' := [.ref 0, .int a1, .int a2, .int a3, .int a4, .int v25]) (go_istore dX5_wise_54 (by decide) rfl) ?_
          refine Cv.go (pc' := 58) (go_iload (i := 4) (x := a4) dX5_wise_56 rfl) ?_
          refine Cv.ite (fun h29 => ?_) (fun h29 => ?_)
          · refine Cv.go (pc' := 61) (go_if_ne_f 64 dX5_wise_58 rfl h29) ?_
            refine Cv.go (pc' := 63) (go_iload (i := 5) (x := v25) dX5_wise_61 rfl) ?_
            exact Cv.ret dX5_wise_63 rfl
          · refine Cv.go (pc' := 64) (go_if_ne_t (tgt := 64) dX5_wise_58 rfl h29) ?_
            refine Cv.go (pc' := 66) (go_iload (i := 5) (x := v25) dX5_wise_64 rfl) ?_
            refine Cv.go (pc' := 67) (go_iconst dX5_wise_66 ic_n1) ?_
            refine Cv.ite (fun h30 => ?_) (fun h30 => ?_)
            · refine Cv.go (pc' := 70) (go_icmp_ne_f 75 dX5_wise_67 rfl h30) ?_
              refine Cv.go (pc' := 72) (go_ldc dX5_wise_70 lc_X5_110) ?_
              refine Cv.go (pc' := 81) (go_goto (tgt := 81) dX5_wise_72 rfl) ?_
              exact Cv.ret dX5_wise_81 rfl
            · refine Cv.go (pc' := 75) (go_icmp_ne_t (tgt := 75) dX5_wise_67 rfl h30) ?_
              refine Cv.go (pc' := 76) (go_aload_n (i := 0) (x := 0) dX5_wise_75 rfl rfl) ?_
              refine Cv.go (pc' := 78) (go_iload (i := 5) (x := v25) dX5_wise_76 rfl) ?_
              refine Cv.bnd fun v31 m32 e33 => ?_
              have C34 := kc_X5_worthsWithout m26 v25 hS v31 m32 e33
              refine Cv.go (pc' := 81) (st' := [.int v31]) (go_callV (As := [.int v25]) (st := []) C34 (by decide) ok_X5_worthsWithout li_X5_worthsWithout ls_X5_worthsWithout lm_X5_199 cls5 (sx_k0 hS) rfl rfl (Nat.le_of_ble_eq_true rfl) dX5_wise_78) ?_
              have zm32 := C34.1.2.2 rfl
              have hS := hS.sh zm32
              exact Cv.ret dX5_wise_81 rfl
theorem kc_X5_gainIfPaid (m : Mem) (a1 : Int32) (a2 : Int32) (hS : ShX m) : ∀ v mE, F_X5_gainIfPaid m a1 a2 = some (v, mE) → Con true kX5_gainIfPaid 4 [.ref 0, .int a1, .int a2] m (eI v) mE := by
  refine Con.of (ini := false) (ls0 := [.ref 0, .int a1, .int a2, .null, .null]) (ri := .ireturn) (by decide) (by intro z; cases z) rfl (Nat.le_of_ble_eq_true rfl) (fun v mE _ => RetTy.i) ?_
  show Cv true (cX5_gainIfPaid, 5, RX5, 4, ((false, none) : IK)) .ireturn eI (F_X5_gainIfPaid m a1 a2) m 0 [.ref 0, .int a1, .int a2, .null, .null] []
  unfold F_X5_gainIfPaid
  refine Cv.go (pc' := 1) (go_aload_n (i := 0) (x := 0) dX5_gainIfPaid_0 rfl rfl) ?_
  refine Cv.go (pc' := 2) (go_iload_n (i := 1) (x := a1) dX5_gainIfPaid_1 rfl rfl) ?_
  refine Cv.bnd fun v1 m2 e3 => ?_
  have C4 := kc_X5_isCoin m a1 hS v1 m2 e3
  refine Cv.go (pc' := 5) (st' := [.int (bz v1)]) (go_callV (As := [.int a1]) (st := []) C4 (by decide) ok_X5_isCoin li_X5_isCoin ls_X5_isCoin lm_X5_87 cls5 (sx_k0 hS) rfl rfl (Nat.le_of_ble_eq_true rfl) dX5_gainIfPaid_2) ?_
  have zm2 := C4.1.2.2 rfl
  have hS := hS.sh zm2
  refine Cv.ite (fun h5 => ?_) (fun h5 => ?_)
  · refine Cv.go (pc' := 8) (go_if_ne_f 10 dX5_gainIfPaid_5 rfl h5) ?_
    refine Cv.go (pc' := 9) (go_iconst dX5_gainIfPaid_8 ic_0) ?_
    exact Cv.ret dX5_gainIfPaid_9 rfl
  · refine Cv.go (pc' := 10) (go_if_ne_t (tgt := 10) dX5_gainIfPaid_5 rfl h5) ?_
    refine Cv.go (pc' := 11) (go_aload_n (i := 0) (x := 0) dX5_gainIfPaid_10 rfl rfl) ?_
    refine Cv.go (pc' := 14) (go_getR (i := 1) cls5 (sx_k0 hS) (by decide) rfl lf_X5_11 (Or.inr ⟨_, rfl⟩) (sx_r0_1 hS) dX5_gainIfPaid_11) ?_
    refine Cv.go (pc' := 15) (go_iload_n (i := 1) (x := a1) dX5_gainIfPaid_14 rfl rfl) ?_
    refine Cv.gif fun g6 => ?_
    refine Cv.go (pc' := 16) (go_aaload (t := 9) (t0 := 2) (sx_k1 hS) (by decide) (fun _ => rfl) g6 (sx_e1 hS (vp_lt g6)).1 dX5_gainIfPaid_15) ?_
    have hf7 := (sx_e1 hS (vp_lt g6)).2
    refine Cv.go (pc' := 17) (ls' := [.ref 0, .int a1, .int a2, .ref (20 + a1.toNatClampNeg), .null]) (go_astore_n dX5_gainIfPaid_16 rfl (by decide) rfl) ?_
    refine Cv.go (pc' := 18) (go_aload_n (i := 0) (x := 0) dX5_gainIfPaid_17 rfl rfl) ?_
    refine Cv.go (pc' := 21) (go_getR (i := 9) cls5 (sx_k0 hS) (by decide) rfl lf_X5_42 (Or.inl ⟨_, rfl⟩) (sx_r0_9 hS) dX5_gainIfPaid_18) ?_
    refine Cv.go (pc' := 22) (go_aload_n (i := 3) (x := 20 + a1.toNatClampNeg) dX5_gainIfPaid_21 rfl rfl) ?_
    refine Cv.bnd fun v8 m9 e10 => ?_
    have C11 := kc_X0_become m2 18 (20 + a1.toNatClampNeg) (sx_k18 hS) hf7 v8 m9 e10
    refine Cv.go (pc' := 25) (st' := []) (go_callV (As := [.ref (20 + a1.toNatClampNeg)]) (st := []) C11 (by decide) ok_X0_become li_X0_become ls_X0_become lm_X5_273 cls0 (sx_k18 hS) rfl rfl (Nat.le_of_ble_eq_true rfl) dX5_gainIfPaid_22) ?_
    have zm9 := C11.1.2.2 rfl
    have hS := hS.sh zm9
    have hf7 := sk zm9 hf7
    refine Cv.go (pc' := 26) (go_aload_n (i := 0) (x := 0) dX5_gainIfPaid_25 rfl rfl) ?_
    refine Cv.go (pc' := 29) (go_getR (i := 9) cls5 (sx_k0 hS) (by decide) rfl lf_X5_42 (Or.inl ⟨_, rfl⟩) (sx_r0_9 hS) dX5_gainIfPaid_26) ?_
    refine Cv.go (pc' := 30) (go_iload_n (i := 2) (x := a2) dX5_gainIfPaid_29 rfl rfl) ?_
    refine Cv.bnd fun v12 m13 e14 => ?_
    have C15 := kc_X0_goTo m9 18 a2 (sx_k18 hS) v12 m13 e14
    refine Cv.go (pc' := 33) (st' := []) (go_callV (As := [.int a2]) (st := []) C15 (by decide) ok_X0_goTo li_X0_goTo ls_X0_goTo lm_X5_151 cls0 (sx_k18 hS) rfl rfl (Nat.le_of_ble_eq_true rfl) dX5_gainIfPaid_30) ?_
    have zm13 := C15.1.2.2 rfl
    have hS := hS.sh zm13
    have hf7 := sk zm13 hf7
    refine Cv.go (pc' := 34) (go_aload_n (i := 0) (x := 0) dX5_gainIfPaid_33 rfl rfl) ?_
    refine Cv.go (pc' := 37) (go_getI (i := 0) cls5 (sx_k0 hS) (by decide) rfl lf_X5_83 (by decide) dX5_gainIfPaid_34) ?_
    refine Cv.go (pc' := 39) (go_bipush dX5_gainIfPaid_37 ib_10) ?_
    refine Cv.go (pc' := 40) (go_iadd dX5_gainIfPaid_39) ?_
    refine Cv.namI fun x16 ex16 => ?_
    refine Cv.go (pc' := 42) (ls' := [.ref 0, .int a1, .int a2, .ref (20 + a1.toNatClampNeg), .int x16]) (go_istore dX5_gainIfPaid_40 (by decide) rfl) ?_
    refine Cv.go (pc' := 43) (go_aload_n (i := 0) (x := 0) dX5_gainIfPaid_42 rfl rfl) ?_
    refine Cv.bnd fun v17 m18 e19 => ?_
    have C20 := kc_X5_theRule m13 hS v17 m18 e19
    refine Cv.go (pc' := 46) (st' := [.ref v17]) (go_callV (As := []) (st := []) C20 (by decide) ok_X5_theRule li_X5_theRule ls_X5_theRule lm_X5_111 cls5 (sx_k0 hS) rfl rfl (Nat.le_of_ble_eq_true rfl) dX5_gainIfPaid_43) ?_
    have zm18 := C20.1.2.2 rfl
    have hS := hS.sh zm18
    have hf7 := sk zm18 hf7
    have hf21 := theRule_isT (zm18) e19 hS
    refine Cv.go (pc' := 47) (go_aload_n (i := 0) (x := 0) dX5_gainIfPaid_46 rfl rfl) ?_
    refine Cv.go (pc' := 50) (go_getR (i := 9) cls5 (sx_k0 hS) (by decide) rfl lf_X5_42 (Or.inl ⟨_, rfl⟩) (sx_r0_9 hS) dX5_gainIfPaid_47) ?_
    refine Cv.go (pc' := 51) (go_aload_n (i := 0) (x := 0) dX5_gainIfPaid_50 rfl rfl) ?_
    refine Cv.go (pc' := 54) (go_getR (i := 9) cls5 (sx_k0 hS) (by decide) rfl lf_X5_42 (Or.inl ⟨_, rfl⟩) (sx_r0_9 hS) dX5_gainIfPaid_51) ?_
    refine Cv.go (pc' := 56) (go_bipush dX5_gainIfPaid_54 ib_10) ?_
    refine Cv.bnd fun v22 m23 e24 => ?_
    have C25 := kc_X0_ageBehind m18 18 (10 : Int32) (sx_k18 hS) v22 m23 e24
    refine Cv.go (pc' := 59) (st' := [.int v22, .ref 18, .ref v17]) (go_callV (As := [.int (10 : Int32)]) (st := [.ref 18, .ref v17]) C25 (by decide) ok_X0_ageBehind li_X0_ageBehind ls_X0_ageBehind lm_X5_145 cls0 (sx_k18 hS) rfl rfl (Nat.le_of_ble_eq_true rfl) dX5_gainIfPaid_56) ?_
    have zm23 := C25.1.2.2 rfl
    have hS := hS.sh zm23
    have hf7 := sk zm23 hf7
    have hf21 := hf21.sh zm23
    refine Cv.go (pc' := 61) (go_iload (i := 4) (x := x16) dX5_gainIfPaid_59 rfl) ?_
    refine Cv.bnd fun v26 m27 e28 => ?_
    have C29 := kc_X4_worthOf m23 v17 18 v22 x16 hf21 (sx_k18 hS) v26 m27 e28
    refine Cv.go (pc' := 64) (st' := [.int v26]) (go_callV (As := [.ref 18, .int v22, .int x16]) (st := []) C29 (by decide) ok_X4_worthOf li_X4_worthOf ls_X4_worthOf lm_X5_250 cls4 hf21.1 rfl rfl (Nat.le_of_ble_eq_true rfl) dX5_gainIfPaid_61) ?_
    have zm27 := C29.1.2.2 rfl
    have hS := hS.sh zm27
    have hf7 := sk zm27 hf7
    have hf21 := hf21.sh zm27
    refine Cv.go (pc' := 65) (go_aload_n (i := 0) (x := 0) dX5_gainIfPaid_64 rfl rfl) ?_
    refine Cv.bnd fun v30 m31 e32 => ?_
    have C33 := kc_X5_theRule m27 hS v30 m31 e32
    refine Cv.go (pc' := 68) (st' := [.ref v30, .int v26]) (go_callV (As := []) (st := [.int v26]) C33 (by decide) ok_X5_theRule li_X5_theRule ls_X5_theRule lm_X5_111 cls5 (sx_k0 hS) rfl rfl (Nat.le_of_ble_eq_true rfl) dX5_gainIfPaid_65) ?_
    have zm31 := C33.1.2.2 rfl
    have hS := hS.sh zm31
    have hf7 := sk zm31 hf7
    have hf21 := hf21.sh zm31
    have hf34 := theRule_isT (zm31) e32 hS
    refine Cv.go (pc' := 69) (go_aload_n (i := 3) (x := 20 + a1.toNatClampNeg) dX5_gainIfPaid_68 rfl rfl) ?_
    refine Cv.go (pc' := 70) (go_aload_n (i := 3) (x := 20 + a1.toNatClampNeg) dX5_gainIfPaid_69 rfl rfl) ?_
    refine Cv.go (pc' := 72) (go_bipush dX5_gainIfPaid_70 ib_10) ?_
    refine Cv.bnd fun v35 m36 e37 => ?_
    have C38 := kc_X0_ageBehind m31 (20 + a1.toNatClampNeg) (10 : Int32) hf7 v35 m36 e37
    refine Cv.go (pc' := 75) (st' := [.int v35, .ref (20 + a1.toNatClampNeg), .ref v30, .int v26]) (go_callV (As := [.int (10 : Int32)]) (st := [.ref (20 + a1.toNatClampNeg), .ref v30, .int v26]) C38 (by decide) ok_X0_ageBehind li_X0_ageBehind ls_X0_ageBehind lm_X5_145 cls0 hf7 rfl rfl (Nat.le_of_ble_eq_true rfl) dX5_gainIfPaid_72) ?_
    have zm36 := C38.1.2.2 rfl
    have hS := hS.sh zm36
    have hf7 := sk zm36 hf7
    have hf21 := hf21.sh zm36
    have hf34 := hf34.sh zm36
    refine Cv.go (pc' := 77) (go_iload (i := 4) (x := x16) dX5_gainIfPaid_75 rfl) ?_
    refine Cv.bnd fun v39 m40 e41 => ?_
    have C42 := kc_X4_worthOf m36 v30 (20 + a1.toNatClampNeg) v35 x16 hf34 hf7 v39 m40 e41
    refine Cv.go (pc' := 80) (st' := [.int v39, .int v26]) (go_callV (As := [.ref (20 + a1.toNatClampNeg), .int v35, .int x16]) (st := [.int v26]) C42 (by decide) ok_X4_worthOf li_X4_worthOf ls_X4_worthOf lm_X5_250 cls4 hf34.1 rfl rfl (Nat.le_of_ble_eq_true rfl) dX5_gainIfPaid_77) ?_
    have zm40 := C42.1.2.2 rfl
    have hS := hS.sh zm40
    have hf7 := sk zm40 hf7
    have hf21 := hf21.sh zm40
    have hf34 := hf34.sh zm40
    refine Cv.go (pc' := 81) (go_isub dX5_gainIfPaid_80) ?_
    exact Cv.ret dX5_gainIfPaid_81 rfl
theorem c_X5_bestPair_102 (K24 : Mem → Int32 → Int32 → Int32 → Int32 → Int32 → Int32 → Int32 → Option (Int32 × Mem)) (hK24 : ∀ (m : Mem) (a1 : Int32) (a2 : Int32) (a3 : Int32) (a4 : Int32) (a5 : Int32) (a6 : Int32) (a7 : Int32) (hS : ShX m), Cv true (cX5_bestPair, 10, RX5, 5, ((false, none) : IK)) .ireturn eI (K24 m a1 a2 a3 a4 a5 a6 a7) m 24 [.ref 0, .int a1, .int a2, .int a3, .int a4, .int a5, .int a6, .int a7, .null, .null] []) (K36 : Mem → Int32 → Int32 → Int32 → Int32 → Int32 → Int32 → Int32 → Int32 → Option (Int32 × Mem)) (hK36 : ∀ (m : Mem) (a1 : Int32) (a2 : Int32) (a3 : Int32) (a4 : Int32) (a5 : Int32) (a6 : Int32) (a7 : Int32) (a8 : Int32) (hS : ShX m), Cv true (cX5_bestPair, 10, RX5, 5, ((false, none) : IK)) .ireturn eI (K36 m a1 a2 a3 a4 a5 a6 a7 a8) m 36 [.ref 0, .int a1, .int a2, .int a3, .int a4, .int a5, .int a6, .int a7, .int a8, .null] []) : ∀ (m : Mem) (a1 : Int32) (a2 : Int32) (a3 : Int32) (a4 : Int32) (a5 : Int32) (a6 : Int32) (a7 : Int32) (a8 : Int32) (hS : ShX m), Cv true (cX5_bestPair, 10, RX5, 5, ((false, none) : IK)) .ireturn eI (F_X5_bestPair_102 K24 K36 m a1 a2 a3 a4 a5 a6 a7 a8) m 102 [.ref 0, .int a1, .int a2, .int a3, .int a4, .int a5, .int a6, .int a7, .int a8, .null] [] := by
  intro m a1 a2 a3 a4 a5 a6 a7 a8 hS
  unfold F_X5_bestPair_102
  refine Cv.go (pc' := 105) (ls' := [.ref 0, .int a1, .int a2, .int a3, .int a4, .int a5, .int a6, .int a7, .int (a8 + (1 : Int32)), .null]) (go_iinc (x := a8) (v := a8 + (1 : Int32)) dX5_bestPair_102 rfl rfl (by decide) rfl) ?_
  refine Cv.go (pc' := 36) (go_goto (tgt := 36) dX5_bestPair_105 rfl) ?_
  exact hK36 m a1 a2 a3 a4 a5 a6 a7 (a8 + (1 : Int32)) hS
theorem c_X5_bestPair_36 (K24 : Mem → Int32 → Int32 → Int32 → Int32 → Int32 → Int32 → Int32 → Option (Int32 × Mem)) (hK24 : ∀ (m : Mem) (a1 : Int32) (a2 : Int32) (a3 : Int32) (a4 : Int32) (a5 : Int32) (a6 : Int32) (a7 : Int32) (hS : ShX m), Cv true (cX5_bestPair, 10, RX5, 5, ((false, none) : IK)) .ireturn eI (K24 m a1 a2 a3 a4 a5 a6 a7) m 24 [.ref 0, .int a1, .int a2, .int a3, .int a4, .int a5, .int a6, .int a7, .null, .null] []) : ∀ n, ∀ (m : Mem) (a1 : Int32) (a2 : Int32) (a3 : Int32) (a4 : Int32) (a5 : Int32) (a6 : Int32) (a7 : Int32) (a8 : Int32) (hS : ShX m), Cv true (cX5_bestPair, 10, RX5, 5, ((false, none) : IK)) .ireturn eI (F_X5_bestPair_36 K24 n m a1 a2 a3 a4 a5 a6 a7 a8) m 36 [.ref 0, .int a1, .int a2, .int a3, .int a4, .int a5, .int a6, .int a7, .int a8, .null] [] := by
  intro n
  induction n with
  | zero => intro m a1 a2 a3 a4 a5 a6 a7 a8 hS; exact Cv.no
  | succ n ih =>
    intro m a1 a2 a3 a4 a5 a6 a7 a8 hS
    unfold F_X5_bestPair_36
    refine Cv.go (pc' := 38) (go_iload (i := 8) (x := a8) dX5_bestPair_36 rfl) ?_
    refine Cv.go (pc' := 39) (go_aload_n (i := 0) (x := 0) dX5_bestPair_38 rfl rfl) ?_
    refine Cv.go (pc' := 42) (go_getI (i := 2) cls5 (sx_k0 hS) (by decide) rfl lf_X5_103 (by decide) dX5_bestPair_39) ?_
    refine Cv.ite (fun h10 => ?_) (fun h10 => ?_)
    · refine Cv.go (pc' := 108) (go_icmp_ge_t (tgt := 108) dX5_bestPair_42 rfl h10) ?_
      refine Cv.go (pc' := 111) (ls' := [.ref 0, .int a1, .int a2, .int a3, .int a4, .int a5, .int a6, .int (a7 + (1 : Int32)), .int a8, .null]) (go_iinc (x := a7) (v := a7 + (1 : Int32)) dX5_bestPair_108 rfl rfl (by decide) rfl) ?_
      refine Cv.go (pc' := 24) (go_goto (tgt := 24) dX5_bestPair_111 rfl) ?_
      refine Cv.weak (ls' := [.ref 0, .int a1, .int a2, .int a3, .int a4, .int a5, .int a6, .int (a7 + (1 : Int32)), .null, .null]) (⟨Or.inr rfl, ⟨Or.inr rfl, ⟨Or.inr rfl, ⟨Or.inr rfl, ⟨Or.inr rfl, ⟨Or.inr rfl, ⟨Or.inr rfl, ⟨Or.inr rfl, ⟨Or.inl rfl, ⟨Or.inr rfl, True.intro⟩⟩⟩⟩⟩⟩⟩⟩⟩⟩) ?_
      exact hK24 m a1 a2 a3 a4 a5 a6 (a7 + (1 : Int32)) hS
    · refine Cv.go (pc' := 45) (go_icmp_ge_f 108 dX5_bestPair_42 rfl h10) ?_
      refine Cv.go (pc' := 46) (go_iload_n (i := 3) (x := a3) dX5_bestPair_45 rfl rfl) ?_
      refine Cv.go (pc' := 48) (go_iload (i := 7) (x := a7) dX5_bestPair_46 rfl) ?_
      refine Cv.bnd fun v11 m12 e13 => ?_
      have C14 := kc_X5_holds m a3 a7 v11 m12 e13
      refine Cv.go (pc' := 51) (st' := [.int (bz v11)]) (go_callS (As := [.int a3, .int a7]) (st := []) C14 (by decide) ok_X5_holds lt_X5_holds lm_X5_161 rfl rfl (Nat.le_of_ble_eq_true rfl) dX5_bestPair_48) ?_
      have zm12 := C14.1.2.2 rfl
      have hS := hS.sh zm12
      refine Cv.ite (fun h15 => ?_) (fun h15 => ?_)
      · refine Cv.go (pc' := 102) (go_if_eq_t (tgt := 102) dX5_bestPair_51 rfl h15) ?_
        exact c_X5_bestPair_102 K24 hK24 (F_X5_bestPair_36 K24 n) ih m12 a1 a2 a3 a4 a5 a6 a7 a8 hS
      · refine Cv.go (pc' := 54) (go_if_eq_f 102 dX5_bestPair_51 rfl h15) ?_
        refine Cv.go (pc' := 56) (go_iload (i := 4) (x := a4) dX5_bestPair_54 rfl) ?_
        refine Cv.go (pc' := 58) (go_iload (i := 8) (x := a8) dX5_bestPair_56 rfl) ?_
        refine Cv.bnd fun v16 m17 e18 => ?_
        have C19 := kc_X5_holds m12 a4 a8 v16 m17 e18
        refine Cv.go (pc' := 61) (st' := [.int (bz v16)]) (go_callS (As := [.int a4, .int a8]) (st := []) C19 (by decide) ok_X5_holds lt_X5_holds lm_X5_161 rfl rfl (Nat.le_of_ble_eq_true rfl) dX5_bestPair_58) ?_
        have zm17 := C19.1.2.2 rfl
        have hS := hS.sh zm17
        refine Cv.ite (fun h20 => ?_) (fun h20 => ?_)
        · refine Cv.go (pc' := 102) (go_if_eq_t (tgt := 102) dX5_bestPair_61 rfl h20) ?_
          exact c_X5_bestPair_102 K24 hK24 (F_X5_bestPair_36 K24 n) ih m17 a1 a2 a3 a4 a5 a6 a7 a8 hS
        · refine Cv.go (pc' := 64) (go_if_eq_f 102 dX5_bestPair_61 rfl h20) ?_
          refine Cv.go (pc' := 65) (go_aload_n (i := 0) (x := 0) dX5_bestPair_64 rfl rfl) ?_
          refine Cv.go (pc' := 67) (go_iload (i := 7) (x := a7) dX5_bestPair_65 rfl) ?_
          refine Cv.go (pc' := 68) (go_iload_n (i := 2) (x := a2) dX5_bestPair_67 rfl rfl) ?_
          refine Cv.bnd fun v21 m22 e23 => ?_
          have C24 := kc_X5_gainIfPaid m17 a7 a2 hS v21 m22 e23
          refine Cv.go (pc' := 71) (st' := [.int v21]) (go_callV (As := [.int a7, .int a2]) (st := []) C24 (by decide) ok_X5_gainIfPaid li_X5_gainIfPaid ls_X5_gainIfPaid lm_X5_205 cls5 (sx_k0 hS) rfl rfl (Nat.le_of_ble_eq_true rfl) dX5_bestPair_68) ?_
          have zm22 := C24.1.2.2 rfl
          have hS := hS.sh zm22
          refine Cv.go (pc' := 72) (go_aload_n (i := 0) (x := 0) dX5_bestPair_71 rfl rfl) ?_
          refine Cv.go (pc' := 74) (go_iload (i := 8) (x := a8) dX5_bestPair_72 rfl) ?_
          refine Cv.go (pc' := 75) (go_iload_n (i := 1) (x := a1) dX5_bestPair_74 rfl rfl) ?_
          refine Cv.bnd fun v25 m26 e27 => ?_
          have C28 := kc_X5_gainIfPaid m22 a8 a1 hS v25 m26 e27
          refine Cv.go (pc' := 78) (st' := [.int v25, .int v21]) (go_callV (As := [.int a8, .int a1]) (st := [.int v21]) C28 (by decide) ok_X5_gainIfPaid li_X5_gainIfPaid ls_X5_gainIfPaid lm_X5_205 cls5 (sx_k0 hS) rfl rfl (Nat.le_of_ble_eq_true rfl) dX5_bestPair_75) ?_
          have zm26 := C28.1.2.2 rfl
          have hS := hS.sh zm26
          refine Cv.go (pc' := 79) (go_iadd dX5_bestPair_78) ?_
          refine Cv.namI fun x29 ex29 => ?_
          refine Cv.go (pc' := 81) (ls' := [.ref 0, .int a1, .int a2, .int a3, .int a4, .int a5, .int a6, .int a7, .int a8, .int x29]) (go_istore dX5_bestPair_79 (by decide) rfl) ?_
          refine Cv.go (pc' := 83) (go_iload (i := 9) (x := x29) dX5_bestPair_81 rfl) ?_
          refine Cv.go (pc' := 85) (go_iload (i := 6) (x := a6) dX5_bestPair_83 rfl) ?_
          refine Cv.ite (fun h30 => ?_) (fun h30 => ?_)
          · refine Cv.go (pc' := 102) (go_icmp_le_t (tgt := 102) dX5_bestPair_85 rfl h30) ?_
            refine Cv.weak (ls' := [.ref 0, .int a1, .int a2, .int a3, .int a4, .int a5, .int a6, .int a7, .int a8, .null]) (⟨Or.inr rfl, ⟨Or.inr rfl, ⟨Or.inr rfl, ⟨Or.inr rfl, ⟨Or.inr rfl, ⟨Or.inr rfl, ⟨Or.inr rfl, ⟨Or.inr rfl, ⟨Or.inr rfl, ⟨Or.inl rfl, True.intro⟩⟩⟩⟩⟩⟩⟩⟩⟩⟩) ?_
            exact c_X5_bestPair_102 K24 hK24 (F_X5_bestPair_36 K24 n) ih m26 a1 a2 a3 a4 a5 a6 a7 a8 hS
          · refine Cv.go (pc' := 88) (go_icmp_le_f 102 dX5_bestPair_85 rfl h30) ?_
            refine Cv.go (pc' := 90) (go_bipush dX5_bestPair_88 ib_10) ?_
            refine Cv.go (pc' := 92) (go_iload (i := 7) (x := a7) dX5_bestPair_90 rfl) ?_
            refine Cv.go (pc' := 93) (go_imul dX5_bestPair_92) ?_
            refine Cv.go (pc' := 95) (go_iload (i := 8) (x := a8) dX5_bestPair_93 rfl) ?_
            refine Cv.go (pc' := 96) (go_iadd dX5_bestPair_95) ?_
            refine Cv.namI fun x31 ex31 => ?_
            refine Cv.go (pc' := 98) (ls' := [.ref 0, .int a1, .int a2, .int a3, .int a4, .int x31, .int a6, .int a7, .int a8, .int x29]) (go_istore dX5_bestPair_96 (by decide) rfl) ?_
            refine Cv.go (pc' := 100) (go_iload (i := 9) (x := x29) dX5_bestPair_98 rfl) ?_
            refine Cv.go (pc' := 102) (ls' := [.ref 0, .int a1, .int a2, .int a3, .int a4, .int x31, .int x29, .int a7, .int a8, .int x29]) (go_istore dX5_bestPair_100 (by decide) rfl) ?_
            refine Cv.weak (ls' := [.ref 0, .int a1, .int a2, .int a3, .int a4, .int x31, .int x29, .int a7, .int a8, .null]) (⟨Or.inr rfl, ⟨Or.inr rfl, ⟨Or.inr rfl, ⟨Or.inr rfl, ⟨Or.inr rfl, ⟨Or.inr rfl, ⟨Or.inr rfl, ⟨Or.inr rfl, ⟨Or.inr rfl, ⟨Or.inl rfl, True.intro⟩⟩⟩⟩⟩⟩⟩⟩⟩⟩) ?_
            exact c_X5_bestPair_102 K24 hK24 (F_X5_bestPair_36 K24 n) ih m26 a1 a2 a3 a4 x31 x29 a7 a8 hS
theorem c_X5_bestPair_24 : ∀ n, ∀ (m : Mem) (a1 : Int32) (a2 : Int32) (a3 : Int32) (a4 : Int32) (a5 : Int32) (a6 : Int32) (a7 : Int32) (hS : ShX m), Cv true (cX5_bestPair, 10, RX5, 5, ((false, none) : IK)) .ireturn eI (F_X5_bestPair_24 n m a1 a2 a3 a4 a5 a6 a7) m 24 [.ref 0, .int a1, .int a2, .int a3, .int a4, .int a5, .int a6, .int a7, .null, .null] [] := by
  intro n
  induction n with
  | zero => intro m a1 a2 a3 a4 a5 a6 a7 hS; exact Cv.no
  | succ n ih =>
    intro m a1 a2 a3 a4 a5 a6 a7 hS
    unfold F_X5_bestPair_24
    refine Cv.go (pc' := 26) (go_iload (i := 7) (x := a7) dX5_bestPair_24 rfl) ?_
    refine Cv.go (pc' := 27) (go_aload_n (i := 0) (x := 0) dX5_bestPair_26 rfl rfl) ?_
    refine Cv.go (pc' := 30) (go_getI (i := 2) cls5 (sx_k0 hS) (by decide) rfl lf_X5_103 (by decide) dX5_bestPair_27) ?_
    refine Cv.ite (fun h9 => ?_) (fun h9 => ?_)
    · refine Cv.go (pc' := 114) (go_icmp_ge_t (tgt := 114) dX5_bestPair_30 rfl h9) ?_
      refine Cv.go (pc' := 116) (go_iload (i := 5) (x := a5) dX5_bestPair_114 rfl) ?_
      exact Cv.ret dX5_bestPair_116 rfl
    · refine Cv.go (pc' := 33) (go_icmp_ge_f 114 dX5_bestPair_30 rfl h9) ?_
      refine Cv.go (pc' := 34) (go_iconst dX5_bestPair_33 ic_0) ?_
      refine Cv.go (pc' := 36) (ls' := [.ref 0, .int a1, .int a2, .int a3, .int a4, .int a5, .int a6, .int a7, .int (0 : Int32), .null]) (go_istore dX5_bestPair_34 (by decide) rfl) ?_
      exact c_X5_bestPair_36 (F_X5_bestPair_24 n) ih FU m a1 a2 a3 a4 a5 a6 a7 (0 : Int32) hS
theorem kc_X5_bestPair (m : Mem) (a1 : Int32) (a2 : Int32) (hS : ShX m) : ∀ v mE, F_X5_bestPair m a1 a2 = some (v, mE) → Con true kX5_bestPair 5 [.ref 0, .int a1, .int a2] m (eI v) mE := by
  refine Con.of (ini := false) (ls0 := [.ref 0, .int a1, .int a2, .null, .null, .null, .null, .null, .null, .null]) (ri := .ireturn) (by decide) (by intro z; cases z) rfl (Nat.le_of_ble_eq_true rfl) (fun v mE _ => RetTy.i) ?_
  show Cv true (cX5_bestPair, 10, RX5, 5, ((false, none) : IK)) .ireturn eI (F_X5_bestPair m a1 a2) m 0 [.ref 0, .int a1, .int a2, .null, .null, .null, .null, .null, .null, .null] []
  unfold F_X5_bestPair
  refine Cv.go (pc' := 1) (go_aload_n (i := 0) (x := 0) dX5_bestPair_0 rfl rfl) ?_
  refine Cv.go (pc' := 2) (go_iload_n (i := 1) (x := a1) dX5_bestPair_1 rfl rfl) ?_
  refine Cv.go (pc' := 3) (go_iconst dX5_bestPair_2 ic_0) ?_
  refine Cv.bnd fun v1 m2 e3 => ?_
  have C4 := kc_X5_purseBehind m a1 (0 : Int32) hS v1 m2 e3
  refine Cv.go (pc' := 6) (st' := [.int v1]) (go_callV (As := [.int a1, .int (0 : Int32)]) (st := []) C4 (by decide) ok_X5_purseBehind li_X5_purseBehind ls_X5_purseBehind lm_X5_172 cls5 (sx_k0 hS) rfl rfl (Nat.le_of_ble_eq_true rfl) dX5_bestPair_3) ?_
  have zm2 := C4.1.2.2 rfl
  have hS := hS.sh zm2
  refine Cv.go (pc' := 7) (ls' := [.ref 0, .int a1, .int a2, .int v1, .null, .null, .null, .null, .null, .null]) (go_istore_n dX5_bestPair_6 rfl (by decide) rfl) ?_
  refine Cv.go (pc' := 8) (go_aload_n (i := 0) (x := 0) dX5_bestPair_7 rfl rfl) ?_
  refine Cv.go (pc' := 9) (go_iload_n (i := 2) (x := a2) dX5_bestPair_8 rfl rfl) ?_
  refine Cv.go (pc' := 10) (go_iconst dX5_bestPair_9 ic_0) ?_
  refine Cv.bnd fun v5 m6 e7 => ?_
  have C8 := kc_X5_purseBehind m2 a2 (0 : Int32) hS v5 m6 e7
  refine Cv.go (pc' := 13) (st' := [.int v5]) (go_callV (As := [.int a2, .int (0 : Int32)]) (st := []) C8 (by decide) ok_X5_purseBehind li_X5_purseBehind ls_X5_purseBehind lm_X5_172 cls5 (sx_k0 hS) rfl rfl (Nat.le_of_ble_eq_true rfl) dX5_bestPair_10) ?_
  have zm6 := C8.1.2.2 rfl
  have hS := hS.sh zm6
  refine Cv.go (pc' := 15) (ls' := [.ref 0, .int a1, .int a2, .int v1, .int v5, .null, .null, .null, .null, .null]) (go_istore dX5_bestPair_13 (by decide) rfl) ?_
  refine Cv.go (pc' := 16) (go_iconst dX5_bestPair_15 ic_n1) ?_
  refine Cv.go (pc' := 18) (ls' := [.ref 0, .int a1, .int a2, .int v1, .int v5, .int (-1 : Int32), .null, .null, .null, .null]) (go_istore dX5_bestPair_16 (by decide) rfl) ?_
  refine Cv.go (pc' := 19) (go_iconst dX5_bestPair_18 ic_0) ?_
  refine Cv.go (pc' := 21) (ls' := [.ref 0, .int a1, .int a2, .int v1, .int v5, .int (-1 : Int32), .int (0 : Int32), .null, .null, .null]) (go_istore dX5_bestPair_19 (by decide) rfl) ?_
  refine Cv.go (pc' := 22) (go_iconst dX5_bestPair_21 ic_0) ?_
  refine Cv.go (pc' := 24) (ls' := [.ref 0, .int a1, .int a2, .int v1, .int v5, .int (-1 : Int32), .int (0 : Int32), .int (0 : Int32), .null, .null]) (go_istore dX5_bestPair_22 (by decide) rfl) ?_
  exact c_X5_bestPair_24 FU m6 a1 a2 v1 v5 (-1 : Int32) (0 : Int32) (0 : Int32) hS
theorem c_X5_change_17 : ∀ (m : Mem) (hS : ShX m), Cv true (cX5_change, 6, RX5, 6, ((false, none) : IK)) .ireturn eI (F_X5_change_17 m) m 17 [.null, .null, .null, .null, .null, .null] [] := by
  intro m hS
  unfold F_X5_change_17
  refine Cv.go (pc' := 19) (go_ldc dX5_change_17 lc_X5_110) ?_
  exact Cv.ret dX5_change_19 rfl
theorem kc_X5_change (m : Mem) (a1 : Int32) (a2 : Int32) (a3 : Int32) (hS : ShX m) : ∀ v mE, F_X5_change m a1 a2 a3 = some (v, mE) → Con true kX5_change 6 [.ref 0, .int a1, .int a2, .int a3] m (eI v) mE := by
  refine Con.of (ini := false) (ls0 := [.ref 0, .int a1, .int a2, .int a3, .null, .null]) (ri := .ireturn) (by decide) (by intro z; cases z) rfl (Nat.le_of_ble_eq_true rfl) (fun v mE _ => RetTy.i) ?_
  show Cv true (cX5_change, 6, RX5, 6, ((false, none) : IK)) .ireturn eI (F_X5_change m a1 a2 a3) m 0 [.ref 0, .int a1, .int a2, .int a3, .null, .null] []
  unfold F_X5_change
  refine Cv.go (pc' := 1) (go_iload_n (i := 1) (x := a1) dX5_change_0 rfl rfl) ?_
  refine Cv.go (pc' := 2) (go_iload_n (i := 2) (x := a2) dX5_change_1 rfl rfl) ?_
  refine Cv.bnd fun v1 m2 e3 => ?_
  have C4 := kc_X5_areTwoOwners m a1 a2 v1 m2 e3
  refine Cv.go (pc' := 5) (st' := [.int (bz v1)]) (go_callS (As := [.int a1, .int a2]) (st := []) C4 (by decide) ok_X5_areTwoOwners lt_X5_areTwoOwners lm_X5_154 rfl rfl (Nat.le_of_ble_eq_true rfl) dX5_change_2) ?_
  have zm2 := C4.1.2.2 rfl
  have hS := hS.sh zm2
  refine Cv.ite (fun h5 => ?_) (fun h5 => ?_)
  · refine Cv.go (pc' := 17) (go_if_eq_t (tgt := 17) dX5_change_5 rfl h5) ?_
    refine Cv.weak (ls' := [.null, .null, .null, .null, .null, .null]) (⟨Or.inl rfl, ⟨Or.inl rfl, ⟨Or.inl rfl, ⟨Or.inl rfl, ⟨Or.inr rfl, ⟨Or.inr rfl, True.intro⟩⟩⟩⟩⟩⟩) ?_
    exact c_X5_change_17 m2 hS
  · refine Cv.go (pc' := 8) (go_if_eq_f 17 dX5_change_5 rfl h5) ?_
    refine Cv.go (pc' := 9) (go_iload_n (i := 3) (x := a3) dX5_change_8 rfl rfl) ?_
    refine Cv.go (pc' := 10) (go_iconst dX5_change_9 ic_0) ?_
    refine Cv.go (pc' := 11) (go_iconst dX5_change_10 ic_1) ?_
    refine Cv.bnd fun v6 m7 e8 => ?_
    have C9 := kc_X5_isBetween m2 a3 (0 : Int32) (1 : Int32) v6 m7 e8
    refine Cv.go (pc' := 14) (st' := [.int (bz v6)]) (go_callS (As := [.int a3, .int (0 : Int32), .int (1 : Int32)]) (st := []) C9 (by decide) ok_X5_isBetween lt_X5_isBetween lm_X5_73 rfl rfl (Nat.le_of_ble_eq_true rfl) dX5_change_11) ?_
    have zm7 := C9.1.2.2 rfl
    have hS := hS.sh zm7
    refine Cv.ite (fun h10 => ?_) (fun h10 => ?_)
    · refine Cv.go (pc' := 17) (go_if_ne_f 20 dX5_change_14 rfl h10) ?_
      refine Cv.weak (ls' := [.null, .null, .null, .null, .null, .null]) (⟨Or.inl rfl, ⟨Or.inl rfl, ⟨Or.inl rfl, ⟨Or.inl rfl, ⟨Or.inr rfl, ⟨Or.inr rfl, True.intro⟩⟩⟩⟩⟩⟩) ?_
      exact c_X5_change_17 m7 hS
    · refine Cv.go (pc' := 20) (go_if_ne_t (tgt := 20) dX5_change_14 rfl h10) ?_
      refine Cv.go (pc' := 21) (go_aload_n (i := 0) (x := 0) dX5_change_20 rfl rfl) ?_
      refine Cv.go (pc' := 22) (go_iload_n (i := 1) (x := a1) dX5_change_21 rfl rfl) ?_
      refine Cv.go (pc' := 23) (go_iload_n (i := 2) (x := a2) dX5_change_22 rfl rfl) ?_
      refine Cv.bnd fun v11 m12 e13 => ?_
      have C14 := kc_X5_bestPair m7 a1 a2 hS v11 m12 e13
      refine Cv.go (pc' := 26) (st' := [.int v11]) (go_callV (As := [.int a1, .int a2]) (st := []) C14 (by decide) ok_X5_bestPair li_X5_bestPair ls_X5_bestPair lm_X5_202 cls5 (sx_k0 hS) rfl rfl (Nat.le_of_ble_eq_true rfl) dX5_change_23) ?_
      have zm12 := C14.1.2.2 rfl
      have hS := hS.sh zm12
      refine Cv.go (pc' := 28) (ls' := [.ref 0, .int a1, .int a2, .int a3, .int v11, .null]) (go_istore dX5_change_26 (by decide) rfl) ?_
      refine Cv.go (pc' := 29) (go_iload_n (i := 3) (x := a3) dX5_change_28 rfl rfl) ?_
      refine Cv.ite (fun h15 => ?_) (fun h15 => ?_)
      · refine Cv.go (pc' := 32) (go_if_ne_f 35 dX5_change_29 rfl h15) ?_
        refine Cv.go (pc' := 34) (go_iload (i := 4) (x := v11) dX5_change_32 rfl) ?_
        exact Cv.ret dX5_change_34 rfl
      · refine Cv.go (pc' := 35) (go_if_ne_t (tgt := 35) dX5_change_29 rfl h15) ?_
        refine Cv.go (pc' := 36) (go_aload_n (i := 0) (x := 0) dX5_change_35 rfl rfl) ?_
        refine Cv.go (pc' := 37) (go_iload_n (i := 1) (x := a1) dX5_change_36 rfl rfl) ?_
        refine Cv.go (pc' := 39) (go_bipush dX5_change_37 ib_10) ?_
        refine Cv.bnd fun v16 m17 e18 => ?_
        have C19 := kc_X5_richBehind m12 a1 (10 : Int32) hS v16 m17 e18
        refine Cv.go (pc' := 42) (st' := [.int v16]) (go_callV (As := [.int a1, .int (10 : Int32)]) (st := []) C19 (by decide) ok_X5_richBehind li_X5_richBehind ls_X5_richBehind lm_X5_169 cls5 (sx_k0 hS) rfl rfl (Nat.le_of_ble_eq_true rfl) dX5_change_39) ?_
        have zm17 := C19.1.2.2 rfl
        have hS := hS.sh zm17
        refine Cv.go (pc' := 43) (go_aload_n (i := 0) (x := 0) dX5_change_42 rfl rfl) ?_
        refine Cv.go (pc' := 44) (go_iload_n (i := 2) (x := a2) dX5_change_43 rfl rfl) ?_
        refine Cv.go (pc' := 46) (go_bipush dX5_change_44 ib_10) ?_
        refine Cv.bnd fun v20 m21 e22 => ?_
        have C23 := kc_X5_richBehind m17 a2 (10 : Int32) hS v20 m21 e22
        refine Cv.go (pc' := 49) (st' := [.int v20, .int v16]) (go_callV (As := [.int a2, .int (10 : Int32)]) (st := [.int v16]) C23 (by decide) ok_X5_richBehind li_X5_richBehind ls_X5_richBehind lm_X5_169 cls5 (sx_k0 hS) rfl rfl (Nat.le_of_ble_eq_true rfl) dX5_change_46) ?_
        have zm21 := C23.1.2.2 rfl
        have hS := hS.sh zm21
        refine Cv.go (pc' := 50) (go_iadd dX5_change_49) ?_
        refine Cv.namI fun x24 ex24 => ?_
        refine Cv.go (pc' := 52) (ls' := [.ref 0, .int a1, .int a2, .int a3, .int v11, .int x24]) (go_istore dX5_change_50 (by decide) rfl) ?_
        refine Cv.go (pc' := 54) (go_iload (i := 4) (x := v11) dX5_change_52 rfl) ?_
        refine Cv.go (pc' := 55) (go_iconst dX5_change_54 ic_n1) ?_
        refine Cv.ite (fun h25 => ?_) (fun h25 => ?_)
        · refine Cv.go (pc' := 58) (go_icmp_ne_f 61 dX5_change_55 rfl h25) ?_
          refine Cv.go (pc' := 60) (go_iload (i := 5) (x := x24) dX5_change_58 rfl) ?_
          exact Cv.ret dX5_change_60 rfl
        · refine Cv.go (pc' := 61) (go_icmp_ne_t (tgt := 61) dX5_change_55 rfl h25) ?_
          refine Cv.go (pc' := 63) (go_iload (i := 5) (x := x24) dX5_change_61 rfl) ?_
          refine Cv.go (pc' := 64) (go_aload_n (i := 0) (x := 0) dX5_change_63 rfl rfl) ?_
          refine Cv.go (pc' := 66) (go_iload (i := 4) (x := v11) dX5_change_64 rfl) ?_
          refine Cv.go (pc' := 68) (go_bipush dX5_change_66 ib_10) ?_
          refine Cv.go (pc' := 69) (go_idiv dX5_change_68 (by decide)) ?_
          refine Cv.go (pc' := 70) (go_iload_n (i := 2) (x := a2) dX5_change_69 rfl rfl) ?_
          refine Cv.bnd fun v26 m27 e28 => ?_
          have C29 := kc_X5_gainIfPaid m21 (v11 / (10 : Int32)) a2 hS v26 m27 e28
          refine Cv.go (pc' := 73) (st' := [.int v26, .int x24]) (go_callV (As := [.int (v11 / (10 : Int32)), .int a2]) (st := [.int x24]) C29 (by decide) ok_X5_gainIfPaid li_X5_gainIfPaid ls_X5_gainIfPaid lm_X5_205 cls5 (sx_k0 hS) rfl rfl (Nat.le_of_ble_eq_true rfl) dX5_change_70) ?_
          have zm27 := C29.1.2.2 rfl
          have hS := hS.sh zm27
          refine Cv.go (pc' := 74) (go_iadd dX5_change_73) ?_
          refine Cv.go (pc' := 75) (go_aload_n (i := 0) (x := 0) dX5_change_74 rfl rfl) ?_
          refine Cv.go (pc' := 77) (go_iload (i := 4) (x := v11) dX5_change_75 rfl) ?_
          refine Cv.go (pc' := 79) (go_bipush dX5_change_77 ib_10) ?_
          refine Cv.go (pc' := 80) (go_irem dX5_change_79 (by decide)) ?_
          refine Cv.go (pc' := 81) (go_iload_n (i := 1) (x := a1) dX5_change_80 rfl rfl) ?_
          refine Cv.bnd fun v30 m31 e32 => ?_
          have C33 := kc_X5_gainIfPaid m27 (v11 - v11 / (10 : Int32) * (10 : Int32)) a1 hS v30 m31 e32
          refine Cv.go (pc' := 84) (st' := [.int v30, .int (x24 + v26)]) (go_callV (As := [.int (v11 - v11 / (10 : Int32) * (10 : Int32)), .int a1]) (st := [.int (x24 + v26)]) C33 (by decide) ok_X5_gainIfPaid li_X5_gainIfPaid ls_X5_gainIfPaid lm_X5_205 cls5 (sx_k0 hS) rfl rfl (Nat.le_of_ble_eq_true rfl) dX5_change_81) ?_
          have zm31 := C33.1.2.2 rfl
          have hS := hS.sh zm31
          refine Cv.go (pc' := 85) (go_iadd dX5_change_84) ?_
          exact Cv.ret dX5_change_85 rfl
theorem kc_X5_isSheet (m : Mem) (a0 : Int32) : ∀ v mE, F_X5_isSheet m a0 = some (v, mE) → Con true kX5_isSheet 0 [.int a0] m (eZ v) mE := by
  refine Con.of (ini := false) (ls0 := [.int a0]) (ri := .ireturn) (by decide) (by intro z; cases z) rfl (Nat.le_of_ble_eq_true rfl) (fun v mE _ => RetTy.z) ?_
  show Cv true (cX5_isSheet, 1, RX5, 0, ((false, none) : IK)) .ireturn eZ (F_X5_isSheet m a0) m 0 [.int a0] []
  unfold F_X5_isSheet
  refine Cv.go (pc' := 1) (go_iload_n (i := 0) (x := a0) dX5_isSheet_0 rfl rfl) ?_
  refine Cv.ite (fun h1 => ?_) (fun h1 => ?_)
  · refine Cv.go (pc' := 13) (go_if_lt_t (tgt := 13) dX5_isSheet_1 rfl h1) ?_
    refine Cv.go (pc' := 14) (go_iconst dX5_isSheet_13 ic_0) ?_
    exact Cv.ret dX5_isSheet_14 rfl
  · refine Cv.go (pc' := 4) (go_if_lt_f 13 dX5_isSheet_1 rfl h1) ?_
    refine Cv.go (pc' := 5) (go_iload_n (i := 0) (x := a0) dX5_isSheet_4 rfl rfl) ?_
    refine Cv.go (pc' := 6) (go_iconst dX5_isSheet_5 ic_4) ?_
    refine Cv.ite (fun h2 => ?_) (fun h2 => ?_)
    · refine Cv.go (pc' := 13) (go_icmp_ge_t (tgt := 13) dX5_isSheet_6 rfl h2) ?_
      refine Cv.go (pc' := 14) (go_iconst dX5_isSheet_13 ic_0) ?_
      exact Cv.ret dX5_isSheet_14 rfl
    · refine Cv.go (pc' := 9) (go_icmp_ge_f 13 dX5_isSheet_6 rfl h2) ?_
      refine Cv.go (pc' := 10) (go_iconst dX5_isSheet_9 ic_1) ?_
      refine Cv.go (pc' := 14) (go_goto (tgt := 14) dX5_isSheet_10 rfl) ?_
      exact Cv.ret dX5_isSheet_14 rfl
theorem c_X5_firstOtherwise_3 : ∀ n, ∀ (m : Mem) (a1 : Nat) (a2 : Nat) (a3 : Nat) (a4 : Int32) (hS : ShX m) (ha1 : isS m a1) (ha2 : isT m a2) (ha3 : mK m a3 = (0, 0)), Cv true (cX5_firstOtherwise, 5, RX5, 4, ((false, none) : IK)) .ireturn eI (F_X5_firstOtherwise_3 n m a1 a2 a3 a4) m 3 [.ref 0, .ref a1, .ref a2, .ref a3, .int a4] [] := by
  intro n
  induction n with
  | zero => intro m a1 a2 a3 a4 hS ha1 ha2 ha3; exact Cv.no
  | succ n ih =>
    intro m a1 a2 a3 a4 hS ha1 ha2 ha3
    unfold F_X5_firstOtherwise_3
    refine Cv.go (pc' := 5) (go_iload (i := 4) (x := a4) dX5_firstOtherwise_3 rfl) ?_
    refine Cv.go (pc' := 6) (go_aload_n (i := 1) (x := a1) dX5_firstOtherwise_5 rfl rfl) ?_
    refine Cv.go (pc' := 9) (go_getI (i := 1) cls2 ha1.1 (by decide) rfl lf_X5_279 (by decide) dX5_firstOtherwise_6) ?_
    refine Cv.ite (fun h1 => ?_) (fun h1 => ?_)
    · refine Cv.go (pc' := 49) (go_icmp_ge_t (tgt := 49) dX5_firstOtherwise_9 rfl h1) ?_
      refine Cv.go (pc' := 50) (go_iconst dX5_firstOtherwise_49 ic_n1) ?_
      exact Cv.ret dX5_firstOtherwise_50 rfl
    · refine Cv.go (pc' := 12) (go_icmp_ge_f 49 dX5_firstOtherwise_9 rfl h1) ?_
      refine Cv.go (pc' := 13) (go_aload_n (i := 2) (x := a2) dX5_firstOtherwise_12 rfl rfl) ?_
      refine Cv.go (pc' := 14) (go_aload_n (i := 3) (x := a3) dX5_firstOtherwise_13 rfl rfl) ?_
      refine Cv.go (pc' := 15) (go_aload_n (i := 3) (x := a3) dX5_firstOtherwise_14 rfl rfl) ?_
      refine Cv.go (pc' := 17) (go_iload (i := 4) (x := a4) dX5_firstOtherwise_15 rfl) ?_
      refine Cv.bnd fun v2 m3 e4 => ?_
      have C5 := kc_X0_ageBehind m a3 a4 ha3 v2 m3 e4
      refine Cv.go (pc' := 20) (st' := [.int v2, .ref a3, .ref a2]) (go_callV (As := [.int a4]) (st := [.ref a3, .ref a2]) C5 (by decide) ok_X0_ageBehind li_X0_ageBehind ls_X0_ageBehind lm_X5_145 cls0 ha3 rfl rfl (Nat.le_of_ble_eq_true rfl) dX5_firstOtherwise_17) ?_
      have zm3 := C5.1.2.2 rfl
      have hS := hS.sh zm3
      have ha1 := ha1.sh zm3
      have ha2 := ha2.sh zm3
      have ha3 := sk zm3 ha3
      refine Cv.go (pc' := 21) (go_aload_n (i := 0) (x := 0) dX5_firstOtherwise_20 rfl rfl) ?_
      refine Cv.go (pc' := 24) (go_getI (i := 0) cls5 (sx_k0 hS) (by decide) rfl lf_X5_83 (by decide) dX5_firstOtherwise_21) ?_
      refine Cv.go (pc' := 26) (go_iload (i := 4) (x := a4) dX5_firstOtherwise_24 rfl) ?_
      refine Cv.go (pc' := 27) (go_iadd dX5_firstOtherwise_26) ?_
      refine Cv.bnd fun v6 m7 e8 => ?_
      have C9 := kc_X4_worthOf m3 a2 a3 v2 ((mD m3 0 0) + a4) ha2 ha3 v6 m7 e8
      refine Cv.go (pc' := 30) (st' := [.int v6]) (go_callV (As := [.ref a3, .int v2, .int ((mD m3 0 0) + a4)]) (st := []) C9 (by decide) ok_X4_worthOf li_X4_worthOf ls_X4_worthOf lm_X5_250 cls4 ha2.1 rfl rfl (Nat.le_of_ble_eq_true rfl) dX5_firstOtherwise_27) ?_
      have zm7 := C9.1.2.2 rfl
      have hS := hS.sh zm7
      have ha1 := ha1.sh zm7
      have ha2 := ha2.sh zm7
      have ha3 := sk zm7 ha3
      refine Cv.go (pc' := 31) (go_aload_n (i := 1) (x := a1) dX5_firstOtherwise_30 rfl rfl) ?_
      refine Cv.go (pc' := 34) (go_getR (i := 2) cls2 ha1.1 (by decide) rfl lf_X5_286 (Or.inr ⟨_, rfl⟩) ha1.2.1 dX5_firstOtherwise_31) ?_
      refine Cv.go (pc' := 36) (go_iload (i := 4) (x := a4) dX5_firstOtherwise_34 rfl) ?_
      refine Cv.gif fun g10 => ?_
      refine Cv.go (pc' := 37) (go_iaload ha1.2.2 g10 dX5_firstOtherwise_36) ?_
      refine Cv.ite (fun h11 => ?_) (fun h11 => ?_)
      · refine Cv.go (pc' := 43) (go_icmp_eq_t (tgt := 43) dX5_firstOtherwise_37 rfl h11) ?_
        refine Cv.go (pc' := 46) (ls' := [.ref 0, .ref a1, .ref a2, .ref a3, .int (a4 + (1 : Int32))]) (go_iinc (x := a4) (v := a4 + (1 : Int32)) dX5_firstOtherwise_43 rfl rfl (by decide) rfl) ?_
        refine Cv.go (pc' := 3) (go_goto (tgt := 3) dX5_firstOtherwise_46 rfl) ?_
        exact ih m7 a1 a2 a3 (a4 + (1 : Int32)) hS ha1 ha2 ha3
      · refine Cv.go (pc' := 40) (go_icmp_eq_f 43 dX5_firstOtherwise_37 rfl h11) ?_
        refine Cv.go (pc' := 42) (go_iload (i := 4) (x := a4) dX5_firstOtherwise_40 rfl) ?_
        exact Cv.ret dX5_firstOtherwise_42 rfl
theorem kc_X5_firstOtherwise (m : Mem) (c1 : Nat) (c2 : Nat) (c3 : Nat) (hS : ShX m) (hp1 : isS m c1) (hp2 : isT m c2) (hp3 : mK m c3 = (0, 0)) : ∀ v mE, F_X5_firstOtherwise m c1 c2 c3 = some (v, mE) → Con true kX5_firstOtherwise 4 [.ref 0, .ref c1, .ref c2, .ref c3] m (eI v) mE := by
  refine Con.of (ini := false) (ls0 := [.ref 0, .ref c1, .ref c2, .ref c3, .null]) (ri := .ireturn) (by decide) (by intro z; cases z) rfl (Nat.le_of_ble_eq_true rfl) (fun v mE _ => RetTy.i) ?_
  show Cv true (cX5_firstOtherwise, 5, RX5, 4, ((false, none) : IK)) .ireturn eI (F_X5_firstOtherwise m c1 c2 c3) m 0 [.ref 0, .ref c1, .ref c2, .ref c3, .null] []
  unfold F_X5_firstOtherwise
  refine Cv.go (pc' := 1) (go_iconst dX5_firstOtherwise_0 ic_0) ?_
  refine Cv.go (pc' := 3) (ls' := [.ref 0, .ref c1, .ref c2, .ref c3, .int (0 : Int32)]) (go_istore dX5_firstOtherwise_1 (by decide) rfl) ?_
  exact c_X5_firstOtherwise_3 FU m c1 c2 c3 (0 : Int32) hS hp1 hp2 hp3
theorem kc_X5_wouldBeSo (m : Mem) (c1 : Nat) (c2 : Nat) (a3 : Int32) (a4 : Int32) (hS : ShX m) (hp1 : isS m c1) (hp2 : mK m c2 = (0, 0)) : ∀ v mE, F_X5_wouldBeSo m c1 c2 a3 a4 = some (v, mE) → Con true kX5_wouldBeSo 5 [.ref 0, .ref c1, .ref c2, .int a3, .int a4] m (eZ v) mE := by
  refine Con.of (ini := false) (ls0 := [.ref 0, .ref c1, .ref c2, .int a3, .int a4]) (ri := .ireturn) (by decide) (by intro z; cases z) rfl (Nat.le_of_ble_eq_true rfl) (fun v mE _ => RetTy.z) ?_
  show Cv true (cX5_wouldBeSo, 5, RX5, 5, ((false, none) : IK)) .ireturn eZ (F_X5_wouldBeSo m c1 c2 a3 a4) m 0 [.ref 0, .ref c1, .ref c2, .int a3, .int a4] []
  unfold F_X5_wouldBeSo
  refine Cv.go (pc' := 1) (go_aload_n (i := 0) (x := 0) dX5_wouldBeSo_0 rfl rfl) ?_
  refine Cv.go (pc' := 4) (go_getR (i := 9) cls5 (sx_k0 hS) (by decide) rfl lf_X5_42 (Or.inl ⟨_, rfl⟩) (sx_r0_9 hS) dX5_wouldBeSo_1) ?_
  refine Cv.go (pc' := 5) (go_aload_n (i := 2) (x := c2) dX5_wouldBeSo_4 rfl rfl) ?_
  refine Cv.bnd fun v1 m2 e3 => ?_
  have C4 := kc_X0_become m 18 c2 (sx_k18 hS) hp2 v1 m2 e3
  refine Cv.go (pc' := 8) (st' := []) (go_callV (As := [.ref c2]) (st := []) C4 (by decide) ok_X0_become li_X0_become ls_X0_become lm_X5_273 cls0 (sx_k18 hS) rfl rfl (Nat.le_of_ble_eq_true rfl) dX5_wouldBeSo_5) ?_
  have zm2 := C4.1.2.2 rfl
  have hS := hS.sh zm2
  have hp1 := hp1.sh zm2
  have hp2 := sk zm2 hp2
  refine Cv.go (pc' := 9) (go_aload_n (i := 0) (x := 0) dX5_wouldBeSo_8 rfl rfl) ?_
  refine Cv.go (pc' := 12) (go_getR (i := 9) cls5 (sx_k0 hS) (by decide) rfl lf_X5_42 (Or.inl ⟨_, rfl⟩) (sx_r0_9 hS) dX5_wouldBeSo_9) ?_
  refine Cv.go (pc' := 13) (go_iload_n (i := 3) (x := a3) dX5_wouldBeSo_12 rfl rfl) ?_
  refine Cv.go (pc' := 15) (go_iload (i := 4) (x := a4) dX5_wouldBeSo_13 rfl) ?_
  refine Cv.bnd fun v5 m6 e7 => ?_
  have C8 := kc_X0_lay m2 18 a3 a4 (sx_k18 hS) v5 m6 e7
  refine Cv.go (pc' := 18) (st' := []) (go_callV (As := [.int a3, .int a4]) (st := []) C8 (by decide) ok_X0_lay li_X0_lay ls_X0_lay lm_X5_95 cls0 (sx_k18 hS) rfl rfl (Nat.le_of_ble_eq_true rfl) dX5_wouldBeSo_15) ?_
  have zm6 := C8.1.2.2 rfl
  have hS := hS.sh zm6
  have hp1 := hp1.sh zm6
  have hp2 := sk zm6 hp2
  refine Cv.go (pc' := 19) (go_aload_n (i := 0) (x := 0) dX5_wouldBeSo_18 rfl rfl) ?_
  refine Cv.go (pc' := 20) (go_aload_n (i := 1) (x := c1) dX5_wouldBeSo_19 rfl rfl) ?_
  refine Cv.go (pc' := 21) (go_aload_n (i := 0) (x := 0) dX5_wouldBeSo_20 rfl rfl) ?_
  refine Cv.bnd fun v9 m10 e11 => ?_
  have C12 := kc_X5_theRule m6 hS v9 m10 e11
  refine Cv.go (pc' := 24) (st' := [.ref v9, .ref c1, .ref 0]) (go_callV (As := []) (st := [.ref c1, .ref 0]) C12 (by decide) ok_X5_theRule li_X5_theRule ls_X5_theRule lm_X5_111 cls5 (sx_k0 hS) rfl rfl (Nat.le_of_ble_eq_true rfl) dX5_wouldBeSo_21) ?_
  have zm10 := C12.1.2.2 rfl
  have hS := hS.sh zm10
  have hp1 := hp1.sh zm10
  have hp2 := sk zm10 hp2
  have hf13 := theRule_isT (zm10) e11 hS
  refine Cv.go (pc' := 25) (go_aload_n (i := 0) (x := 0) dX5_wouldBeSo_24 rfl rfl) ?_
  refine Cv.go (pc' := 28) (go_getR (i := 9) cls5 (sx_k0 hS) (by decide) rfl lf_X5_42 (Or.inl ⟨_, rfl⟩) (sx_r0_9 hS) dX5_wouldBeSo_25) ?_
  refine Cv.bnd fun v14 m15 e16 => ?_
  have C17 := kc_X5_firstOtherwise m10 c1 v9 18 hS hp1 hf13 (sx_k18 hS) v14 m15 e16
  refine Cv.go (pc' := 31) (st' := [.int v14]) (go_callV (As := [.ref c1, .ref v9, .ref 18]) (st := []) C17 (by decide) ok_X5_firstOtherwise li_X5_firstOtherwise ls_X5_firstOtherwise lm_X5_215 cls5 (sx_k0 hS) rfl rfl (Nat.le_of_ble_eq_true rfl) dX5_wouldBeSo_28) ?_
  have zm15 := C17.1.2.2 rfl
  have hS := hS.sh zm15
  have hp1 := hp1.sh zm15
  have hp2 := sk zm15 hp2
  have hf13 := hf13.sh zm15
  refine Cv.go (pc' := 32) (go_iconst dX5_wouldBeSo_31 ic_n1) ?_
  refine Cv.ite (fun h18 => ?_) (fun h18 => ?_)
  · refine Cv.go (pc' := 35) (go_icmp_ne_f 39 dX5_wouldBeSo_32 rfl h18) ?_
    refine Cv.go (pc' := 36) (go_iconst dX5_wouldBeSo_35 ic_1) ?_
    refine Cv.go (pc' := 40) (go_goto (tgt := 40) dX5_wouldBeSo_36 rfl) ?_
    exact Cv.ret dX5_wouldBeSo_40 rfl
  · refine Cv.go (pc' := 39) (go_icmp_ne_t (tgt := 39) dX5_wouldBeSo_32 rfl h18) ?_
    refine Cv.go (pc' := 40) (go_iconst dX5_wouldBeSo_39 ic_0) ?_
    exact Cv.ret dX5_wouldBeSo_40 rfl
