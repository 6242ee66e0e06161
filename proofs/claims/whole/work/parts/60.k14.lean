theorem c_X6_firstOther_51 (K9 : Mem → Int32 → Int32 → Int32 → Int32 → Option (Int32 × Mem)) (hK9 : ∀ (m : Mem) (a1 : Int32) (a2 : Int32) (a3 : Int32) (a4 : Int32) (hS : ShM m), Cv true (cX6_firstOther, 5, RX6, 46, ((false, none) : IK)) .ireturn eI (K9 m a1 a2 a3 a4) m 9 [.ref 40, .int a1, .int a2, .int a3, .int a4] []) : ∀ (m : Mem) (a1 : Int32) (a2 : Int32) (a4 : Int32) (s0 : Int32) (hS : ShM m), Cv true (cX6_firstOther, 5, RX6, 46, ((false, none) : IK)) .ireturn eI (F_X6_firstOther_51 K9 m a1 a2 a4 s0) m 51 [.ref 40, .int a1, .int a2, .null, .int a4] [.int s0] := by
  intro m a1 a2 a4 s0 hS
  unfold F_X6_firstOther_51
  refine Cv.go (pc' := 52) (ls' := [.ref 40, .int a1, .int a2, .int s0, .int a4]) (go_istore_n dX6_firstOther_51 rfl (by decide) rfl) ?_
  refine Cv.go (pc' := 53) (go_aload_n (i := 0) (x := 40) dX6_firstOther_52 rfl rfl) ?_
  refine Cv.bnd fun v14 m15 e16 => ?_
  have C17 := kc_X6_passes m hS v14 m15 e16
  refine Cv.go (pc' := 56) (st' := [.int v14]) (go_callV (As := []) (st := []) C17 (by decide) ok_X6_passes li_X6_passes ls_X6_passes lm_X6_341 cls6 (sx_k40 hS) rfl rfl (Nat.le_of_ble_eq_true rfl) dX6_firstOther_53) ?_
  have zm15 := C17.1.2.2 rfl
  have hS := hS.sh zm15
  refine Cv.go (pc' := 57) (go_pop_i dX6_firstOther_56) ?_
  refine Cv.go (pc' := 60) (ls' := [.ref 40, .int a1, .int a2, .int s0, .int (a4 + (1 : Int32))]) (go_iinc (x := a4) (v := a4 + (1 : Int32)) dX6_firstOther_57 rfl rfl (by decide) rfl) ?_
  refine Cv.go (pc' := 9) (go_goto (tgt := 9) dX6_firstOther_60 rfl) ?_
  exact hK9 m15 a1 a2 s0 (a4 + (1 : Int32)) hS
theorem c_X6_firstOther_63 : ∀ (m : Mem) (a3 : Int32) (hS : ShM m), Cv true (cX6_firstOther, 5, RX6, 46, ((false, none) : IK)) .ireturn eI (F_X6_firstOther_63 m a3) m 63 [.ref 40, .null, .null, .int a3, .null] [] := by
  intro m a3 hS
  unfold F_X6_firstOther_63
  refine Cv.go (pc' := 64) (go_aload_n (i := 0) (x := 40) dX6_firstOther_63 rfl rfl) ?_
  refine Cv.bnd fun v18 m19 e20 => ?_
  have C21 := kc_X6_laysBack m hS v18 m19 e20
  refine Cv.go (pc' := 67) (st' := []) (go_callV (As := []) (st := []) C21 (by decide) ok_X6_laysBack li_X6_laysBack ls_X6_laysBack lm_X6_365 cls6 (sx_k40 hS) rfl rfl (Nat.le_of_ble_eq_true rfl) dX6_firstOther_64) ?_
  have zm19 := C21.1.2.2 rfl
  have hS := hS.sh zm19
  refine Cv.go (pc' := 68) (go_iload_n (i := 3) (x := a3) dX6_firstOther_67 rfl rfl) ?_
  exact Cv.ret dX6_firstOther_68 rfl
theorem c_X6_firstOther_9 : ∀ n, ∀ (m : Mem) (a1 : Int32) (a2 : Int32) (a3 : Int32) (a4 : Int32) (hS : ShM m), Cv true (cX6_firstOther, 5, RX6, 46, ((false, none) : IK)) .ireturn eI (F_X6_firstOther_9 n m a1 a2 a3 a4) m 9 [.ref 40, .int a1, .int a2, .int a3, .int a4] [] := by
  intro n
  induction n with
  | zero => intro m a1 a2 a3 a4 hS; exact Cv.no
  | succ n ih =>
    intro m a1 a2 a3 a4 hS
    unfold F_X6_firstOther_9
    refine Cv.go (pc' := 11) (go_iload (i := 4) (x := a4) dX6_firstOther_9 rfl) ?_
    refine Cv.go (pc' := 12) (go_aload_n (i := 0) (x := 40) dX6_firstOther_11 rfl rfl) ?_
    refine Cv.go (pc' := 15) (go_getR (i := 36) cls6 (sx_k40 hS) (by decide) rfl lf_X6_51 (Or.inr ⟨_, rfl⟩) (sx_r40_36 hS) dX6_firstOther_12) ?_
    refine Cv.go (pc' := 16) (go_iload_n (i := 1) (x := a1) dX6_firstOther_15 rfl rfl) ?_
    refine Cv.gif fun g5 => ?_
    refine Cv.go (pc' := 17) (go_iaload (sx_k52 hS) g5 dX6_firstOther_16) ?_
    refine Cv.ite (fun h6 => ?_) (fun h6 => ?_)
    · refine Cv.go (pc' := 63) (go_icmp_ge_t (tgt := 63) dX6_firstOther_17 rfl h6) ?_
      refine Cv.weak (ls' := [.ref 40, .null, .null, .int a3, .null]) (⟨Or.inr rfl, ⟨Or.inl rfl, ⟨Or.inl rfl, ⟨Or.inr rfl, ⟨Or.inl rfl, True.intro⟩⟩⟩⟩⟩) ?_
      exact c_X6_firstOther_63 m a3 hS
    · refine Cv.go (pc' := 20) (go_icmp_ge_f 63 dX6_firstOther_17 rfl h6) ?_
      refine Cv.go (pc' := 21) (go_iload_n (i := 3) (x := a3) dX6_firstOther_20 rfl rfl) ?_
      refine Cv.go (pc' := 22) (go_iconst dX6_firstOther_21 ic_n1) ?_
      refine Cv.ite (fun h7 => ?_) (fun h7 => ?_)
      · refine Cv.go (pc' := 25) (go_icmp_ne_f 63 dX6_firstOther_22 rfl h7) ?_
        refine Cv.go (pc' := 26) (go_aload_n (i := 0) (x := 40) dX6_firstOther_25 rfl rfl) ?_
        refine Cv.go (pc' := 27) (go_iload_n (i := 2) (x := a2) dX6_firstOther_26 rfl rfl) ?_
        refine Cv.bnd fun v8 m9 e10 => ?_
        have C11 := kc_X6_worthOf m a2 hS v8 m9 e10
        refine Cv.go (pc' := 30) (st' := [.int v8]) (go_callV (As := [.int a2]) (st := []) C11 (by decide) ok_X6_worthOf li_X6_worthOf ls_X6_worthOf lm_X6_116 cls6 (sx_k40 hS) rfl rfl (Nat.le_of_ble_eq_true rfl) dX6_firstOther_27) ?_
        have zm9 := C11.1.2.2 rfl
        have hS := hS.sh zm9
        refine Cv.go (pc' := 31) (go_aload_n (i := 0) (x := 40) dX6_firstOther_30 rfl rfl) ?_
        refine Cv.go (pc' := 34) (go_getR (i := 37) cls6 (sx_k40 hS) (by decide) rfl lf_X6_54 (Or.inr ⟨_, rfl⟩) (sx_r40_37 hS) dX6_firstOther_31) ?_
        refine Cv.go (pc' := 36) (go_bipush dX6_firstOther_34 ib_40) ?_
        refine Cv.go (pc' := 37) (go_iload_n (i := 1) (x := a1) dX6_firstOther_36 rfl rfl) ?_
        refine Cv.go (pc' := 38) (go_imul dX6_firstOther_37) ?_
        refine Cv.go (pc' := 40) (go_iload (i := 4) (x := a4) dX6_firstOther_38 rfl) ?_
        refine Cv.go (pc' := 41) (go_iadd dX6_firstOther_40) ?_
        refine Cv.gif fun g12 => ?_
        refine Cv.go (pc' := 42) (go_iaload (sx_k53 hS) g12 dX6_firstOther_41) ?_
        refine Cv.ite (fun h13 => ?_) (fun h13 => ?_)
        · refine Cv.go (pc' := 45) (go_icmp_ne_f 49 dX6_firstOther_42 rfl h13) ?_
          refine Cv.go (pc' := 46) (go_iconst dX6_firstOther_45 ic_n1) ?_
          refine Cv.go (pc' := 51) (go_goto (tgt := 51) dX6_firstOther_46 rfl) ?_
          refine Cv.weak (ls' := [.ref 40, .int a1, .int a2, .null, .int a4]) (⟨Or.inr rfl, ⟨Or.inr rfl, ⟨Or.inr rfl, ⟨Or.inl rfl, ⟨Or.inr rfl, True.intro⟩⟩⟩⟩⟩) ?_
          exact c_X6_firstOther_51 (F_X6_firstOther_9 n) ih m9 a1 a2 a4 (-1 : Int32) hS
        · refine Cv.go (pc' := 49) (go_icmp_ne_t (tgt := 49) dX6_firstOther_42 rfl h13) ?_
          refine Cv.go (pc' := 51) (go_iload (i := 4) (x := a4) dX6_firstOther_49 rfl) ?_
          refine Cv.weak (ls' := [.ref 40, .int a1, .int a2, .null, .int a4]) (⟨Or.inr rfl, ⟨Or.inr rfl, ⟨Or.inr rfl, ⟨Or.inl rfl, ⟨Or.inr rfl, True.intro⟩⟩⟩⟩⟩) ?_
          exact c_X6_firstOther_51 (F_X6_firstOther_9 n) ih m9 a1 a2 a4 a4 hS
      · refine Cv.go (pc' := 63) (go_icmp_ne_t (tgt := 63) dX6_firstOther_22 rfl h7) ?_
        refine Cv.weak (ls' := [.ref 40, .null, .null, .int a3, .null]) (⟨Or.inr rfl, ⟨Or.inl rfl, ⟨Or.inl rfl, ⟨Or.inr rfl, ⟨Or.inl rfl, True.intro⟩⟩⟩⟩⟩) ?_
        exact c_X6_firstOther_63 m a3 hS
theorem kc_X6_firstOther (m : Mem) (a1 : Int32) (a2 : Int32) (hS : ShM m) : ∀ v mE, F_X6_firstOther m a1 a2 = some (v, mE) → Con true kX6_firstOther 46 [.ref 40, .int a1, .int a2] m (eI v) mE := by
  refine Con.of (ini := false) (ls0 := [.ref 40, .int a1, .int a2, .null, .null]) (ri := .ireturn) (by decide) (by intro z; cases z) rfl (Nat.le_of_ble_eq_true rfl) (fun v mE _ => RetTy.i) ?_
  show Cv true (cX6_firstOther, 5, RX6, 46, ((false, none) : IK)) .ireturn eI (F_X6_firstOther m a1 a2) m 0 [.ref 40, .int a1, .int a2, .null, .null] []
  unfold F_X6_firstOther
  refine Cv.go (pc' := 1) (go_aload_n (i := 0) (x := 40) dX6_firstOther_0 rfl rfl) ?_
  refine Cv.bnd fun v1 m2 e3 => ?_
  have C4 := kc_X6_laysAside m hS v1 m2 e3
  refine Cv.go (pc' := 4) (st' := []) (go_callV (As := []) (st := []) C4 (by decide) ok_X6_laysAside li_X6_laysAside ls_X6_laysAside lm_X6_362 cls6 (sx_k40 hS) rfl rfl (Nat.le_of_ble_eq_true rfl) dX6_firstOther_1) ?_
  have zm2 := C4.1.2.2 rfl
  have hS := hS.sh zm2
  refine Cv.go (pc' := 5) (go_iconst dX6_firstOther_4 ic_n1) ?_
  refine Cv.go (pc' := 6) (ls' := [.ref 40, .int a1, .int a2, .int (-1 : Int32), .null]) (go_istore_n dX6_firstOther_5 rfl (by decide) rfl) ?_
  refine Cv.go (pc' := 7) (go_iconst dX6_firstOther_6 ic_0) ?_
  refine Cv.go (pc' := 9) (ls' := [.ref 40, .int a1, .int a2, .int (-1 : Int32), .int (0 : Int32)]) (go_istore dX6_firstOther_7 (by decide) rfl) ?_
  exact c_X6_firstOther_9 FU m2 a1 a2 (-1 : Int32) (0 : Int32) hS
theorem c_X6_likeSet_28 (K4 : Mem → Int32 → Int32 → Int32 → Option (Int32 × Mem)) (hK4 : ∀ (m : Mem) (a1 : Int32) (a2 : Int32) (a3 : Int32) (hS : ShM m), Cv true (cX6_likeSet, 4, RX6, 47, ((false, none) : IK)) .ireturn eI (K4 m a1 a2 a3) m 4 [.ref 40, .int a1, .int a2, .int a3] []) : ∀ (m : Mem) (a1 : Int32) (a3 : Int32) (s0 : Int32) (s1 : Int32) (hS : ShM m), Cv true (cX6_likeSet, 4, RX6, 47, ((false, none) : IK)) .ireturn eI (F_X6_likeSet_28 K4 m a1 a3 s0 s1) m 28 [.ref 40, .int a1, .null, .int a3] [.int s0, .int s1] := by
  intro m a1 a3 s0 s1 hS
  unfold F_X6_likeSet_28
  refine Cv.go (pc' := 29) (go_iload_n (i := 3) (x := a3) dX6_likeSet_28 rfl rfl) ?_
  refine Cv.go (pc' := 30) (go_ishl dX6_likeSet_29) ?_
  refine Cv.go (pc' := 31) (go_ior dX6_likeSet_30) ?_
  refine Cv.namI fun x7 ex7 => ?_
  refine Cv.go (pc' := 32) (ls' := [.ref 40, .int a1, .int x7, .int a3]) (go_istore_n dX6_likeSet_31 rfl (by decide) rfl) ?_
  refine Cv.go (pc' := 35) (ls' := [.ref 40, .int a1, .int x7, .int (a3 + (1 : Int32))]) (go_iinc (x := a3) (v := a3 + (1 : Int32)) dX6_likeSet_32 rfl rfl (by decide) rfl) ?_
  refine Cv.go (pc' := 4) (go_goto (tgt := 4) dX6_likeSet_35 rfl) ?_
  exact hK4 m a1 x7 (a3 + (1 : Int32)) hS
theorem c_X6_likeSet_4 : ∀ n, ∀ (m : Mem) (a1 : Int32) (a2 : Int32) (a3 : Int32) (hS : ShM m), Cv true (cX6_likeSet, 4, RX6, 47, ((false, none) : IK)) .ireturn eI (F_X6_likeSet_4 n m a1 a2 a3) m 4 [.ref 40, .int a1, .int a2, .int a3] [] := by
  intro n
  induction n with
  | zero => intro m a1 a2 a3 hS; exact Cv.no
  | succ n ih =>
    intro m a1 a2 a3 hS
    unfold F_X6_likeSet_4
    refine Cv.go (pc' := 5) (go_iload_n (i := 3) (x := a3) dX6_likeSet_4 rfl rfl) ?_
    refine Cv.go (pc' := 6) (go_aload_n (i := 0) (x := 40) dX6_likeSet_5 rfl rfl) ?_
    refine Cv.go (pc' := 9) (go_getI (i := 10) cls6 (sx_k40 hS) (by decide) rfl lf_X6_64 (by decide) dX6_likeSet_6) ?_
    refine Cv.ite (fun h1 => ?_) (fun h1 => ?_)
    · refine Cv.go (pc' := 38) (go_icmp_ge_t (tgt := 38) dX6_likeSet_9 rfl h1) ?_
      refine Cv.go (pc' := 39) (go_iload_n (i := 2) (x := a2) dX6_likeSet_38 rfl rfl) ?_
      exact Cv.ret dX6_likeSet_39 rfl
    · refine Cv.go (pc' := 12) (go_icmp_ge_f 38 dX6_likeSet_9 rfl h1) ?_
      refine Cv.go (pc' := 13) (go_iload_n (i := 2) (x := a2) dX6_likeSet_12 rfl rfl) ?_
      refine Cv.go (pc' := 14) (go_aload_n (i := 0) (x := 40) dX6_likeSet_13 rfl rfl) ?_
      refine Cv.go (pc' := 15) (go_iload_n (i := 1) (x := a1) dX6_likeSet_14 rfl rfl) ?_
      refine Cv.go (pc' := 16) (go_iload_n (i := 3) (x := a3) dX6_likeSet_15 rfl rfl) ?_
      refine Cv.bnd fun v2 m3 e4 => ?_
      have C5 := kc_X6_firstOther m a1 a3 hS v2 m3 e4
      refine Cv.go (pc' := 19) (st' := [.int v2, .int a2]) (go_callV (As := [.int a1, .int a3]) (st := [.int a2]) C5 (by decide) ok_X6_firstOther li_X6_firstOther ls_X6_firstOther lm_X6_396 cls6 (sx_k40 hS) rfl rfl (Nat.le_of_ble_eq_true rfl) dX6_likeSet_16) ?_
      have zm3 := C5.1.2.2 rfl
      have hS := hS.sh zm3
      refine Cv.go (pc' := 20) (go_iconst dX6_likeSet_19 ic_n1) ?_
      refine Cv.ite (fun h6 => ?_) (fun h6 => ?_)
      · refine Cv.go (pc' := 23) (go_icmp_ne_f 27 dX6_likeSet_20 rfl h6) ?_
        refine Cv.go (pc' := 24) (go_iconst dX6_likeSet_23 ic_1) ?_
        refine Cv.go (pc' := 28) (go_goto (tgt := 28) dX6_likeSet_24 rfl) ?_
        refine Cv.weak (ls' := [.ref 40, .int a1, .null, .int a3]) (⟨Or.inr rfl, ⟨Or.inr rfl, ⟨Or.inl rfl, ⟨Or.inr rfl, True.intro⟩⟩⟩⟩) ?_
        exact c_X6_likeSet_28 (F_X6_likeSet_4 n) ih m3 a1 a3 (1 : Int32) a2 hS
      · refine Cv.go (pc' := 27) (go_icmp_ne_t (tgt := 27) dX6_likeSet_20 rfl h6) ?_
        refine Cv.go (pc' := 28) (go_iconst dX6_likeSet_27 ic_0) ?_
        refine Cv.weak (ls' := [.ref 40, .int a1, .null, .int a3]) (⟨Or.inr rfl, ⟨Or.inr rfl, ⟨Or.inl rfl, ⟨Or.inr rfl, True.intro⟩⟩⟩⟩) ?_
        exact c_X6_likeSet_28 (F_X6_likeSet_4 n) ih m3 a1 a3 (0 : Int32) a2 hS
theorem kc_X6_likeSet (m : Mem) (a1 : Int32) (hS : ShM m) : ∀ v mE, F_X6_likeSet m a1 = some (v, mE) → Con true kX6_likeSet 47 [.ref 40, .int a1] m (eI v) mE := by
  refine Con.of (ini := false) (ls0 := [.ref 40, .int a1, .null, .null]) (ri := .ireturn) (by decide) (by intro z; cases z) rfl (Nat.le_of_ble_eq_true rfl) (fun v mE _ => RetTy.i) ?_
  show Cv true (cX6_likeSet, 4, RX6, 47, ((false, none) : IK)) .ireturn eI (F_X6_likeSet m a1) m 0 [.ref 40, .int a1, .null, .null] []
  unfold F_X6_likeSet
  refine Cv.go (pc' := 1) (go_iconst dX6_likeSet_0 ic_0) ?_
  refine Cv.go (pc' := 2) (ls' := [.ref 40, .int a1, .int (0 : Int32), .null]) (go_istore_n dX6_likeSet_1 rfl (by decide) rfl) ?_
  refine Cv.go (pc' := 3) (go_iconst dX6_likeSet_2 ic_0) ?_
  refine Cv.go (pc' := 4) (ls' := [.ref 40, .int a1, .int (0 : Int32), .int (0 : Int32)]) (go_istore_n dX6_likeSet_3 rfl (by decide) rfl) ?_
  exact c_X6_likeSet_4 FU m a1 (0 : Int32) (0 : Int32) hS
theorem kc_X6_isSheet (m : Mem) (a0 : Int32) : ∀ v mE, F_X6_isSheet m a0 = some (v, mE) → Con true kX6_isSheet 1 [.int a0] m (eZ v) mE := by
  refine Con.of (ini := false) (ls0 := [.int a0]) (ri := .ireturn) (by decide) (by intro z; cases z) rfl (Nat.le_of_ble_eq_true rfl) (fun v mE _ => RetTy.z) ?_
  show Cv true (cX6_isSheet, 1, RX6, 1, ((false, none) : IK)) .ireturn eZ (F_X6_isSheet m a0) m 0 [.int a0] []
  unfold F_X6_isSheet
  refine Cv.go (pc' := 1) (go_iload_n (i := 0) (x := a0) dX6_isSheet_0 rfl rfl) ?_
  refine Cv.go (pc' := 2) (go_i2l dX6_isSheet_1) ?_
  refine Cv.go (pc' := 3) (go_lconst (v := 0) dX6_isSheet_2 (by decide)) ?_
  refine Cv.go (pc' := 6) (go_ldc2 dX6_isSheet_3 ll_X6_71) ?_
  refine Cv.bnd fun v1 m2 e3 => ?_
  have C4 := kc_X6_in m a0.toInt64 (0 : Int64) (3 : Int64) v1 m2 e3
  refine Cv.go (pc' := 9) (st' := [.int (bz v1)]) (go_callS (As := [.long a0.toInt64, .long (0 : Int64), .long (3 : Int64)]) (st := []) C4 (by decide) ok_X6_in lt_X6_in lm_X6_67 rfl rfl (Nat.le_of_ble_eq_true rfl) dX6_isSheet_6) ?_
  exact Cv.ret dX6_isSheet_9 rfl
theorem c_X6_tells_269 (K207 : Mem → Int32 → Int32 → Int32 → Int32 → Int32 → Int32 → Int32 → Int32 → Int32 → Option (Int32 × Mem)) (hK207 : ∀ (m : Mem) (a1 : Int32) (a2 : Int32) (a3 : Int32) (a4 : Int32) (a5 : Int32) (a7 : Int32) (a8 : Int32) (a9 : Int32) (a10 : Int32) (hS : ShM m), Cv true (cX6_tells, 11, RX6, 48, ((false, none) : IK)) .ireturn eI (K207 m a1 a2 a3 a4 a5 a7 a8 a9 a10) m 207 [.ref 40, .int a1, .int a2, .int a3, .int a4, .int a5, .null, .int a7, .int a8, .int a9, .int a10] []) : ∀ (m : Mem) (a1 : Int32) (a2 : Int32) (a3 : Int32) (a4 : Int32) (a5 : Int32) (a7 : Int32) (a8 : Int32) (a9 : Int32) (a10 : Int32) (hS : ShM m), Cv true (cX6_tells, 11, RX6, 48, ((false, none) : IK)) .ireturn eI (F_X6_tells_269 K207 m a1 a2 a3 a4 a5 a7 a8 a9 a10) m 269 [.ref 40, .int a1, .int a2, .int a3, .int a4, .int a5, .null, .int a7, .int a8, .int a9, .int a10] [] := by
  intro m a1 a2 a3 a4 a5 a7 a8 a9 a10 hS
  unfold F_X6_tells_269
  refine Cv.go (pc' := 272) (ls' := [.ref 40, .int a1, .int a2, .int a3, .int a4, .int a5, .null, .int a7, .int a8, .int a9, .int (a10 + (-1 : Int32))]) (go_iinc (x := a10) (v := a10 + (-1 : Int32)) dX6_tells_269 rfl rfl (by decide) rfl) ?_
  refine Cv.go (pc' := 207) (go_goto (tgt := 207) dX6_tells_272 rfl) ?_
  exact hK207 m a1 a2 a3 a4 a5 a7 a8 a9 (a10 + (-1 : Int32)) hS
theorem c_X6_tells_52 : ∀ (m : Mem) (a1 : Int32) (a2 : Int32) (a3 : Int32) (hS : ShM m), Cv true (cX6_tells, 11, RX6, 48, ((false, none) : IK)) .ireturn eI (F_X6_tells_52 m a1 a2 a3) m 52 [.ref 40, .int a1, .int a2, .int a3, .null, .null, .null, .null, .null, .null, .null] [] := by
  intro m a1 a2 a3 hS
  unfold F_X6_tells_52
  refine Cv.go (pc' := 53) (go_iload_n (i := 3) (x := a3) dX6_tells_52 rfl rfl) ?_
  refine Cv.ite (fun h55 => ?_) (fun h55 => ?_)
  · refine Cv.go (pc' := 56) (go_if_ne_f 65 dX6_tells_53 rfl h55) ?_
    refine Cv.go (pc' := 57) (go_aload_n (i := 0) (x := 40) dX6_tells_56 rfl rfl) ?_
    refine Cv.go (pc' := 58) (go_iload_n (i := 1) (x := a1) dX6_tells_57 rfl rfl) ?_
    refine Cv.go (pc' := 59) (go_iload_n (i := 2) (x := a2) dX6_tells_58 rfl rfl) ?_
    refine Cv.bnd fun v60 m61 e62 => ?_
    have C63 := kc_X6_firstOther m a1 a2 hS v60 m61 e62
    refine Cv.go (pc' := 62) (st' := [.int v60]) (go_callV (As := [.int a1, .int a2]) (st := []) C63 (by decide) ok_X6_firstOther li_X6_firstOther ls_X6_firstOther lm_X6_396 cls6 (sx_k40 hS) rfl rfl (Nat.le_of_ble_eq_true rfl) dX6_tells_59) ?_
    have zm61 := C63.1.2.2 rfl
    have hS := hS.sh zm61
    refine Cv.go (pc' := 70) (go_goto (tgt := 70) dX6_tells_62 rfl) ?_
    exact Cv.ret dX6_tells_70 rfl
  · refine Cv.go (pc' := 65) (go_if_ne_t (tgt := 65) dX6_tells_53 rfl h55) ?_
    refine Cv.go (pc' := 66) (go_aload_n (i := 0) (x := 40) dX6_tells_65 rfl rfl) ?_
    refine Cv.go (pc' := 67) (go_iload_n (i := 1) (x := a1) dX6_tells_66 rfl rfl) ?_
    refine Cv.bnd fun v56 m57 e58 => ?_
    have C59 := kc_X6_likeSet m a1 hS v56 m57 e58
    refine Cv.go (pc' := 70) (st' := [.int v56]) (go_callV (As := [.int a1]) (st := []) C59 (by decide) ok_X6_likeSet li_X6_likeSet ls_X6_likeSet lm_X6_402 cls6 (sx_k40 hS) rfl rfl (Nat.le_of_ble_eq_true rfl) dX6_tells_67) ?_
    have zm57 := C59.1.2.2 rfl
    have hS := hS.sh zm57
    exact Cv.ret dX6_tells_70 rfl
theorem c_X6_tells_259 (K207 : Mem → Int32 → Int32 → Int32 → Int32 → Int32 → Int32 → Int32 → Int32 → Int32 → Option (Int32 × Mem)) (hK207 : ∀ (m : Mem) (a1 : Int32) (a2 : Int32) (a3 : Int32) (a4 : Int32) (a5 : Int32) (a7 : Int32) (a8 : Int32) (a9 : Int32) (a10 : Int32) (hS : ShM m), Cv true (cX6_tells, 11, RX6, 48, ((false, none) : IK)) .ireturn eI (K207 m a1 a2 a3 a4 a5 a7 a8 a9 a10) m 207 [.ref 40, .int a1, .int a2, .int a3, .int a4, .int a5, .null, .int a7, .int a8, .int a9, .int a10] []) : ∀ (m : Mem) (a1 : Int32) (a2 : Int32) (a3 : Int32) (a4 : Int32) (a5 : Int32) (a8 : Int32) (a10 : Int32) (s0 : Int32) (s1 : Int32) (hS : ShM m), Cv true (cX6_tells, 11, RX6, 48, ((false, none) : IK)) .ireturn eI (F_X6_tells_259 K207 m a1 a2 a3 a4 a5 a8 a10 s0 s1) m 259 [.ref 40, .int a1, .int a2, .int a3, .int a4, .int a5, .null, .null, .int a8, .null, .int a10] [.int s0, .int s1] := by
  intro m a1 a2 a3 a4 a5 a8 a10 s0 s1 hS
  unfold F_X6_tells_259
  refine Cv.go (pc' := 260) (go_ior dX6_tells_259) ?_
  refine Cv.namI fun x54 ex54 => ?_
  refine Cv.go (pc' := 262) (ls' := [.ref 40, .int a1, .int a2, .int a3, .int a4, .int a5, .null, .int x54, .int a8, .null, .int a10]) (go_istore dX6_tells_260 (by decide) rfl) ?_
  refine Cv.go (pc' := 265) (ls' := [.ref 40, .int a1, .int a2, .int a3, .int a4, .int a5, .null, .int x54, .int (a8 + (1 : Int32)), .null, .int a10]) (go_iinc (x := a8) (v := a8 + (1 : Int32)) dX6_tells_262 rfl rfl (by decide) rfl) ?_
  refine Cv.go (pc' := 267) (go_iload (i := 10) (x := a10) dX6_tells_265 rfl) ?_
  refine Cv.go (pc' := 269) (ls' := [.ref 40, .int a1, .int a2, .int a3, .int a4, .int a5, .null, .int x54, .int (a8 + (1 : Int32)), .int a10, .int a10]) (go_istore dX6_tells_267 (by decide) rfl) ?_
  exact c_X6_tells_269 K207 hK207 m a1 a2 a3 a4 a5 x54 (a8 + (1 : Int32)) a10 a10 hS
theorem c_X6_tells_220 (K207 : Mem → Int32 → Int32 → Int32 → Int32 → Int32 → Int32 → Int32 → Int32 → Int32 → Option (Int32 × Mem)) (hK207 : ∀ (m : Mem) (a1 : Int32) (a2 : Int32) (a3 : Int32) (a4 : Int32) (a5 : Int32) (a7 : Int32) (a8 : Int32) (a9 : Int32) (a10 : Int32) (hS : ShM m), Cv true (cX6_tells, 11, RX6, 48, ((false, none) : IK)) .ireturn eI (K207 m a1 a2 a3 a4 a5 a7 a8 a9 a10) m 207 [.ref 40, .int a1, .int a2, .int a3, .int a4, .int a5, .null, .int a7, .int a8, .int a9, .int a10] []) : ∀ (m : Mem) (a1 : Int32) (a2 : Int32) (a3 : Int32) (a4 : Int32) (a5 : Int32) (a7 : Int32) (a8 : Int32) (a9 : Int32) (a10 : Int32) (s0 : Int32) (s1 : Int32) (hS : ShM m), Cv true (cX6_tells, 11, RX6, 48, ((false, none) : IK)) .ireturn eI (F_X6_tells_220 K207 m a1 a2 a3 a4 a5 a7 a8 a9 a10 s0 s1) m 220 [.ref 40, .int a1, .int a2, .int a3, .int a4, .int a5, .null, .int a7, .int a8, .int a9, .int a10] [.int s0, .int s1] := by
  intro m a1 a2 a3 a4 a5 a7 a8 a9 a10 s0 s1 hS
  unfold F_X6_tells_220
  refine Cv.ite (fun h35 => ?_) (fun h35 => ?_)
  · refine Cv.go (pc' := 275) (go_icmp_lt_t (tgt := 275) dX6_tells_220 rfl h35) ?_
    refine Cv.go (pc' := 276) (go_aload_n (i := 0) (x := 40) dX6_tells_275 rfl rfl) ?_
    refine Cv.go (pc' := 278) (go_iload (i := 4) (x := a4) dX6_tells_276 rfl) ?_
    refine Cv.go (pc' := 279) (go_iload_n (i := 2) (x := a2) dX6_tells_278 rfl rfl) ?_
    refine Cv.go (pc' := 281) (go_iload (i := 5) (x := a5) dX6_tells_279 rfl) ?_
    refine Cv.bnd fun v36 m37 e38 => ?_
    have C39 := kc_X6_lays m a4 a2 a5 hS v36 m37 e38
    refine Cv.go (pc' := 284) (st' := []) (go_callV (As := [.int a4, .int a2, .int a5]) (st := []) C39 (by decide) ok_X6_lays li_X6_lays ls_X6_lays lm_X6_87 cls6 (sx_k40 hS) rfl rfl (Nat.le_of_ble_eq_true rfl) dX6_tells_281) ?_
    have zm37 := C39.1.2.2 rfl
    have hS := hS.sh zm37
    refine Cv.go (pc' := 285) (go_iload_n (i := 3) (x := a3) dX6_tells_284 rfl rfl) ?_
    refine Cv.go (pc' := 286) (go_iconst dX6_tells_285 ic_4) ?_
    refine Cv.ite (fun h40 => ?_) (fun h40 => ?_)
    · refine Cv.go (pc' := 295) (go_icmp_eq_t (tgt := 295) dX6_tells_286 rfl h40) ?_
      refine Cv.go (pc' := 297) (go_iload (i := 8) (x := a8) dX6_tells_295 rfl) ?_
      refine Cv.go (pc' := 318) (go_goto (tgt := 318) dX6_tells_297 rfl) ?_
      exact Cv.ret dX6_tells_318 rfl
    · refine Cv.go (pc' := 289) (go_icmp_eq_f 295 dX6_tells_286 rfl h40) ?_
      refine Cv.go (pc' := 290) (go_iload_n (i := 3) (x := a3) dX6_tells_289 rfl rfl) ?_
      refine Cv.go (pc' := 292) (go_bipush dX6_tells_290 ib_6) ?_
      refine Cv.ite (fun h41 => ?_) (fun h41 => ?_)
      · refine Cv.go (pc' := 295) (go_icmp_ne_f 300 dX6_tells_292 rfl h41) ?_
        refine Cv.go (pc' := 297) (go_iload (i := 8) (x := a8) dX6_tells_295 rfl) ?_
        refine Cv.go (pc' := 318) (go_goto (tgt := 318) dX6_tells_297 rfl) ?_
        exact Cv.ret dX6_tells_318 rfl
      · refine Cv.go (pc' := 300) (go_icmp_ne_t (tgt := 300) dX6_tells_292 rfl h41) ?_
        refine Cv.go (pc' := 301) (go_iload_n (i := 3) (x := a3) dX6_tells_300 rfl rfl) ?_
        refine Cv.go (pc' := 302) (go_iconst dX6_tells_301 ic_5) ?_
        refine Cv.ite (fun h42 => ?_) (fun h42 => ?_)
        · refine Cv.go (pc' := 311) (go_icmp_eq_t (tgt := 311) dX6_tells_302 rfl h42) ?_
          refine Cv.go (pc' := 313) (go_iload (i := 9) (x := a9) dX6_tells_311 rfl) ?_
          refine Cv.go (pc' := 318) (go_goto (tgt := 318) dX6_tells_313 rfl) ?_
          exact Cv.ret dX6_tells_318 rfl
        · refine Cv.go (pc' := 305) (go_icmp_eq_f 311 dX6_tells_302 rfl h42) ?_
          refine Cv.go (pc' := 306) (go_iload_n (i := 3) (x := a3) dX6_tells_305 rfl rfl) ?_
          refine Cv.go (pc' := 308) (go_bipush dX6_tells_306 ib_7) ?_
          refine Cv.ite (fun h43 => ?_) (fun h43 => ?_)
          · refine Cv.go (pc' := 311) (go_icmp_ne_f 316 dX6_tells_308 rfl h43) ?_
            refine Cv.go (pc' := 313) (go_iload (i := 9) (x := a9) dX6_tells_311 rfl) ?_
            refine Cv.go (pc' := 318) (go_goto (tgt := 318) dX6_tells_313 rfl) ?_
            exact Cv.ret dX6_tells_318 rfl
          · refine Cv.go (pc' := 316) (go_icmp_ne_t (tgt := 316) dX6_tells_308 rfl h43) ?_
            refine Cv.go (pc' := 318) (go_iload (i := 7) (x := a7) dX6_tells_316 rfl) ?_
            exact Cv.ret dX6_tells_318 rfl
  · refine Cv.go (pc' := 223) (go_icmp_lt_f 275 dX6_tells_220 rfl h35) ?_
    refine Cv.go (pc' := 224) (go_aload_n (i := 0) (x := 40) dX6_tells_223 rfl rfl) ?_
    refine Cv.go (pc' := 226) (go_iload (i := 4) (x := a4) dX6_tells_224 rfl) ?_
    refine Cv.go (pc' := 227) (go_iload_n (i := 2) (x := a2) dX6_tells_226 rfl rfl) ?_
    refine Cv.go (pc' := 229) (go_iload (i := 10) (x := a10) dX6_tells_227 rfl) ?_
    refine Cv.bnd fun v44 m45 e46 => ?_
    have C47 := kc_X6_lays m a4 a2 a10 hS v44 m45 e46
    refine Cv.go (pc' := 232) (st' := []) (go_callV (As := [.int a4, .int a2, .int a10]) (st := []) C47 (by decide) ok_X6_lays li_X6_lays ls_X6_lays lm_X6_87 cls6 (sx_k40 hS) rfl rfl (Nat.le_of_ble_eq_true rfl) dX6_tells_229) ?_
    have zm45 := C47.1.2.2 rfl
    have hS := hS.sh zm45
    refine Cv.go (pc' := 233) (go_aload_n (i := 0) (x := 40) dX6_tells_232 rfl rfl) ?_
    refine Cv.go (pc' := 234) (go_iload_n (i := 1) (x := a1) dX6_tells_233 rfl rfl) ?_
    refine Cv.go (pc' := 235) (go_iload_n (i := 2) (x := a2) dX6_tells_234 rfl rfl) ?_
    refine Cv.bnd fun v48 m49 e50 => ?_
    have C51 := kc_X6_firstOther m45 a1 a2 hS v48 m49 e50
    refine Cv.go (pc' := 238) (st' := [.int v48]) (go_callV (As := [.int a1, .int a2]) (st := []) C51 (by decide) ok_X6_firstOther li_X6_firstOther ls_X6_firstOther lm_X6_396 cls6 (sx_k40 hS) rfl rfl (Nat.le_of_ble_eq_true rfl) dX6_tells_235) ?_
    have zm49 := C51.1.2.2 rfl
    have hS := hS.sh zm49
    refine Cv.go (pc' := 239) (go_iconst dX6_tells_238 ic_n1) ?_
    refine Cv.ite (fun h52 => ?_) (fun h52 => ?_)
    · refine Cv.go (pc' := 242) (go_icmp_ne_f 269 dX6_tells_239 rfl h52) ?_
      refine Cv.go (pc' := 244) (go_iload (i := 7) (x := a7) dX6_tells_242 rfl) ?_
      refine Cv.go (pc' := 246) (go_iload (i := 10) (x := a10) dX6_tells_244 rfl) ?_
      refine Cv.go (pc' := 248) (go_bipush dX6_tells_246 ib_10) ?_
      refine Cv.ite (fun h53 => ?_) (fun h53 => ?_)
      · refine Cv.go (pc' := 258) (go_icmp_ge_t (tgt := 258) dX6_tells_248 rfl h53) ?_
        refine Cv.go (pc' := 259) (go_iconst dX6_tells_258 ic_0) ?_
        refine Cv.weak (ls' := [.ref 40, .int a1, .int a2, .int a3, .int a4, .int a5, .null, .null, .int a8, .null, .int a10]) (⟨Or.inr rfl, ⟨Or.inr rfl, ⟨Or.inr rfl, ⟨Or.inr rfl, ⟨Or.inr rfl, ⟨Or.inr rfl, ⟨Or.inr rfl, ⟨Or.inl rfl, ⟨Or.inr rfl, ⟨Or.inl rfl, ⟨Or.inr rfl, True.intro⟩⟩⟩⟩⟩⟩⟩⟩⟩⟩⟩) ?_
        exact c_X6_tells_259 K207 hK207 m49 a1 a2 a3 a4 a5 a8 a10 (0 : Int32) a7 hS
      · refine Cv.go (pc' := 251) (go_icmp_ge_f 258 dX6_tells_248 rfl h53) ?_
        refine Cv.go (pc' := 252) (go_iconst dX6_tells_251 ic_1) ?_
        refine Cv.go (pc' := 254) (go_iload (i := 10) (x := a10) dX6_tells_252 rfl) ?_
        refine Cv.go (pc' := 255) (go_ishl dX6_tells_254) ?_
        refine Cv.go (pc' := 259) (go_goto (tgt := 259) dX6_tells_255 rfl) ?_
        refine Cv.weak (ls' := [.ref 40, .int a1, .int a2, .int a3, .int a4, .int a5, .null, .null, .int a8, .null, .int a10]) (⟨Or.inr rfl, ⟨Or.inr rfl, ⟨Or.inr rfl, ⟨Or.inr rfl, ⟨Or.inr rfl, ⟨Or.inr rfl, ⟨Or.inr rfl, ⟨Or.inl rfl, ⟨Or.inr rfl, ⟨Or.inl rfl, ⟨Or.inr rfl, True.intro⟩⟩⟩⟩⟩⟩⟩⟩⟩⟩⟩) ?_
        exact c_X6_tells_259 K207 hK207 m49 a1 a2 a3 a4 a5 a8 a10 ((1 : Int32) <<< (a10 &&& 31)) a7 hS
    · refine Cv.go (pc' := 269) (go_icmp_ne_t (tgt := 269) dX6_tells_239 rfl h52) ?_
      exact c_X6_tells_269 K207 hK207 m49 a1 a2 a3 a4 a5 a7 a8 a9 a10 hS
theorem c_X6_tells_207 : ∀ n, ∀ (m : Mem) (a1 : Int32) (a2 : Int32) (a3 : Int32) (a4 : Int32) (a5 : Int32) (a7 : Int32) (a8 : Int32) (a9 : Int32) (a10 : Int32) (hS : ShM m), Cv true (cX6_tells, 11, RX6, 48, ((false, none) : IK)) .ireturn eI (F_X6_tells_207 n m a1 a2 a3 a4 a5 a7 a8 a9 a10) m 207 [.ref 40, .int a1, .int a2, .int a3, .int a4, .int a5, .null, .int a7, .int a8, .int a9, .int a10] [] := by
  intro n
  induction n with
  | zero => intro m a1 a2 a3 a4 a5 a7 a8 a9 a10 hS; exact Cv.no
  | succ n ih =>
    intro m a1 a2 a3 a4 a5 a7 a8 a9 a10 hS
    unfold F_X6_tells_207
    refine Cv.go (pc' := 209) (go_iload (i := 10) (x := a10) dX6_tells_207 rfl) ?_
    refine Cv.go (pc' := 211) (go_iload (i := 4) (x := a4) dX6_tells_209 rfl) ?_
    refine Cv.go (pc' := 212) (go_iconst dX6_tells_211 ic_2) ?_
    refine Cv.ite (fun h34 => ?_) (fun h34 => ?_)
    · refine Cv.go (pc' := 215) (go_icmp_ne_f 219 dX6_tells_212 rfl h34) ?_
      refine Cv.go (pc' := 216) (go_iconst dX6_tells_215 ic_1) ?_
      refine Cv.go (pc' := 220) (go_goto (tgt := 220) dX6_tells_216 rfl) ?_
      exact c_X6_tells_220 (F_X6_tells_207 n) ih m a1 a2 a3 a4 a5 a7 a8 a9 a10 (1 : Int32) a10 hS
    · refine Cv.go (pc' := 219) (go_icmp_ne_t (tgt := 219) dX6_tells_212 rfl h34) ?_
      refine Cv.go (pc' := 220) (go_iconst dX6_tells_219 ic_0) ?_
      exact c_X6_tells_220 (F_X6_tells_207 n) ih m a1 a2 a3 a4 a5 a7 a8 a9 a10 (0 : Int32) a10 hS
theorem c_X6_tells_192 : ∀ (m : Mem) (a1 : Int32) (a2 : Int32) (a3 : Int32) (a4 : Int32) (a5 : Int32) (s0 : Int32) (hS : ShM m), Cv true (cX6_tells, 11, RX6, 48, ((false, none) : IK)) .ireturn eI (F_X6_tells_192 m a1 a2 a3 a4 a5 s0) m 192 [.ref 40, .int a1, .int a2, .int a3, .int a4, .int a5, .null, .null, .null, .null, .null] [.int s0] := by
  intro m a1 a2 a3 a4 a5 s0 hS
  unfold F_X6_tells_192
  refine Cv.go (pc' := 194) (ls' := [.ref 40, .int a1, .int a2, .int a3, .int a4, .int a5, .int s0, .null, .null, .null, .null]) (go_istore dX6_tells_192 (by decide) rfl) ?_
  refine Cv.go (pc' := 195) (go_iconst dX6_tells_194 ic_0) ?_
  refine Cv.go (pc' := 197) (ls' := [.ref 40, .int a1, .int a2, .int a3, .int a4, .int a5, .int s0, .int (0 : Int32), .null, .null, .null]) (go_istore dX6_tells_195 (by decide) rfl) ?_
  refine Cv.go (pc' := 198) (go_iconst dX6_tells_197 ic_0) ?_
  refine Cv.go (pc' := 200) (ls' := [.ref 40, .int a1, .int a2, .int a3, .int a4, .int a5, .int s0, .int (0 : Int32), .int (0 : Int32), .null, .null]) (go_istore dX6_tells_198 (by decide) rfl) ?_
  refine Cv.go (pc' := 201) (go_iconst dX6_tells_200 ic_n1) ?_
  refine Cv.go (pc' := 203) (ls' := [.ref 40, .int a1, .int a2, .int a3, .int a4, .int a5, .int s0, .int (0 : Int32), .int (0 : Int32), .int (-1 : Int32), .null]) (go_istore dX6_tells_201 (by decide) rfl) ?_
  refine Cv.go (pc' := 205) (go_iload (i := 6) (x := s0) dX6_tells_203 rfl) ?_
  refine Cv.go (pc' := 207) (ls' := [.ref 40, .int a1, .int a2, .int a3, .int a4, .int a5, .int s0, .int (0 : Int32), .int (0 : Int32), .int (-1 : Int32), .int s0]) (go_istore dX6_tells_205 (by decide) rfl) ?_
  refine Cv.weak (ls' := [.ref 40, .int a1, .int a2, .int a3, .int a4, .int a5, .null, .int (0 : Int32), .int (0 : Int32), .int (-1 : Int32), .int s0]) (⟨Or.inr rfl, ⟨Or.inr rfl, ⟨Or.inr rfl, ⟨Or.inr rfl, ⟨Or.inr rfl, ⟨Or.inr rfl, ⟨Or.inl rfl, ⟨Or.inr rfl, ⟨Or.inr rfl, ⟨Or.inr rfl, ⟨Or.inr rfl, True.intro⟩⟩⟩⟩⟩⟩⟩⟩⟩⟩⟩) ?_
  exact c_X6_tells_207 FU m a1 a2 a3 a4 a5 (0 : Int32) (0 : Int32) (-1 : Int32) s0 hS
theorem c_X6_tells_185 : ∀ (m : Mem) (a1 : Int32) (a2 : Int32) (a3 : Int32) (a4 : Int32) (a5 : Int32) (hS : ShM m), Cv true (cX6_tells, 11, RX6, 48, ((false, none) : IK)) .ireturn eI (F_X6_tells_185 m a1 a2 a3 a4 a5) m 185 [.ref 40, .int a1, .int a2, .int a3, .int a4, .int a5, .null, .null, .null, .null, .null] [] := by
  intro m a1 a2 a3 a4 a5 hS
  unfold F_X6_tells_185
  refine Cv.go (pc' := 187) (go_bipush dX6_tells_185 ib_9) ?_
  refine Cv.go (pc' := 192) (go_goto (tgt := 192) dX6_tells_187 rfl) ?_
  exact c_X6_tells_192 m a1 a2 a3 a4 a5 (9 : Int32) hS
theorem c_X6_tells_144 : ∀ (m : Mem) (a1 : Int32) (a2 : Int32) (a3 : Int32) (a4 : Int32) (s0 : Int32) (hS : ShM m), Cv true (cX6_tells, 11, RX6, 48, ((false, none) : IK)) .ireturn eI (F_X6_tells_144 m a1 a2 a3 a4 s0) m 144 [.ref 40, .int a1, .int a2, .int a3, .int a4, .null, .null, .null, .null, .null, .null] [.int s0] := by
  intro m a1 a2 a3 a4 s0 hS
  unfold F_X6_tells_144
  refine Cv.go (pc' := 146) (ls' := [.ref 40, .int a1, .int a2, .int a3, .int a4, .int s0, .null, .null, .null, .null, .null]) (go_istore dX6_tells_144 (by decide) rfl) ?_
  refine Cv.go (pc' := 148) (go_iload (i := 4) (x := a4) dX6_tells_146 rfl) ?_
  refine Cv.go (pc' := 150) (go_bipush dX6_tells_148 ib_7) ?_
  refine Cv.ite (fun h30 => ?_) (fun h30 => ?_)
  · refine Cv.go (pc' := 153) (go_icmp_ne_f 162 dX6_tells_150 rfl h30) ?_
    refine Cv.go (pc' := 154) (go_aload_n (i := 0) (x := 40) dX6_tells_153 rfl rfl) ?_
    refine Cv.go (pc' := 157) (go_getI (i := 3) cls6 (sx_k40 hS) (by decide) rfl lf_X6_61 (by decide) dX6_tells_154) ?_
    refine Cv.go (pc' := 158) (go_iconst dX6_tells_157 ic_1) ?_
    refine Cv.go (pc' := 159) (go_isub dX6_tells_158) ?_
    refine Cv.go (pc' := 192) (go_goto (tgt := 192) dX6_tells_159 rfl) ?_
    exact c_X6_tells_192 m a1 a2 a3 a4 s0 ((mD m 40 3) - (1 : Int32)) hS
  · refine Cv.go (pc' := 162) (go_icmp_ne_t (tgt := 162) dX6_tells_150 rfl h30) ?_
    refine Cv.go (pc' := 164) (go_iload (i := 4) (x := a4) dX6_tells_162 rfl) ?_
    refine Cv.go (pc' := 166) (go_bipush dX6_tells_164 ib_6) ?_
    refine Cv.ite (fun h31 => ?_) (fun h31 => ?_)
    · refine Cv.go (pc' := 169) (go_icmp_ne_f 173 dX6_tells_166 rfl h31) ?_
      refine Cv.go (pc' := 170) (go_iconst dX6_tells_169 ic_5) ?_
      refine Cv.go (pc' := 192) (go_goto (tgt := 192) dX6_tells_170 rfl) ?_
      exact c_X6_tells_192 m a1 a2 a3 a4 s0 (5 : Int32) hS
    · refine Cv.go (pc' := 173) (go_icmp_ne_t (tgt := 173) dX6_tells_166 rfl h31) ?_
      refine Cv.go (pc' := 175) (go_iload (i := 4) (x := a4) dX6_tells_173 rfl) ?_
      refine Cv.go (pc' := 176) (go_iconst dX6_tells_175 ic_1) ?_
      refine Cv.ite (fun h32 => ?_) (fun h32 => ?_)
      · refine Cv.go (pc' := 185) (go_icmp_eq_t (tgt := 185) dX6_tells_176 rfl h32) ?_
        exact c_X6_tells_185 m a1 a2 a3 a4 s0 hS
      · refine Cv.go (pc' := 179) (go_icmp_eq_f 185 dX6_tells_176 rfl h32) ?_
        refine Cv.go (pc' := 181) (go_iload (i := 4) (x := a4) dX6_tells_179 rfl) ?_
        refine Cv.go (pc' := 182) (go_iconst dX6_tells_181 ic_3) ?_
        refine Cv.ite (fun h33 => ?_) (fun h33 => ?_)
        · refine Cv.go (pc' := 185) (go_icmp_ne_f 190 dX6_tells_182 rfl h33) ?_
          exact c_X6_tells_185 m a1 a2 a3 a4 s0 hS
        · refine Cv.go (pc' := 190) (go_icmp_ne_t (tgt := 190) dX6_tells_182 rfl h33) ?_
          refine Cv.go (pc' := 192) (go_bipush dX6_tells_190 ib_99) ?_
          exact c_X6_tells_192 m a1 a2 a3 a4 s0 (99 : Int32) hS
theorem c_X6_tells_121 : ∀ (m : Mem) (a1 : Int32) (a2 : Int32) (a3 : Int32) (s0 : Int32) (hS : ShM m), Cv true (cX6_tells, 11, RX6, 48, ((false, none) : IK)) .ireturn eI (F_X6_tells_121 m a1 a2 a3 s0) m 121 [.ref 40, .int a1, .int a2, .int a3, .null, .null, .null, .null, .null, .null, .null] [.int s0] := by
  intro m a1 a2 a3 s0 hS
  unfold F_X6_tells_121
  refine Cv.go (pc' := 123) (ls' := [.ref 40, .int a1, .int a2, .int a3, .int s0, .null, .null, .null, .null, .null, .null]) (go_istore dX6_tells_121 (by decide) rfl) ?_
  refine Cv.go (pc' := 125) (go_iload (i := 4) (x := s0) dX6_tells_123 rfl) ?_
  refine Cv.go (pc' := 127) (go_bipush dX6_tells_125 ib_7) ?_
  refine Cv.ite (fun h25 => ?_) (fun h25 => ?_)
  · refine Cv.go (pc' := 130) (go_icmp_ne_f 137 dX6_tells_127 rfl h25) ?_
    refine Cv.go (pc' := 131) (go_aload_n (i := 0) (x := 40) dX6_tells_130 rfl rfl) ?_
    refine Cv.go (pc' := 134) (go_getI (i := 4) cls6 (sx_k40 hS) (by decide) rfl lf_X6_94 (by decide) dX6_tells_131) ?_
    refine Cv.go (pc' := 144) (go_goto (tgt := 144) dX6_tells_134 rfl) ?_
    exact c_X6_tells_144 m a1 a2 a3 s0 (mD m 40 4) hS
  · refine Cv.go (pc' := 137) (go_icmp_ne_t (tgt := 137) dX6_tells_127 rfl h25) ?_
    refine Cv.go (pc' := 138) (go_aload_n (i := 0) (x := 40) dX6_tells_137 rfl rfl) ?_
    refine Cv.go (pc' := 139) (go_iload_n (i := 2) (x := a2) dX6_tells_138 rfl rfl) ?_
    refine Cv.go (pc' := 141) (go_iload (i := 4) (x := s0) dX6_tells_139 rfl) ?_
    refine Cv.bnd fun v26 m27 e28 => ?_
    have C29 := kc_X6_told m a2 s0 hS v26 m27 e28
    refine Cv.go (pc' := 144) (st' := [.int v26]) (go_callV (As := [.int a2, .int s0]) (st := []) C29 (by decide) ok_X6_told li_X6_told ls_X6_told lm_X6_83 cls6 (sx_k40 hS) rfl rfl (Nat.le_of_ble_eq_true rfl) dX6_tells_141) ?_
    have zm27 := C29.1.2.2 rfl
    have hS := hS.sh zm27
    exact c_X6_tells_144 m27 a1 a2 a3 s0 v26 hS
theorem kc_X6_tells (m : Mem) (a1 : Int32) (a2 : Int32) (a3 : Int32) (hS : ShM m) : ∀ v mE, F_X6_tells m a1 a2 a3 = some (v, mE) → Con true kX6_tells 48 [.ref 40, .int a1, .int a2, .int a3] m (eI v) mE := by
  refine Con.of (ini := false) (ls0 := [.ref 40, .int a1, .int a2, .int a3, .null, .null, .null, .null, .null, .null, .null]) (ri := .ireturn) (by decide) (by intro z; cases z) rfl (Nat.le_of_ble_eq_true rfl) (fun v mE _ => RetTy.i) ?_
  show Cv true (cX6_tells, 11, RX6, 48, ((false, none) : IK)) .ireturn eI (F_X6_tells m a1 a2 a3) m 0 [.ref 40, .int a1, .int a2, .int a3, .null, .null, .null, .null, .null, .null, .null] []
  unfold F_X6_tells
  refine Cv.go (pc' := 1) (go_iload_n (i := 1) (x := a1) dX6_tells_0 rfl rfl) ?_
  refine Cv.bnd fun v1 m2 e3 => ?_
  have C4 := kc_X6_isSheet m a1 v1 m2 e3
  refine Cv.go (pc' := 4) (st' := [.int (bz v1)]) (go_callS (As := [.int a1]) (st := []) C4 (by decide) ok_X6_isSheet lt_X6_isSheet lm_X6_399 rfl rfl (Nat.le_of_ble_eq_true rfl) dX6_tells_1) ?_
  have zm2 := C4.1.2.2 rfl
  have hS := hS.sh zm2
  refine Cv.ite (fun h5 => ?_) (fun h5 => ?_)
  · refine Cv.go (pc' := 27) (go_if_eq_t (tgt := 27) dX6_tells_4 rfl h5) ?_
    refine Cv.go (pc' := 29) (go_bipush dX6_tells_27 ib_n2) ?_
    exact Cv.ret dX6_tells_29 rfl
  · refine Cv.go (pc' := 7) (go_if_eq_f 27 dX6_tells_4 rfl h5) ?_
    refine Cv.go (pc' := 8) (go_aload_n (i := 0) (x := 40) dX6_tells_7 rfl rfl) ?_
    refine Cv.go (pc' := 9) (go_iload_n (i := 2) (x := a2) dX6_tells_8 rfl rfl) ?_
    refine Cv.bnd fun v6 m7 e8 => ?_
    have C9 := kc_X6_isCoin m2 a2 hS v6 m7 e8
    refine Cv.go (pc' := 12) (st' := [.int (bz v6)]) (go_callV (As := [.int a2]) (st := []) C9 (by decide) ok_X6_isCoin li_X6_isCoin ls_X6_isCoin lm_X6_75 cls6 (sx_k40 hS) rfl rfl (Nat.le_of_ble_eq_true rfl) dX6_tells_9) ?_
    have zm7 := C9.1.2.2 rfl
    have hS := hS.sh zm7
    refine Cv.ite (fun h10 => ?_) (fun h10 => ?_)
    · refine Cv.go (pc' := 27) (go_if_eq_t (tgt := 27) dX6_tells_12 rfl h10) ?_
      refine Cv.go (pc' := 29) (go_bipush dX6_tells_27 ib_n2) ?_
      exact Cv.ret dX6_tells_29 rfl
    · refine Cv.go (pc' := 15) (go_if_eq_f 27 dX6_tells_12 rfl h10) ?_
      refine Cv.go (pc' := 16) (go_iload_n (i := 3) (x := a3) dX6_tells_15 rfl rfl) ?_
      refine Cv.go (pc' := 17) (go_i2l dX6_tells_16) ?_
      refine Cv.go (pc' := 18) (go_lconst (v := 0) dX6_tells_17 (by decide)) ?_
      refine Cv.go (pc' := 21) (go_ldc2 dX6_tells_18 ll_X6_97) ?_
      refine Cv.bnd fun v11 m12 e13 => ?_
      have C14 := kc_X6_in m7 a3.toInt64 (0 : Int64) (9 : Int64) v11 m12 e13
      refine Cv.go (pc' := 24) (st' := [.int (bz v11)]) (go_callS (As := [.long a3.toInt64, .long (0 : Int64), .long (9 : Int64)]) (st := []) C14 (by decide) ok_X6_in lt_X6_in lm_X6_67 rfl rfl (Nat.le_of_ble_eq_true rfl) dX6_tells_21) ?_
      have zm12 := C14.1.2.2 rfl
      have hS := hS.sh zm12
      refine Cv.ite (fun h15 => ?_) (fun h15 => ?_)
      · refine Cv.go (pc' := 27) (go_if_ne_f 30 dX6_tells_24 rfl h15) ?_
        refine Cv.go (pc' := 29) (go_bipush dX6_tells_27 ib_n2) ?_
        exact Cv.ret dX6_tells_29 rfl
      · refine Cv.go (pc' := 30) (go_if_ne_t (tgt := 30) dX6_tells_24 rfl h15) ?_
        refine Cv.go (pc' := 31) (go_aload_n (i := 0) (x := 40) dX6_tells_30 rfl rfl) ?_
        refine Cv.go (pc' := 34) (go_getR (i := 34) cls6 (sx_k40 hS) (by decide) rfl lf_X6_44 (Or.inr ⟨_, rfl⟩) (sx_r40_34 hS) dX6_tells_31) ?_
        refine Cv.go (pc' := 35) (go_iload_n (i := 1) (x := a1) dX6_tells_34 rfl rfl) ?_
        refine Cv.gif fun g16 => ?_
        refine Cv.go (pc' := 36) (go_baload (sx_k50 hS) g16 dX6_tells_35) ?_
        refine Cv.ite (fun h17 => ?_) (fun h17 => ?_)
        · refine Cv.go (pc' := 39) (go_if_ne_f 42 dX6_tells_36 rfl h17) ?_
          refine Cv.go (pc' := 41) (go_bipush dX6_tells_39 ib_n11) ?_
          exact Cv.ret dX6_tells_41 rfl
        · refine Cv.go (pc' := 42) (go_if_ne_t (tgt := 42) dX6_tells_36 rfl h17) ?_
          refine Cv.go (pc' := 43) (go_iload_n (i := 3) (x := a3) dX6_tells_42 rfl rfl) ?_
          refine Cv.ite (fun h18 => ?_) (fun h18 => ?_)
          · refine Cv.go (pc' := 52) (go_if_eq_t (tgt := 52) dX6_tells_43 rfl h18) ?_
            exact c_X6_tells_52 m12 a1 a2 a3 hS
          · refine Cv.go (pc' := 46) (go_if_eq_f 52 dX6_tells_43 rfl h18) ?_
            refine Cv.go (pc' := 47) (go_iload_n (i := 3) (x := a3) dX6_tells_46 rfl rfl) ?_
            refine Cv.go (pc' := 49) (go_bipush dX6_tells_47 ib_9) ?_
            refine Cv.ite (fun h19 => ?_) (fun h19 => ?_)
            · refine Cv.go (pc' := 52) (go_icmp_ne_f 71 dX6_tells_49 rfl h19) ?_
              exact c_X6_tells_52 m12 a1 a2 a3 hS
            · refine Cv.go (pc' := 71) (go_icmp_ne_t (tgt := 71) dX6_tells_49 rfl h19) ?_
              refine Cv.go (pc' := 72) (go_iload_n (i := 3) (x := a3) dX6_tells_71 rfl rfl) ?_
              refine Cv.go (pc' := 73) (go_iconst dX6_tells_72 ic_1) ?_
              refine Cv.ite (fun h20 => ?_) (fun h20 => ?_)
              · refine Cv.go (pc' := 76) (go_icmp_ne_f 81 dX6_tells_73 rfl h20) ?_
                refine Cv.go (pc' := 78) (go_bipush dX6_tells_76 ib_6) ?_
                refine Cv.go (pc' := 121) (go_goto (tgt := 121) dX6_tells_78 rfl) ?_
                exact c_X6_tells_121 m12 a1 a2 a3 (6 : Int32) hS
              · refine Cv.go (pc' := 81) (go_icmp_ne_t (tgt := 81) dX6_tells_73 rfl h20) ?_
                refine Cv.go (pc' := 82) (go_iload_n (i := 3) (x := a3) dX6_tells_81 rfl rfl) ?_
                refine Cv.go (pc' := 83) (go_iconst dX6_tells_82 ic_2) ?_
                refine Cv.ite (fun h21 => ?_) (fun h21 => ?_)
                · refine Cv.go (pc' := 86) (go_icmp_ne_f 90 dX6_tells_83 rfl h21) ?_
                  refine Cv.go (pc' := 87) (go_iconst dX6_tells_86 ic_1) ?_
                  refine Cv.go (pc' := 121) (go_goto (tgt := 121) dX6_tells_87 rfl) ?_
                  exact c_X6_tells_121 m12 a1 a2 a3 (1 : Int32) hS
                · refine Cv.go (pc' := 90) (go_icmp_ne_t (tgt := 90) dX6_tells_83 rfl h21) ?_
                  refine Cv.go (pc' := 91) (go_iload_n (i := 3) (x := a3) dX6_tells_90 rfl rfl) ?_
                  refine Cv.go (pc' := 92) (go_iconst dX6_tells_91 ic_3) ?_
                  refine Cv.ite (fun h22 => ?_) (fun h22 => ?_)
                  · refine Cv.go (pc' := 95) (go_icmp_ne_f 99 dX6_tells_92 rfl h22) ?_
                    refine Cv.go (pc' := 96) (go_iconst dX6_tells_95 ic_3) ?_
                    refine Cv.go (pc' := 121) (go_goto (tgt := 121) dX6_tells_96 rfl) ?_
                    exact c_X6_tells_121 m12 a1 a2 a3 (3 : Int32) hS
                  · refine Cv.go (pc' := 99) (go_icmp_ne_t (tgt := 99) dX6_tells_92 rfl h22) ?_
                    refine Cv.go (pc' := 100) (go_iload_n (i := 3) (x := a3) dX6_tells_99 rfl rfl) ?_
                    refine Cv.go (pc' := 102) (go_bipush dX6_tells_100 ib_6) ?_
                    refine Cv.ite (fun h23 => ?_) (fun h23 => ?_)
                    · refine Cv.go (pc' := 109) (go_icmp_ge_t (tgt := 109) dX6_tells_102 rfl h23) ?_
                      refine Cv.go (pc' := 110) (go_iload_n (i := 3) (x := a3) dX6_tells_109 rfl rfl) ?_
                      refine Cv.go (pc' := 112) (go_bipush dX6_tells_110 ib_8) ?_
                      refine Cv.ite (fun h24 => ?_) (fun h24 => ?_)
                      · refine Cv.go (pc' := 119) (go_icmp_ge_t (tgt := 119) dX6_tells_112 rfl h24) ?_
                        refine Cv.go (pc' := 121) (go_bipush dX6_tells_119 ib_7) ?_
                        exact c_X6_tells_121 m12 a1 a2 a3 (7 : Int32) hS
                      · refine Cv.go (pc' := 115) (go_icmp_ge_f 119 dX6_tells_112 rfl h24) ?_
                        refine Cv.go (pc' := 116) (go_iconst dX6_tells_115 ic_2) ?_
                        refine Cv.go (pc' := 121) (go_goto (tgt := 121) dX6_tells_116 rfl) ?_
                        exact c_X6_tells_121 m12 a1 a2 a3 (2 : Int32) hS
                    · refine Cv.go (pc' := 105) (go_icmp_ge_f 109 dX6_tells_102 rfl h23) ?_
                      refine Cv.go (pc' := 106) (go_iconst dX6_tells_105 ic_4) ?_
                      refine Cv.go (pc' := 121) (go_goto (tgt := 121) dX6_tells_106 rfl) ?_
                      exact c_X6_tells_121 m12 a1 a2 a3 (4 : Int32) hS
theorem c_X6_sheet_77 : ∀ n, ∀ (m : Mem) (a1 : Int32) (a2 : Int32) (a3 : Int32) (a4 : Int32) (hS : ShM m), Cv true (cX6_sheet, 5, RX6, 2, ((false, none) : IK)) .ireturn eI (F_X6_sheet_77 n m a1 a2 a3 a4) m 77 [.ref 40, .int a1, .int a2, .int a3, .int a4] [] := by
  intro n
  induction n with
  | zero => intro m a1 a2 a3 a4 hS; exact Cv.no
  | succ n ih =>
    intro m a1 a2 a3 a4 hS
    unfold F_X6_sheet_77
    refine Cv.go (pc' := 79) (go_iload (i := 4) (x := a4) dX6_sheet_77 rfl) ?_
    refine Cv.go (pc' := 80) (go_iload_n (i := 3) (x := a3) dX6_sheet_79 rfl rfl) ?_
    refine Cv.ite (fun h23 => ?_) (fun h23 => ?_)
    · refine Cv.go (pc' := 106) (go_icmp_ge_t (tgt := 106) dX6_sheet_80 rfl h23) ?_
      refine Cv.go (pc' := 107) (go_iconst dX6_sheet_106 ic_1) ?_
      exact Cv.ret dX6_sheet_107 rfl
    · refine Cv.go (pc' := 83) (go_icmp_ge_f 106 dX6_sheet_80 rfl h23) ?_
      refine Cv.go (pc' := 84) (go_iload_n (i := 2) (x := a2) dX6_sheet_83 rfl rfl) ?_
      refine Cv.ite (fun h24 => ?_) (fun h24 => ?_)
      · refine Cv.go (pc' := 106) (go_if_lt_t (tgt := 106) dX6_sheet_84 rfl h24) ?_
        refine Cv.go (pc' := 107) (go_iconst dX6_sheet_106 ic_1) ?_
        exact Cv.ret dX6_sheet_107 rfl
      · refine Cv.go (pc' := 87) (go_if_lt_f 106 dX6_sheet_84 rfl h24) ?_
        refine Cv.go (pc' := 88) (go_aload_n (i := 0) (x := 40) dX6_sheet_87 rfl rfl) ?_
        refine Cv.go (pc' := 91) (go_getR (i := 37) cls6 (sx_k40 hS) (by decide) rfl lf_X6_54 (Or.inr ⟨_, rfl⟩) (sx_r40_37 hS) dX6_sheet_88) ?_
        refine Cv.go (pc' := 93) (go_bipush dX6_sheet_91 ib_40) ?_
        refine Cv.go (pc' := 94) (go_iload_n (i := 1) (x := a1) dX6_sheet_93 rfl rfl) ?_
        refine Cv.go (pc' := 95) (go_imul dX6_sheet_94) ?_
        refine Cv.go (pc' := 97) (go_iload (i := 4) (x := a4) dX6_sheet_95 rfl) ?_
        refine Cv.go (pc' := 98) (go_iadd dX6_sheet_97) ?_
        refine Cv.go (pc' := 99) (go_iconst dX6_sheet_98 ic_0) ?_
        refine Cv.gif fun g25 => ?_
        refine Cv.go (pc' := 100) (go_iastore (sx_k53 hS) g25 dX6_sheet_99) ?_
        refine Cv.namM fun m26 em26 => ?_
        have zm26 : SameSh m m26 := em26 ▸ SameSh.d
        have hS := hS.sh zm26
        refine Cv.go (pc' := 103) (ls' := [.ref 40, .int a1, .int a2, .int a3, .int (a4 + (1 : Int32))]) (go_iinc (x := a4) (v := a4 + (1 : Int32)) dX6_sheet_100 rfl rfl (by decide) rfl) ?_
        refine Cv.go (pc' := 77) (go_goto (tgt := 77) dX6_sheet_103 rfl) ?_
        exact ih m26 a1 a2 a3 (a4 + (1 : Int32)) hS
theorem c_X6_sheet_59 : ∀ (m : Mem) (a1 : Int32) (a2 : Int32) (a3 : Int32) (s0 : Int32) (s1 : Int32) (hS : ShM m), Cv true (cX6_sheet, 5, RX6, 2, ((false, none) : IK)) .ireturn eI (F_X6_sheet_59 m a1 a2 a3 s0 s1) m 59 [.ref 40, .int a1, .int a2, .int a3, .null] [.int s0, .int s1, .ref 50] := by
  intro m a1 a2 a3 s0 s1 hS
  unfold F_X6_sheet_59
  refine Cv.gif fun g17 => ?_
  refine Cv.gif fun g16 => ?_
  refine Cv.go (pc' := 60) (go_bastore (sx_k50 hS) g16 g17 dX6_sheet_59) ?_
  refine Cv.namM fun m18 em18 => ?_
  have zm18 : SameSh m m18 := em18 ▸ SameSh.d
  have hS := hS.sh zm18
  refine Cv.go (pc' := 61) (go_aload_n (i := 0) (x := 40) dX6_sheet_60 rfl rfl) ?_
  refine Cv.go (pc' := 64) (go_getR (i := 35) cls6 (sx_k40 hS) (by decide) rfl lf_X6_48 (Or.inr ⟨_, rfl⟩) (sx_r40_35 hS) dX6_sheet_61) ?_
  refine Cv.go (pc' := 65) (go_iload_n (i := 1) (x := a1) dX6_sheet_64 rfl rfl) ?_
  refine Cv.go (pc' := 66) (go_iload_n (i := 2) (x := a2) dX6_sheet_65 rfl rfl) ?_
  refine Cv.gif fun g19 => ?_
  refine Cv.go (pc' := 67) (go_iastore (sx_k51 hS) g19 dX6_sheet_66) ?_
  refine Cv.namM fun m20 em20 => ?_
  have zm20 : SameSh m18 m20 := em20 ▸ SameSh.d
  have hS := hS.sh zm20
  refine Cv.go (pc' := 68) (go_aload_n (i := 0) (x := 40) dX6_sheet_67 rfl rfl) ?_
  refine Cv.go (pc' := 71) (go_getR (i := 36) cls6 (sx_k40 hS) (by decide) rfl lf_X6_51 (Or.inr ⟨_, rfl⟩) (sx_r40_36 hS) dX6_sheet_68) ?_
  refine Cv.go (pc' := 72) (go_iload_n (i := 1) (x := a1) dX6_sheet_71 rfl rfl) ?_
  refine Cv.go (pc' := 73) (go_iload_n (i := 3) (x := a3) dX6_sheet_72 rfl rfl) ?_
  refine Cv.gif fun g21 => ?_
  refine Cv.go (pc' := 74) (go_iastore (sx_k52 hS) g21 dX6_sheet_73) ?_
  refine Cv.namM fun m22 em22 => ?_
  have zm22 : SameSh m20 m22 := em22 ▸ SameSh.d
  have hS := hS.sh zm22
  refine Cv.go (pc' := 75) (go_iconst dX6_sheet_74 ic_0) ?_
  refine Cv.go (pc' := 77) (ls' := [.ref 40, .int a1, .int a2, .int a3, .int (0 : Int32)]) (go_istore dX6_sheet_75 (by decide) rfl) ?_
  exact c_X6_sheet_77 FU m22 a1 a2 a3 (0 : Int32) hS
theorem c_X6_sheet_45 : ∀ (m : Mem) (a1 : Int32) (a2 : Int32) (a3 : Int32) (hS : ShM m), Cv true (cX6_sheet, 5, RX6, 2, ((false, none) : IK)) .ireturn eI (F_X6_sheet_45 m a1 a2 a3) m 45 [.ref 40, .int a1, .int a2, .int a3, .null] [] := by
  intro m a1 a2 a3 hS
  unfold F_X6_sheet_45
  refine Cv.go (pc' := 46) (go_aload_n (i := 0) (x := 40) dX6_sheet_45 rfl rfl) ?_
  refine Cv.go (pc' := 49) (go_getR (i := 34) cls6 (sx_k40 hS) (by decide) rfl lf_X6_44 (Or.inr ⟨_, rfl⟩) (sx_r40_34 hS) dX6_sheet_46) ?_
  refine Cv.go (pc' := 50) (go_iload_n (i := 1) (x := a1) dX6_sheet_49 rfl rfl) ?_
  refine Cv.go (pc' := 51) (go_iload_n (i := 2) (x := a2) dX6_sheet_50 rfl rfl) ?_
  refine Cv.ite (fun h15 => ?_) (fun h15 => ?_)
  · refine Cv.go (pc' := 58) (go_if_lt_t (tgt := 58) dX6_sheet_51 rfl h15) ?_
    refine Cv.go (pc' := 59) (go_iconst dX6_sheet_58 ic_0) ?_
    exact c_X6_sheet_59 m a1 a2 a3 (0 : Int32) a1 hS
  · refine Cv.go (pc' := 54) (go_if_lt_f 58 dX6_sheet_51 rfl h15) ?_
    refine Cv.go (pc' := 55) (go_iconst dX6_sheet_54 ic_1) ?_
    refine Cv.go (pc' := 59) (go_goto (tgt := 59) dX6_sheet_55 rfl) ?_
    exact c_X6_sheet_59 m a1 a2 a3 (1 : Int32) a1 hS
theorem c_X6_sheet_34 : ∀ (m : Mem) (a1 : Int32) (a2 : Int32) (a3 : Int32) (hS : ShM m), Cv true (cX6_sheet, 5, RX6, 2, ((false, none) : IK)) .ireturn eI (F_X6_sheet_34 m a1 a2 a3) m 34 [.ref 40, .int a1, .int a2, .int a3, .null] [] := by
  intro m a1 a2 a3 hS
  unfold F_X6_sheet_34
  refine Cv.go (pc' := 35) (go_iload_n (i := 2) (x := a2) dX6_sheet_34 rfl rfl) ?_
  refine Cv.ite (fun h13 => ?_) (fun h13 => ?_)
  · refine Cv.go (pc' := 45) (go_if_lt_t (tgt := 45) dX6_sheet_35 rfl h13) ?_
    exact c_X6_sheet_45 m a1 a2 a3 hS
  · refine Cv.go (pc' := 38) (go_if_lt_f 45 dX6_sheet_35 rfl h13) ?_
    refine Cv.go (pc' := 39) (go_iload_n (i := 3) (x := a3) dX6_sheet_38 rfl rfl) ?_
    refine Cv.ite (fun h14 => ?_) (fun h14 => ?_)
    · refine Cv.go (pc' := 45) (go_if_ge_t (tgt := 45) dX6_sheet_39 rfl h14) ?_
      exact c_X6_sheet_45 m a1 a2 a3 hS
    · refine Cv.go (pc' := 42) (go_if_ge_f 45 dX6_sheet_39 rfl h14) ?_
      refine Cv.go (pc' := 44) (go_bipush dX6_sheet_42 ib_n14) ?_
      exact Cv.ret dX6_sheet_44 rfl
theorem kc_X6_sheet (m : Mem) (a1 : Int32) (a2 : Int32) (a3 : Int32) (hS : ShM m) : ∀ v mE, F_X6_sheet m a1 a2 a3 = some (v, mE) → Con true kX6_sheet 2 [.ref 40, .int a1, .int a2, .int a3] m (eI v) mE := by
  refine Con.of (ini := false) (ls0 := [.ref 40, .int a1, .int a2, .int a3, .null]) (ri := .ireturn) (by decide) (by intro z; cases z) rfl (Nat.le_of_ble_eq_true rfl) (fun v mE _ => RetTy.i) ?_
  show Cv true (cX6_sheet, 5, RX6, 2, ((false, none) : IK)) .ireturn eI (F_X6_sheet m a1 a2 a3) m 0 [.ref 40, .int a1, .int a2, .int a3, .null] []
  unfold F_X6_sheet
  refine Cv.go (pc' := 1) (go_iload_n (i := 1) (x := a1) dX6_sheet_0 rfl rfl) ?_
  refine Cv.bnd fun v1 m2 e3 => ?_
  have C4 := kc_X6_isSheet m a1 v1 m2 e3
  refine Cv.go (pc' := 4) (st' := [.int (bz v1)]) (go_callS (As := [.int a1]) (st := []) C4 (by decide) ok_X6_isSheet lt_X6_isSheet lm_X6_399 rfl rfl (Nat.le_of_ble_eq_true rfl) dX6_sheet_1) ?_
  have zm2 := C4.1.2.2 rfl
  have hS := hS.sh zm2
  refine Cv.ite (fun h5 => ?_) (fun h5 => ?_)
  · refine Cv.go (pc' := 31) (go_if_eq_t (tgt := 31) dX6_sheet_4 rfl h5) ?_
    refine Cv.go (pc' := 33) (go_bipush dX6_sheet_31 ib_n2) ?_
    exact Cv.ret dX6_sheet_33 rfl
  · refine Cv.go (pc' := 7) (go_if_eq_f 31 dX6_sheet_4 rfl h5) ?_
    refine Cv.go (pc' := 8) (go_iload_n (i := 2) (x := a2) dX6_sheet_7 rfl rfl) ?_
    refine Cv.go (pc' := 9) (go_i2l dX6_sheet_8) ?_
    refine Cv.go (pc' := 12) (go_ldc2 dX6_sheet_9 ll_X6_425) ?_
    refine Cv.go (pc' := 15) (go_ldc2 dX6_sheet_12 ll_X6_427) ?_
    refine Cv.bnd fun v6 m7 e8 => ?_
    have C9 := kc_X6_in m2 a2.toInt64 (-1 : Int64) (2 : Int64) v6 m7 e8
    refine Cv.go (pc' := 18) (st' := [.int (bz v6)]) (go_callS (As := [.long a2.toInt64, .long (-1 : Int64), .long (2 : Int64)]) (st := []) C9 (by decide) ok_X6_in lt_X6_in lm_X6_67 rfl rfl (Nat.le_of_ble_eq_true rfl) dX6_sheet_15) ?_
    have zm7 := C9.1.2.2 rfl
    have hS := hS.sh zm7
    refine Cv.ite (fun h10 => ?_) (fun h10 => ?_)
    · refine Cv.go (pc' := 31) (go_if_eq_t (tgt := 31) dX6_sheet_18 rfl h10) ?_
      refine Cv.go (pc' := 33) (go_bipush dX6_sheet_31 ib_n2) ?_
      exact Cv.ret dX6_sheet_33 rfl
    · refine Cv.go (pc' := 21) (go_if_eq_f 31 dX6_sheet_18 rfl h10) ?_
      refine Cv.go (pc' := 22) (go_iload_n (i := 2) (x := a2) dX6_sheet_21 rfl rfl) ?_
      refine Cv.ite (fun h11 => ?_) (fun h11 => ?_)
      · refine Cv.go (pc' := 34) (go_if_lt_t (tgt := 34) dX6_sheet_22 rfl h11) ?_
        exact c_X6_sheet_34 m7 a1 a2 a3 hS
      · refine Cv.go (pc' := 25) (go_if_lt_f 34 dX6_sheet_22 rfl h11) ?_
        refine Cv.go (pc' := 26) (go_iload_n (i := 3) (x := a3) dX6_sheet_25 rfl rfl) ?_
        refine Cv.go (pc' := 28) (go_bipush dX6_sheet_26 ib_40) ?_
        refine Cv.ite (fun h12 => ?_) (fun h12 => ?_)
        · refine Cv.go (pc' := 34) (go_icmp_le_t (tgt := 34) dX6_sheet_28 rfl h12) ?_
          exact c_X6_sheet_34 m7 a1 a2 a3 hS
        · refine Cv.go (pc' := 31) (go_icmp_le_f 34 dX6_sheet_28 rfl h12) ?_
          refine Cv.go (pc' := 33) (go_bipush dX6_sheet_31 ib_n2) ?_
          exact Cv.ret dX6_sheet_33 rfl
theorem c_X6_film_45 : ∀ n, ∀ (m : Mem) (a1 : Int32) (a2 : Int32) (a3 : Int32) (a4 : Int32) (hS : ShM m), Cv true (cX6_film, 5, RX6, 46, ((false, none) : IK)) .ireturn eI (F_X6_film_45 n m a1 a2 a3 a4) m 45 [.ref 40, .int a1, .int a2, .int a3, .int a4] [] := by
  intro n
  induction n with
  | zero => intro m a1 a2 a3 a4 hS; exact Cv.no
  | succ n ih =>
    intro m a1 a2 a3 a4 hS
    unfold F_X6_film_45
    refine Cv.go (pc' := 47) (go_iload (i := 4) (x := a4) dX6_film_45 rfl) ?_
    refine Cv.go (pc' := 48) (go_iload_n (i := 3) (x := a3) dX6_film_47 rfl rfl) ?_
    refine Cv.ite (fun h24 => ?_) (fun h24 => ?_)
    · refine Cv.go (pc' := 79) (go_icmp_ge_t (tgt := 79) dX6_film_48 rfl h24) ?_
      refine Cv.go (pc' := 80) (go_aload_n (i := 0) (x := 40) dX6_film_79 rfl rfl) ?_
      refine Cv.bnd fun v25 m26 e27 => ?_
      have C28 := kc_X6_laysBack m hS v25 m26 e27
      refine Cv.go (pc' := 83) (st' := []) (go_callV (As := []) (st := []) C28 (by decide) ok_X6_laysBack li_X6_laysBack ls_X6_laysBack lm_X6_365 cls6 (sx_k40 hS) rfl rfl (Nat.le_of_ble_eq_true rfl) dX6_film_80) ?_
      have zm26 := C28.1.2.2 rfl
      have hS := hS.sh zm26
      refine Cv.go (pc' := 84) (go_iload_n (i := 3) (x := a3) dX6_film_83 rfl rfl) ?_
      exact Cv.ret dX6_film_84 rfl
    · refine Cv.go (pc' := 51) (go_icmp_ge_f 79 dX6_film_48 rfl h24) ?_
      refine Cv.go (pc' := 52) (go_aload_n (i := 0) (x := 40) dX6_film_51 rfl rfl) ?_
      refine Cv.go (pc' := 55) (go_getR (i := 37) cls6 (sx_k40 hS) (by decide) rfl lf_X6_54 (Or.inr ⟨_, rfl⟩) (sx_r40_37 hS) dX6_film_52) ?_
      refine Cv.go (pc' := 57) (go_bipush dX6_film_55 ib_40) ?_
      refine Cv.go (pc' := 58) (go_iload_n (i := 1) (x := a1) dX6_film_57 rfl rfl) ?_
      refine Cv.go (pc' := 59) (go_imul dX6_film_58) ?_
      refine Cv.go (pc' := 61) (go_iload (i := 4) (x := a4) dX6_film_59 rfl) ?_
      refine Cv.go (pc' := 62) (go_iadd dX6_film_61) ?_
      refine Cv.go (pc' := 63) (go_aload_n (i := 0) (x := 40) dX6_film_62 rfl rfl) ?_
      refine Cv.go (pc' := 64) (go_iload_n (i := 2) (x := a2) dX6_film_63 rfl rfl) ?_
      refine Cv.bnd fun v29 m30 e31 => ?_
      have C32 := kc_X6_worthOf m a2 hS v29 m30 e31
      refine Cv.go (pc' := 67) (st' := [.int v29, .int (((40 : Int32) * a1) + a4), .ref 53]) (go_callV (As := [.int a2]) (st := [.int (((40 : Int32) * a1) + a4), .ref 53]) C32 (by decide) ok_X6_worthOf li_X6_worthOf ls_X6_worthOf lm_X6_116 cls6 (sx_k40 hS) rfl rfl (Nat.le_of_ble_eq_true rfl) dX6_film_64) ?_
      have zm30 := C32.1.2.2 rfl
      have hS := hS.sh zm30
      refine Cv.gif fun g33 => ?_
      refine Cv.go (pc' := 68) (go_iastore (sx_k53 hS) g33 dX6_film_67) ?_
      refine Cv.namM fun m34 em34 => ?_
      have zm34 : SameSh m30 m34 := em34 ▸ SameSh.d
      have hS := hS.sh zm34
      refine Cv.go (pc' := 69) (go_aload_n (i := 0) (x := 40) dX6_film_68 rfl rfl) ?_
      refine Cv.bnd fun v35 m36 e37 => ?_
      have C38 := kc_X6_passes m34 hS v35 m36 e37
      refine Cv.go (pc' := 72) (st' := [.int v35]) (go_callV (As := []) (st := []) C38 (by decide) ok_X6_passes li_X6_passes ls_X6_passes lm_X6_341 cls6 (sx_k40 hS) rfl rfl (Nat.le_of_ble_eq_true rfl) dX6_film_69) ?_
      have zm36 := C38.1.2.2 rfl
      have hS := hS.sh zm36
      refine Cv.go (pc' := 73) (go_pop_i dX6_film_72) ?_
      refine Cv.go (pc' := 76) (ls' := [.ref 40, .int a1, .int a2, .int a3, .int (a4 + (1 : Int32))]) (go_iinc (x := a4) (v := a4 + (1 : Int32)) dX6_film_73 rfl rfl (by decide) rfl) ?_
      refine Cv.go (pc' := 45) (go_goto (tgt := 45) dX6_film_76 rfl) ?_
      exact ih m36 a1 a2 a3 (a4 + (1 : Int32)) hS
theorem kc_X6_film (m : Mem) (a1 : Int32) (a2 : Int32) (a3 : Int32) (hS : ShM m) : ∀ v mE, F_X6_film m a1 a2 a3 = some (v, mE) → Con true kX6_film 46 [.ref 40, .int a1, .int a2, .int a3] m (eI v) mE := by
  refine Con.of (ini := false) (ls0 := [.ref 40, .int a1, .int a2, .int a3, .null]) (ri := .ireturn) (by decide) (by intro z; cases z) rfl (Nat.le_of_ble_eq_true rfl) (fun v mE _ => RetTy.i) ?_
  show Cv true (cX6_film, 5, RX6, 46, ((false, none) : IK)) .ireturn eI (F_X6_film m a1 a2 a3) m 0 [.ref 40, .int a1, .int a2, .int a3, .null] []
  unfold F_X6_film
  refine Cv.go (pc' := 1) (go_iload_n (i := 1) (x := a1) dX6_film_0 rfl rfl) ?_
  refine Cv.bnd fun v1 m2 e3 => ?_
  have C4 := kc_X6_isSheet m a1 v1 m2 e3
  refine Cv.go (pc' := 4) (st' := [.int (bz v1)]) (go_callS (As := [.int a1]) (st := []) C4 (by decide) ok_X6_isSheet lt_X6_isSheet lm_X6_399 rfl rfl (Nat.le_of_ble_eq_true rfl) dX6_film_1) ?_
  have zm2 := C4.1.2.2 rfl
  have hS := hS.sh zm2
  refine Cv.ite (fun h5 => ?_) (fun h5 => ?_)
  · refine Cv.go (pc' := 27) (go_if_eq_t (tgt := 27) dX6_film_4 rfl h5) ?_
    refine Cv.go (pc' := 29) (go_bipush dX6_film_27 ib_n2) ?_
    exact Cv.ret dX6_film_29 rfl
  · refine Cv.go (pc' := 7) (go_if_eq_f 27 dX6_film_4 rfl h5) ?_
    refine Cv.go (pc' := 8) (go_aload_n (i := 0) (x := 40) dX6_film_7 rfl rfl) ?_
    refine Cv.go (pc' := 9) (go_iload_n (i := 2) (x := a2) dX6_film_8 rfl rfl) ?_
    refine Cv.bnd fun v6 m7 e8 => ?_
    have C9 := kc_X6_isCoin m2 a2 hS v6 m7 e8
    refine Cv.go (pc' := 12) (st' := [.int (bz v6)]) (go_callV (As := [.int a2]) (st := []) C9 (by decide) ok_X6_isCoin li_X6_isCoin ls_X6_isCoin lm_X6_75 cls6 (sx_k40 hS) rfl rfl (Nat.le_of_ble_eq_true rfl) dX6_film_9) ?_
    have zm7 := C9.1.2.2 rfl
    have hS := hS.sh zm7
    refine Cv.ite (fun h10 => ?_) (fun h10 => ?_)
    · refine Cv.go (pc' := 27) (go_if_eq_t (tgt := 27) dX6_film_12 rfl h10) ?_
      refine Cv.go (pc' := 29) (go_bipush dX6_film_27 ib_n2) ?_
      exact Cv.ret dX6_film_29 rfl
    · refine Cv.go (pc' := 15) (go_if_eq_f 27 dX6_film_12 rfl h10) ?_
      refine Cv.go (pc' := 16) (go_iload_n (i := 3) (x := a3) dX6_film_15 rfl rfl) ?_
      refine Cv.go (pc' := 17) (go_i2l dX6_film_16) ?_
      refine Cv.go (pc' := 18) (go_lconst (v := 0) dX6_film_17 (by decide)) ?_
      refine Cv.go (pc' := 21) (go_ldc2 dX6_film_18 ll_X6_388) ?_
      refine Cv.bnd fun v11 m12 e13 => ?_
      have C14 := kc_X6_in m7 a3.toInt64 (0 : Int64) (40 : Int64) v11 m12 e13
      refine Cv.go (pc' := 24) (st' := [.int (bz v11)]) (go_callS (As := [.long a3.toInt64, .long (0 : Int64), .long (40 : Int64)]) (st := []) C14 (by decide) ok_X6_in lt_X6_in lm_X6_67 rfl rfl (Nat.le_of_ble_eq_true rfl) dX6_film_21) ?_
      have zm12 := C14.1.2.2 rfl
      have hS := hS.sh zm12
      refine Cv.ite (fun h15 => ?_) (fun h15 => ?_)
      · refine Cv.go (pc' := 27) (go_if_ne_f 30 dX6_film_24 rfl h15) ?_
        refine Cv.go (pc' := 29) (go_bipush dX6_film_27 ib_n2) ?_
        exact Cv.ret dX6_film_29 rfl
      · refine Cv.go (pc' := 30) (go_if_ne_t (tgt := 30) dX6_film_24 rfl h15) ?_
        refine Cv.go (pc' := 31) (go_aload_n (i := 0) (x := 40) dX6_film_30 rfl rfl) ?_
        refine Cv.go (pc' := 32) (go_iload_n (i := 1) (x := a1) dX6_film_31 rfl rfl) ?_
        refine Cv.go (pc' := 33) (go_iconst dX6_film_32 ic_2) ?_
        refine Cv.go (pc' := 34) (go_iload_n (i := 3) (x := a3) dX6_film_33 rfl rfl) ?_
        refine Cv.bnd fun v16 m17 e18 => ?_
        have C19 := kc_X6_sheet m12 a1 (2 : Int32) a3 hS v16 m17 e18
        refine Cv.go (pc' := 37) (st' := [.int v16]) (go_callV (As := [.int a1, .int (2 : Int32), .int a3]) (st := []) C19 (by decide) ok_X6_sheet li_X6_sheet ls_X6_sheet lm_X6_405 cls6 (sx_k40 hS) rfl rfl (Nat.le_of_ble_eq_true rfl) dX6_film_34) ?_
        have zm17 := C19.1.2.2 rfl
        have hS := hS.sh zm17
        refine Cv.go (pc' := 38) (go_pop_i dX6_film_37) ?_
        refine Cv.go (pc' := 39) (go_aload_n (i := 0) (x := 40) dX6_film_38 rfl rfl) ?_
        refine Cv.bnd fun v20 m21 e22 => ?_
        have C23 := kc_X6_laysAside m17 hS v20 m21 e22
        refine Cv.go (pc' := 42) (st' := []) (go_callV (As := []) (st := []) C23 (by decide) ok_X6_laysAside li_X6_laysAside ls_X6_laysAside lm_X6_362 cls6 (sx_k40 hS) rfl rfl (Nat.le_of_ble_eq_true rfl) dX6_film_39) ?_
        have zm21 := C23.1.2.2 rfl
        have hS := hS.sh zm21
        refine Cv.go (pc' := 43) (go_iconst dX6_film_42 ic_0) ?_
        refine Cv.go (pc' := 45) (ls' := [.ref 40, .int a1, .int a2, .int a3, .int (0 : Int32)]) (go_istore dX6_film_43 (by decide) rfl) ?_
        exact c_X6_film_45 FU m21 a1 a2 a3 (0 : Int32) hS
theorem c_X6_draws_4 : ∀ n, ∀ (m : Mem) (a2 : Int32) (a3 : Int32) (hS : ShM m), Cv true (cX6_draws, 4, RX6, 0, ((false, none) : IK)) .return_ eV (F_X6_draws_4 n m a2 a3) m 4 [.ref 40, .null, .int a2, .int a3] [] := by
  intro n
  induction n with
  | zero => intro m a2 a3 hS; exact Cv.no
  | succ n ih =>
    intro m a2 a3 hS
    unfold F_X6_draws_4
    refine Cv.go (pc' := 5) (go_iload_n (i := 3) (x := a3) dX6_draws_4 rfl rfl) ?_
    refine Cv.go (pc' := 6) (go_aload_n (i := 0) (x := 40) dX6_draws_5 rfl rfl) ?_
    refine Cv.go (pc' := 9) (go_getI (i := 10) cls6 (sx_k40 hS) (by decide) rfl lf_X6_64 (by decide) dX6_draws_6) ?_
    refine Cv.ite (fun h1 => ?_) (fun h1 => ?_)
    · refine Cv.go (pc' := 45) (go_icmp_ge_t (tgt := 45) dX6_draws_9 rfl h1) ?_
      exact Cv.ret dX6_draws_45 rfl
    · refine Cv.go (pc' := 12) (go_icmp_ge_f 45 dX6_draws_9 rfl h1) ?_
      refine Cv.go (pc' := 13) (go_iload_n (i := 2) (x := a2) dX6_draws_12 rfl rfl) ?_
      refine Cv.go (pc' := 16) (go_ldcw dX6_draws_13 lc_X6_408) ?_
      refine Cv.go (pc' := 17) (go_imul dX6_draws_16) ?_
      refine Cv.go (pc' := 20) (go_sipush dX6_draws_17 is_12345) ?_
      refine Cv.go (pc' := 21) (go_iadd dX6_draws_20) ?_
      refine Cv.namI fun x2 ex2 => ?_
      refine Cv.go (pc' := 22) (ls' := [.ref 40, .null, .int x2, .int a3]) (go_istore_n dX6_draws_21 rfl (by decide) rfl) ?_
      refine Cv.go (pc' := 23) (go_aload_n (i := 0) (x := 40) dX6_draws_22 rfl rfl) ?_
      refine Cv.go (pc' := 26) (go_getR (i := 9) cls6 (sx_k40 hS) (by decide) rfl lf_X6_26 (Or.inr ⟨_, rfl⟩) (sx_r40_9 hS) dX6_draws_23) ?_
      refine Cv.go (pc' := 27) (go_iconst dX6_draws_26 ic_5) ?_
      refine Cv.go (pc' := 28) (go_iload_n (i := 3) (x := a3) dX6_draws_27 rfl rfl) ?_
      refine Cv.go (pc' := 29) (go_imul dX6_draws_28) ?_
      refine Cv.go (pc' := 30) (go_iconst dX6_draws_29 ic_3) ?_
      refine Cv.go (pc' := 31) (go_iadd dX6_draws_30) ?_
      refine Cv.go (pc' := 32) (go_iload_n (i := 2) (x := x2) dX6_draws_31 rfl rfl) ?_
      refine Cv.go (pc' := 34) (go_bipush dX6_draws_32 ib_9) ?_
      refine Cv.go (pc' := 35) (go_iushr dX6_draws_34) ?_
      refine Cv.go (pc' := 37) (go_bipush dX6_draws_35 ib_15) ?_
      refine Cv.go (pc' := 38) (go_irem dX6_draws_37 (by decide)) ?_
      refine Cv.gif fun g3 => ?_
      refine Cv.go (pc' := 39) (go_iastore (sx_k45 hS) g3 dX6_draws_38) ?_
      refine Cv.namM fun m4 em4 => ?_
      have zm4 : SameSh m m4 := em4 ▸ SameSh.d
      have hS := hS.sh zm4
      refine Cv.go (pc' := 42) (ls' := [.ref 40, .null, .int x2, .int (a3 + (1 : Int32))]) (go_iinc (x := a3) (v := a3 + (1 : Int32)) dX6_draws_39 rfl rfl (by decide) rfl) ?_
      refine Cv.go (pc' := 4) (go_goto (tgt := 4) dX6_draws_42 rfl) ?_
      exact ih m4 x2 (a3 + (1 : Int32)) hS
theorem kc_X6_draws (m : Mem) (a1 : Int32) (hS : ShM m) : ∀ v mE, F_X6_draws m a1 = some (v, mE) → Con true kX6_draws 0 [.ref 40, .int a1] m (eV v) mE := by
  refine Con.of (ini := false) (ls0 := [.ref 40, .int a1, .null, .null]) (ri := .return_) (by decide) (by intro z; cases z) rfl (Nat.le_of_ble_eq_true rfl) (fun v mE _ => RetTy.v) ?_
  show Cv true (cX6_draws, 4, RX6, 0, ((false, none) : IK)) .return_ eV (F_X6_draws m a1) m 0 [.ref 40, .int a1, .null, .null] []
  unfold F_X6_draws
  refine Cv.go (pc' := 1) (go_iload_n (i := 1) (x := a1) dX6_draws_0 rfl rfl) ?_
  refine Cv.go (pc' := 2) (ls' := [.ref 40, .int a1, .int a1, .null]) (go_istore_n dX6_draws_1 rfl (by decide) rfl) ?_
  refine Cv.go (pc' := 3) (go_iconst dX6_draws_2 ic_0) ?_
  refine Cv.go (pc' := 4) (ls' := [.ref 40, .int a1, .int a1, .int (0 : Int32)]) (go_istore_n dX6_draws_3 rfl (by decide) rfl) ?_
  refine Cv.weak (ls' := [.ref 40, .null, .int a1, .int (0 : Int32)]) (⟨Or.inr rfl, ⟨Or.inl rfl, ⟨Or.inr rfl, ⟨Or.inr rfl, True.intro⟩⟩⟩⟩) ?_
  exact c_X6_draws_4 FU m a1 (0 : Int32) hS
theorem kc_X6_drawn (m : Mem) (a1 : Int32) (a2 : Int32) (hS : ShM m) : ∀ v mE, F_X6_drawn m a1 a2 = some (v, mE) → Con true kX6_drawn 46 [.ref 40, .int a1, .int a2] m (eI v) mE := by
  refine Con.of (ini := false) (ls0 := [.ref 40, .int a1, .int a2, .null]) (ri := .ireturn) (by decide) (by intro z; cases z) rfl (Nat.le_of_ble_eq_true rfl) (fun v mE _ => RetTy.i) ?_
  show Cv true (cX6_drawn, 4, RX6, 46, ((false, none) : IK)) .ireturn eI (F_X6_drawn m a1 a2) m 0 [.ref 40, .int a1, .int a2, .null] []
  unfold F_X6_drawn
  refine Cv.go (pc' := 1) (go_iload_n (i := 2) (x := a2) dX6_drawn_0 rfl rfl) ?_
  refine Cv.bnd fun v1 m2 e3 => ?_
  have C4 := kc_X6_isOwner m a2 v1 m2 e3
  refine Cv.go (pc' := 4) (st' := [.int (bz v1)]) (go_callS (As := [.int a2]) (st := []) C4 (by decide) ok_X6_isOwner lt_X6_isOwner lm_X6_344 rfl rfl (Nat.le_of_ble_eq_true rfl) dX6_drawn_1) ?_
  have zm2 := C4.1.2.2 rfl
  have hS := hS.sh zm2
  refine Cv.ite (fun h5 => ?_) (fun h5 => ?_)
  · refine Cv.go (pc' := 7) (go_if_ne_f 10 dX6_drawn_4 rfl h5) ?_
    refine Cv.go (pc' := 9) (go_ldc dX6_drawn_7 lc_X6_103) ?_
    exact Cv.ret dX6_drawn_9 rfl
  · refine Cv.go (pc' := 10) (go_if_ne_t (tgt := 10) dX6_drawn_4 rfl h5) ?_
    refine Cv.go (pc' := 11) (go_aload_n (i := 0) (x := 40) dX6_drawn_10 rfl rfl) ?_
    refine Cv.bnd fun v6 m7 e8 => ?_
    have C9 := kc_X6_laysAside m2 hS v6 m7 e8
    refine Cv.go (pc' := 14) (st' := []) (go_callV (As := []) (st := []) C9 (by decide) ok_X6_laysAside li_X6_laysAside ls_X6_laysAside lm_X6_362 cls6 (sx_k40 hS) rfl rfl (Nat.le_of_ble_eq_true rfl) dX6_drawn_11) ?_
    have zm7 := C9.1.2.2 rfl
    have hS := hS.sh zm7
    refine Cv.go (pc' := 15) (go_aload_n (i := 0) (x := 40) dX6_drawn_14 rfl rfl) ?_
    refine Cv.go (pc' := 16) (go_iload_n (i := 1) (x := a1) dX6_drawn_15 rfl rfl) ?_
    refine Cv.bnd fun v10 m11 e12 => ?_
    have C13 := kc_X6_draws m7 a1 hS v10 m11 e12
    refine Cv.go (pc' := 19) (st' := []) (go_callV (As := [.int a1]) (st := []) C13 (by decide) ok_X6_draws li_X6_draws ls_X6_draws lm_X6_409 cls6 (sx_k40 hS) rfl rfl (Nat.le_of_ble_eq_true rfl) dX6_drawn_16) ?_
    have zm11 := C13.1.2.2 rfl
    have hS := hS.sh zm11
    refine Cv.go (pc' := 20) (go_aload_n (i := 0) (x := 40) dX6_drawn_19 rfl rfl) ?_
    refine Cv.go (pc' := 21) (go_iload_n (i := 2) (x := a2) dX6_drawn_20 rfl rfl) ?_
    refine Cv.bnd fun v14 m15 e16 => ?_
    have C17 := kc_X6_richOf m11 a2 hS v14 m15 e16
    refine Cv.go (pc' := 24) (st' := [.int v14]) (go_callV (As := [.int a2]) (st := []) C17 (by decide) ok_X6_richOf li_X6_richOf ls_X6_richOf lm_X6_370 cls6 (sx_k40 hS) rfl rfl (Nat.le_of_ble_eq_true rfl) dX6_drawn_21) ?_
    have zm15 := C17.1.2.2 rfl
    have hS := hS.sh zm15
    refine Cv.go (pc' := 25) (ls' := [.ref 40, .int a1, .int a2, .int v14]) (go_istore_n dX6_drawn_24 rfl (by decide) rfl) ?_
    refine Cv.go (pc' := 26) (go_aload_n (i := 0) (x := 40) dX6_drawn_25 rfl rfl) ?_
    refine Cv.bnd fun v18 m19 e20 => ?_
    have C21 := kc_X6_laysBack m15 hS v18 m19 e20
    refine Cv.go (pc' := 29) (st' := []) (go_callV (As := []) (st := []) C21 (by decide) ok_X6_laysBack li_X6_laysBack ls_X6_laysBack lm_X6_365 cls6 (sx_k40 hS) rfl rfl (Nat.le_of_ble_eq_true rfl) dX6_drawn_26) ?_
    have zm19 := C21.1.2.2 rfl
    have hS := hS.sh zm19
    refine Cv.go (pc' := 30) (go_iload_n (i := 3) (x := v14) dX6_drawn_29 rfl rfl) ?_
    exact Cv.ret dX6_drawn_30 rfl
theorem c_X6_chance_91 (K57 : Mem → Int32 → Int32 → Int32 → Int32 → Int32 → Int64 → Int32 → Option (Int64 × Mem)) (hK57 : ∀ (m : Mem) (a1 : Int32) (a2 : Int32) (a3 : Int32) (a4 : Int32) (a5 : Int32) (a6 : Int64) (a8 : Int32) (hS : ShM m), Cv true (cX6_chance, 14, RX6, 46, ((false, none) : IK)) .lreturn eL (K57 m a1 a2 a3 a4 a5 a6 a8) m 57 [.ref 40, .int a1, .int a2, .int a3, .int a4, .int a5, .long a6, .null, .int a8, .null, .null, .null, .null, .null] []) : ∀ (m : Mem) (a1 : Int32) (a2 : Int32) (a3 : Int32) (a4 : Int32) (a5 : Int32) (a8 : Int32) (s0 : Int64) (s1 : Int64) (hS : ShM m), Cv true (cX6_chance, 14, RX6, 46, ((false, none) : IK)) .lreturn eL (F_X6_chance_91 K57 m a1 a2 a3 a4 a5 a8 s0 s1) m 91 [.ref 40, .int a1, .int a2, .int a3, .int a4, .int a5, .null, .null, .int a8, .null, .null, .null, .null, .null] [.long s0, .long s1] := by
  intro m a1 a2 a3 a4 a5 a8 s0 s1 hS
  unfold F_X6_chance_91
  refine Cv.go (pc' := 92) (go_ladd dX6_chance_91) ?_
  refine Cv.namL fun x44 ex44 => ?_
  refine Cv.go (pc' := 94) (ls' := [.ref 40, .int a1, .int a2, .int a3, .int a4, .int a5, .long x44, .null, .int a8, .null, .null, .null, .null, .null]) (go_lstore dX6_chance_92 (by decide) rfl) ?_
  refine Cv.go (pc' := 97) (ls' := [.ref 40, .int a1, .int a2, .int a3, .int a4, .int a5, .long x44, .null, .int (a8 + (1 : Int32)), .null, .null, .null, .null, .null]) (go_iinc (x := a8) (v := a8 + (1 : Int32)) dX6_chance_94 rfl rfl (by decide) rfl) ?_
  refine Cv.go (pc' := 57) (go_goto (tgt := 57) dX6_chance_97 rfl) ?_
  exact hK57 m a1 a2 a3 a4 a5 x44 (a8 + (1 : Int32)) hS
theorem c_X6_chance_112 : ∀ n, ∀ (m : Mem) (a2 : Int32) (a5 : Int32) (a6 : Int64) (a8 : Int64) (a10 : Int64) (hS : ShM m), Cv true (cX6_chance, 14, RX6, 46, ((false, none) : IK)) .lreturn eL (F_X6_chance_112 n m a2 a5 a6 a8 a10) m 112 [.null, .null, .int a2, .null, .null, .int a5, .long a6, .null, .long a8, .null, .long a10, .null, .null, .null] [] := by
  intro n
  induction n with
  | zero => intro m a2 a5 a6 a8 a10 hS; exact Cv.no
  | succ n ih =>
    intro m a2 a5 a6 a8 a10 hS
    unfold F_X6_chance_112
    refine Cv.go (pc' := 114) (go_lload (i := 10) (x := a10) dX6_chance_112 rfl) ?_
    refine Cv.go (pc' := 115) (go_lconst (v := 0) dX6_chance_114 (by decide)) ?_
    refine Cv.go (pc' := 116) (go_lcmp dX6_chance_115) ?_
    refine Cv.ite (fun h45 => ?_) (fun h45 => ?_)
    · refine Cv.go (pc' := 137) (go_if_eq_t (tgt := 137) dX6_chance_116 rfl h45) ?_
      refine Cv.go (pc' := 139) (go_iload (i := 5) (x := a5) dX6_chance_137 rfl) ?_
      refine Cv.ite (fun h46 => ?_) (fun h46 => ?_)
      · refine Cv.go (pc' := 142) (go_if_ne_f 150 dX6_chance_139 rfl h46) ?_
        refine Cv.go (pc' := 144) (go_lload (i := 6) (x := a6) dX6_chance_142 rfl) ?_
        refine Cv.go (pc' := 146) (go_lload (i := 8) (x := a8) dX6_chance_144 rfl) ?_
        refine Cv.gif fun g48 => ?_
        refine Cv.go (pc' := 147) (go_ldiv dX6_chance_146 g48) ?_
        refine Cv.go (pc' := 155) (go_goto (tgt := 155) dX6_chance_147 rfl) ?_
        exact Cv.ret dX6_chance_155 rfl
      · refine Cv.go (pc' := 150) (go_if_ne_t (tgt := 150) dX6_chance_139 rfl h46) ?_
        refine Cv.go (pc' := 151) (go_iload_n (i := 2) (x := a2) dX6_chance_150 rfl rfl) ?_
        refine Cv.go (pc' := 152) (go_i2l dX6_chance_151) ?_
        refine Cv.go (pc' := 154) (go_lload (i := 8) (x := a8) dX6_chance_152 rfl) ?_
        refine Cv.gif fun g47 => ?_
        refine Cv.go (pc' := 155) (go_ldiv dX6_chance_154 g47) ?_
        exact Cv.ret dX6_chance_155 rfl
    · refine Cv.go (pc' := 119) (go_if_eq_f 137 dX6_chance_116 rfl h45) ?_
      refine Cv.go (pc' := 121) (go_lload (i := 8) (x := a8) dX6_chance_119 rfl) ?_
      refine Cv.go (pc' := 123) (go_lload (i := 10) (x := a10) dX6_chance_121 rfl) ?_
      refine Cv.gif fun g49 => ?_
      refine Cv.go (pc' := 124) (go_lrem dX6_chance_123 g49) ?_
      refine Cv.namL fun x50 ex50 => ?_
      refine Cv.go (pc' := 126) (ls' := [.null, .null, .int a2, .null, .null, .int a5, .long a6, .null, .long a8, .null, .long a10, .null, .long x50, .null]) (go_lstore dX6_chance_124 (by decide) rfl) ?_
      refine Cv.go (pc' := 128) (go_lload (i := 10) (x := a10) dX6_chance_126 rfl) ?_
      refine Cv.go (pc' := 130) (ls' := [.null, .null, .int a2, .null, .null, .int a5, .long a6, .null, .long a10, .null, .long a10, .null, .long x50, .null]) (go_lstore dX6_chance_128 (by decide) rfl) ?_
      refine Cv.go (pc' := 132) (go_lload (i := 12) (x := x50) dX6_chance_130 rfl) ?_
      refine Cv.go (pc' := 134) (ls' := [.null, .null, .int a2, .null, .null, .int a5, .long a6, .null, .long a10, .null, .long x50, .null, .long x50, .null]) (go_lstore dX6_chance_132 (by decide) rfl) ?_
      refine Cv.go (pc' := 112) (go_goto (tgt := 112) dX6_chance_134 rfl) ?_
      refine Cv.weak (ls' := [.null, .null, .int a2, .null, .null, .int a5, .long a6, .null, .long a10, .null, .long x50, .null, .null, .null]) (⟨Or.inr rfl, ⟨Or.inr rfl, ⟨Or.inr rfl, ⟨Or.inr rfl, ⟨Or.inr rfl, ⟨Or.inr rfl, ⟨Or.inr rfl, ⟨Or.inr rfl, ⟨Or.inr rfl, ⟨Or.inr rfl, ⟨Or.inr rfl, ⟨Or.inr rfl, ⟨Or.inl rfl, ⟨Or.inr rfl, True.intro⟩⟩⟩⟩⟩⟩⟩⟩⟩⟩⟩⟩⟩⟩) ?_
      exact ih m a2 a5 a6 a10 x50 hS
theorem c_X6_chance_43 : ∀ (m : Mem) (hS : ShM m), Cv true (cX6_chance, 14, RX6, 46, ((false, none) : IK)) .lreturn eL (F_X6_chance_43 m) m 43 [.null, .null, .null, .null, .null, .null, .null, .null, .null, .null, .null, .null, .null, .null] [] := by
  intro m hS
  unfold F_X6_chance_43
  refine Cv.go (pc' := 46) (go_ldc2 dX6_chance_43 ll_X6_417) ?_
  exact Cv.ret dX6_chance_46 rfl
theorem c_X6_chance_57 : ∀ n, ∀ (m : Mem) (a1 : Int32) (a2 : Int32) (a3 : Int32) (a4 : Int32) (a5 : Int32) (a6 : Int64) (a8 : Int32) (hS : ShM m), Cv true (cX6_chance, 14, RX6, 46, ((false, none) : IK)) .lreturn eL (F_X6_chance_57 n m a1 a2 a3 a4 a5 a6 a8) m 57 [.ref 40, .int a1, .int a2, .int a3, .int a4, .int a5, .long a6, .null, .int a8, .null, .null, .null, .null, .null] [] := by
  intro n
  induction n with
  | zero => intro m a1 a2 a3 a4 a5 a6 a8 hS; exact Cv.no
  | succ n ih =>
    intro m a1 a2 a3 a4 a5 a6 a8 hS
    unfold F_X6_chance_57
    refine Cv.go (pc' := 59) (go_iload (i := 8) (x := a8) dX6_chance_57 rfl) ?_
    refine Cv.go (pc' := 60) (go_iload_n (i := 2) (x := a2) dX6_chance_59 rfl rfl) ?_
    refine Cv.ite (fun h25 => ?_) (fun h25 => ?_)
    · refine Cv.go (pc' := 100) (go_icmp_ge_t (tgt := 100) dX6_chance_60 rfl h25) ?_
      refine Cv.go (pc' := 101) (go_aload_n (i := 0) (x := 40) dX6_chance_100 rfl rfl) ?_
      refine Cv.bnd fun v26 m27 e28 => ?_
      have C29 := kc_X6_laysBack m hS v26 m27 e28
      refine Cv.go (pc' := 104) (st' := []) (go_callV (As := []) (st := []) C29 (by decide) ok_X6_laysBack li_X6_laysBack ls_X6_laysBack lm_X6_365 cls6 (sx_k40 hS) rfl rfl (Nat.le_of_ble_eq_true rfl) dX6_chance_101) ?_
      have zm27 := C29.1.2.2 rfl
      have hS := hS.sh zm27
      refine Cv.go (pc' := 106) (go_lload (i := 6) (x := a6) dX6_chance_104 rfl) ?_
      refine Cv.go (pc' := 108) (ls' := [.ref 40, .int a1, .int a2, .int a3, .int a4, .int a5, .long a6, .null, .long a6, .null, .null, .null, .null, .null]) (go_lstore dX6_chance_106 (by decide) rfl) ?_
      refine Cv.go (pc' := 109) (go_iload_n (i := 2) (x := a2) dX6_chance_108 rfl rfl) ?_
      refine Cv.go (pc' := 110) (go_i2l dX6_chance_109) ?_
      refine Cv.namL fun x30 ex30 => ?_
      refine Cv.go (pc' := 112) (ls' := [.ref 40, .int a1, .int a2, .int a3, .int a4, .int a5, .long a6, .null, .long a6, .null, .long x30, .null, .null, .null]) (go_lstore dX6_chance_110 (by decide) rfl) ?_
      refine Cv.weak (ls' := [.null, .null, .int a2, .null, .null, .int a5, .long a6, .null, .long a6, .null, .long x30, .null, .null, .null]) (⟨Or.inl rfl, ⟨Or.inl rfl, ⟨Or.inr rfl, ⟨Or.inl rfl, ⟨Or.inl rfl, ⟨Or.inr rfl, ⟨Or.inr rfl, ⟨Or.inr rfl, ⟨Or.inr rfl, ⟨Or.inr rfl, ⟨Or.inr rfl, ⟨Or.inr rfl, ⟨Or.inr rfl, ⟨Or.inr rfl, True.intro⟩⟩⟩⟩⟩⟩⟩⟩⟩⟩⟩⟩⟩⟩) ?_
      exact c_X6_chance_112 FU m27 a2 a5 a6 a6 x30 hS
    · refine Cv.go (pc' := 63) (go_icmp_ge_f 100 dX6_chance_60 rfl h25) ?_
      refine Cv.go (pc' := 64) (go_aload_n (i := 0) (x := 40) dX6_chance_63 rfl rfl) ?_
      refine Cv.go (pc' := 65) (go_iload_n (i := 1) (x := a1) dX6_chance_64 rfl rfl) ?_
      refine Cv.go (pc' := 67) (go_iload (i := 8) (x := a8) dX6_chance_65 rfl) ?_
      refine Cv.go (pc' := 68) (go_iadd dX6_chance_67) ?_
      refine Cv.bnd fun v31 m32 e33 => ?_
      have C34 := kc_X6_draws m (a1 + a8) hS v31 m32 e33
      refine Cv.go (pc' := 71) (st' := []) (go_callV (As := [.int (a1 + a8)]) (st := []) C34 (by decide) ok_X6_draws li_X6_draws ls_X6_draws lm_X6_409 cls6 (sx_k40 hS) rfl rfl (Nat.le_of_ble_eq_true rfl) dX6_chance_68) ?_
      have zm32 := C34.1.2.2 rfl
      have hS := hS.sh zm32
      refine Cv.go (pc' := 73) (go_lload (i := 6) (x := a6) dX6_chance_71 rfl) ?_
      refine Cv.go (pc' := 74) (go_aload_n (i := 0) (x := 40) dX6_chance_73 rfl rfl) ?_
      refine Cv.go (pc' := 75) (go_iload_n (i := 3) (x := a3) dX6_chance_74 rfl rfl) ?_
      refine Cv.bnd fun v35 m36 e37 => ?_
      have C38 := kc_X6_purseOf m32 a3 hS v35 m36 e37
      refine Cv.go (pc' := 78) (st' := [.int v35, .long a6]) (go_callV (As := [.int a3]) (st := [.long a6]) C38 (by decide) ok_X6_purseOf li_X6_purseOf ls_X6_purseOf lm_X6_359 cls6 (sx_k40 hS) rfl rfl (Nat.le_of_ble_eq_true rfl) dX6_chance_75) ?_
      have zm36 := C38.1.2.2 rfl
      have hS := hS.sh zm36
      refine Cv.bnd fun v39 m40 e41 => ?_
      have C42 := kc_X6_bitsOf m36 v35 v39 m40 e41
      refine Cv.go (pc' := 81) (st' := [.int v39, .long a6]) (go_callS (As := [.int v35]) (st := [.long a6]) C42 (by decide) ok_X6_bitsOf lt_X6_bitsOf lm_X6_338 rfl rfl (Nat.le_of_ble_eq_true rfl) dX6_chance_78) ?_
      have zm40 := C42.1.2.2 rfl
      have hS := hS.sh zm40
      refine Cv.go (pc' := 83) (go_iload (i := 4) (x := a4) dX6_chance_81 rfl) ?_
      refine Cv.ite (fun h43 => ?_) (fun h43 => ?_)
      · refine Cv.go (pc' := 90) (go_icmp_lt_t (tgt := 90) dX6_chance_83 rfl h43) ?_
        refine Cv.go (pc' := 91) (go_lconst (v := 0) dX6_chance_90 (by decide)) ?_
        refine Cv.weak (ls' := [.ref 40, .int a1, .int a2, .int a3, .int a4, .int a5, .null, .null, .int a8, .null, .null, .null, .null, .null]) (⟨Or.inr rfl, ⟨Or.inr rfl, ⟨Or.inr rfl, ⟨Or.inr rfl, ⟨Or.inr rfl, ⟨Or.inr rfl, ⟨Or.inl rfl, ⟨Or.inr rfl, ⟨Or.inr rfl, ⟨Or.inr rfl, ⟨Or.inr rfl, ⟨Or.inr rfl, ⟨Or.inr rfl, ⟨Or.inr rfl, True.intro⟩⟩⟩⟩⟩⟩⟩⟩⟩⟩⟩⟩⟩⟩) ?_
        exact c_X6_chance_91 (F_X6_chance_57 n) ih m40 a1 a2 a3 a4 a5 a8 (0 : Int64) a6 hS
      · refine Cv.go (pc' := 86) (go_icmp_lt_f 90 dX6_chance_83 rfl h43) ?_
        refine Cv.go (pc' := 87) (go_lconst (v := 1) dX6_chance_86 (by decide)) ?_
        refine Cv.go (pc' := 91) (go_goto (tgt := 91) dX6_chance_87 rfl) ?_
        refine Cv.weak (ls' := [.ref 40, .int a1, .int a2, .int a3, .int a4, .int a5, .null, .null, .int a8, .null, .null, .null, .null, .null]) (⟨Or.inr rfl, ⟨Or.inr rfl, ⟨Or.inr rfl, ⟨Or.inr rfl, ⟨Or.inr rfl, ⟨Or.inr rfl, ⟨Or.inl rfl, ⟨Or.inr rfl, ⟨Or.inr rfl, ⟨Or.inr rfl, ⟨Or.inr rfl, ⟨Or.inr rfl, ⟨Or.inr rfl, ⟨Or.inr rfl, True.intro⟩⟩⟩⟩⟩⟩⟩⟩⟩⟩⟩⟩⟩⟩) ?_
        exact c_X6_chance_91 (F_X6_chance_57 n) ih m40 a1 a2 a3 a4 a5 a8 (1 : Int64) a6 hS
theorem kc_X6_chance (m : Mem) (a1 : Int32) (a2 : Int32) (a3 : Int32) (a4 : Int32) (a5 : Int32) (hS : ShM m) : ∀ v mE, F_X6_chance m a1 a2 a3 a4 a5 = some (v, mE) → Con true kX6_chance 46 [.ref 40, .int a1, .int a2, .int a3, .int a4, .int a5] m (eL v) mE := by
  refine Con.of (ini := false) (ls0 := [.ref 40, .int a1, .int a2, .int a3, .int a4, .int a5, .null, .null, .null, .null, .null, .null, .null, .null]) (ri := .lreturn) (by decide) (by intro z; cases z) rfl (Nat.le_of_ble_eq_true rfl) (fun v mE _ => RetTy.l) ?_
  show Cv true (cX6_chance, 14, RX6, 46, ((false, none) : IK)) .lreturn eL (F_X6_chance m a1 a2 a3 a4 a5) m 0 [.ref 40, .int a1, .int a2, .int a3, .int a4, .int a5, .null, .null, .null, .null, .null, .null, .null, .null] []
  unfold F_X6_chance
  refine Cv.go (pc' := 1) (go_iload_n (i := 2) (x := a2) dX6_chance_0 rfl rfl) ?_
  refine Cv.go (pc' := 2) (go_i2l dX6_chance_1) ?_
  refine Cv.go (pc' := 3) (go_lconst (v := 1) dX6_chance_2 (by decide)) ?_
  refine Cv.go (pc' := 6) (go_ldc2 dX6_chance_3 ll_X6_413) ?_
  refine Cv.bnd fun v1 m2 e3 => ?_
  have C4 := kc_X6_in m a2.toInt64 (1 : Int64) (20 : Int64) v1 m2 e3
  refine Cv.go (pc' := 9) (st' := [.int (bz v1)]) (go_callS (As := [.long a2.toInt64, .long (1 : Int64), .long (20 : Int64)]) (st := []) C4 (by decide) ok_X6_in lt_X6_in lm_X6_67 rfl rfl (Nat.le_of_ble_eq_true rfl) dX6_chance_6) ?_
  have zm2 := C4.1.2.2 rfl
  have hS := hS.sh zm2
  refine Cv.ite (fun h5 => ?_) (fun h5 => ?_)
  · refine Cv.go (pc' := 43) (go_if_eq_t (tgt := 43) dX6_chance_9 rfl h5) ?_
    refine Cv.weak (ls' := [.null, .null, .null, .null, .null, .null, .null, .null, .null, .null, .null, .null, .null, .null]) (⟨Or.inl rfl, ⟨Or.inl rfl, ⟨Or.inl rfl, ⟨Or.inl rfl, ⟨Or.inl rfl, ⟨Or.inl rfl, ⟨Or.inr rfl, ⟨Or.inr rfl, ⟨Or.inr rfl, ⟨Or.inr rfl, ⟨Or.inr rfl, ⟨Or.inr rfl, ⟨Or.inr rfl, ⟨Or.inr rfl, True.intro⟩⟩⟩⟩⟩⟩⟩⟩⟩⟩⟩⟩⟩⟩) ?_
    exact c_X6_chance_43 m2 hS
  · refine Cv.go (pc' := 12) (go_if_eq_f 43 dX6_chance_9 rfl h5) ?_
    refine Cv.go (pc' := 13) (go_iload_n (i := 3) (x := a3) dX6_chance_12 rfl rfl) ?_
    refine Cv.bnd fun v6 m7 e8 => ?_
    have C9 := kc_X6_isOwner m2 a3 v6 m7 e8
    refine Cv.go (pc' := 16) (st' := [.int (bz v6)]) (go_callS (As := [.int a3]) (st := []) C9 (by decide) ok_X6_isOwner lt_X6_isOwner lm_X6_344 rfl rfl (Nat.le_of_ble_eq_true rfl) dX6_chance_13) ?_
    have zm7 := C9.1.2.2 rfl
    have hS := hS.sh zm7
    refine Cv.ite (fun h10 => ?_) (fun h10 => ?_)
    · refine Cv.go (pc' := 43) (go_if_eq_t (tgt := 43) dX6_chance_16 rfl h10) ?_
      refine Cv.weak (ls' := [.null, .null, .null, .null, .null, .null, .null, .null, .null, .null, .null, .null, .null, .null]) (⟨Or.inl rfl, ⟨Or.inl rfl, ⟨Or.inl rfl, ⟨Or.inl rfl, ⟨Or.inl rfl, ⟨Or.inl rfl, ⟨Or.inr rfl, ⟨Or.inr rfl, ⟨Or.inr rfl, ⟨Or.inr rfl, ⟨Or.inr rfl, ⟨Or.inr rfl, ⟨Or.inr rfl, ⟨Or.inr rfl, True.intro⟩⟩⟩⟩⟩⟩⟩⟩⟩⟩⟩⟩⟩⟩) ?_
      exact c_X6_chance_43 m7 hS
    · refine Cv.go (pc' := 19) (go_if_eq_f 43 dX6_chance_16 rfl h10) ?_
      refine Cv.go (pc' := 21) (go_iload (i := 4) (x := a4) dX6_chance_19 rfl) ?_
      refine Cv.go (pc' := 22) (go_i2l dX6_chance_21) ?_
      refine Cv.go (pc' := 23) (go_lconst (v := 0) dX6_chance_22 (by decide)) ?_
      refine Cv.go (pc' := 26) (go_ldc2 dX6_chance_23 ll_X6_415) ?_
      refine Cv.bnd fun v11 m12 e13 => ?_
      have C14 := kc_X6_in m7 a4.toInt64 (0 : Int64) (8 : Int64) v11 m12 e13
      refine Cv.go (pc' := 29) (st' := [.int (bz v11)]) (go_callS (As := [.long a4.toInt64, .long (0 : Int64), .long (8 : Int64)]) (st := []) C14 (by decide) ok_X6_in lt_X6_in lm_X6_67 rfl rfl (Nat.le_of_ble_eq_true rfl) dX6_chance_26) ?_
      have zm12 := C14.1.2.2 rfl
      have hS := hS.sh zm12
      refine Cv.ite (fun h15 => ?_) (fun h15 => ?_)
      · refine Cv.go (pc' := 43) (go_if_eq_t (tgt := 43) dX6_chance_29 rfl h15) ?_
        refine Cv.weak (ls' := [.null, .null, .null, .null, .null, .null, .null, .null, .null, .null, .null, .null, .null, .null]) (⟨Or.inl rfl, ⟨Or.inl rfl, ⟨Or.inl rfl, ⟨Or.inl rfl, ⟨Or.inl rfl, ⟨Or.inl rfl, ⟨Or.inr rfl, ⟨Or.inr rfl, ⟨Or.inr rfl, ⟨Or.inr rfl, ⟨Or.inr rfl, ⟨Or.inr rfl, ⟨Or.inr rfl, ⟨Or.inr rfl, True.intro⟩⟩⟩⟩⟩⟩⟩⟩⟩⟩⟩⟩⟩⟩) ?_
        exact c_X6_chance_43 m12 hS
      · refine Cv.go (pc' := 32) (go_if_eq_f 43 dX6_chance_29 rfl h15) ?_
        refine Cv.go (pc' := 34) (go_iload (i := 5) (x := a5) dX6_chance_32 rfl) ?_
        refine Cv.go (pc' := 35) (go_i2l dX6_chance_34) ?_
        refine Cv.go (pc' := 36) (go_lconst (v := 0) dX6_chance_35 (by decide)) ?_
        refine Cv.go (pc' := 37) (go_lconst (v := 1) dX6_chance_36 (by decide)) ?_
        refine Cv.bnd fun v16 m17 e18 => ?_
        have C19 := kc_X6_in m12 a5.toInt64 (0 : Int64) (1 : Int64) v16 m17 e18
        refine Cv.go (pc' := 40) (st' := [.int (bz v16)]) (go_callS (As := [.long a5.toInt64, .long (0 : Int64), .long (1 : Int64)]) (st := []) C19 (by decide) ok_X6_in lt_X6_in lm_X6_67 rfl rfl (Nat.le_of_ble_eq_true rfl) dX6_chance_37) ?_
        have zm17 := C19.1.2.2 rfl
        have hS := hS.sh zm17
        refine Cv.ite (fun h20 => ?_) (fun h20 => ?_)
        · refine Cv.go (pc' := 43) (go_if_ne_f 47 dX6_chance_40 rfl h20) ?_
          refine Cv.weak (ls' := [.null, .null, .null, .null, .null, .null, .null, .null, .null, .null, .null, .null, .null, .null]) (⟨Or.inl rfl, ⟨Or.inl rfl, ⟨Or.inl rfl, ⟨Or.inl rfl, ⟨Or.inl rfl, ⟨Or.inl rfl, ⟨Or.inr rfl, ⟨Or.inr rfl, ⟨Or.inr rfl, ⟨Or.inr rfl, ⟨Or.inr rfl, ⟨Or.inr rfl, ⟨Or.inr rfl, ⟨Or.inr rfl, True.intro⟩⟩⟩⟩⟩⟩⟩⟩⟩⟩⟩⟩⟩⟩) ?_
          exact c_X6_chance_43 m17 hS
        · refine Cv.go (pc' := 47) (go_if_ne_t (tgt := 47) dX6_chance_40 rfl h20) ?_
          refine Cv.go (pc' := 48) (go_lconst (v := 0) dX6_chance_47 (by decide)) ?_
          refine Cv.go (pc' := 50) (ls' := [.ref 40, .int a1, .int a2, .int a3, .int a4, .int a5, .long (0 : Int64), .null, .null, .null, .null, .null, .null, .null]) (go_lstore dX6_chance_48 (by decide) rfl) ?_
          refine Cv.go (pc' := 51) (go_aload_n (i := 0) (x := 40) dX6_chance_50 rfl rfl) ?_
          refine Cv.bnd fun v21 m22 e23 => ?_
          have C24 := kc_X6_laysAside m17 hS v21 m22 e23
          refine Cv.go (pc' := 54) (st' := []) (go_callV (As := []) (st := []) C24 (by decide) ok_X6_laysAside li_X6_laysAside ls_X6_laysAside lm_X6_362 cls6 (sx_k40 hS) rfl rfl (Nat.le_of_ble_eq_true rfl) dX6_chance_51) ?_
          have zm22 := C24.1.2.2 rfl
          have hS := hS.sh zm22
          refine Cv.go (pc' := 55) (go_iconst dX6_chance_54 ic_0) ?_
          refine Cv.go (pc' := 57) (ls' := [.ref 40, .int a1, .int a2, .int a3, .int a4, .int a5, .long (0 : Int64), .null, .int (0 : Int32), .null, .null, .null, .null, .null]) (go_istore dX6_chance_55 (by decide) rfl) ?_
          exact c_X6_chance_57 FU m22 a1 a2 a3 a4 a5 (0 : Int64) (0 : Int32) hS
theorem c_X6_image_2 : ∀ n, ∀ (m : Mem) (a1 : Int32) (hS : ShM m), Cv true (cX6_image, 2, RX6, 0, ((false, none) : IK)) .ireturn eI (F_X6_image_2 n m a1) m 2 [.ref 40, .int a1] [] := by
  intro n
  induction n with
  | zero => intro m a1 hS; exact Cv.no
  | succ n ih =>
    intro m a1 hS
    unfold F_X6_image_2
    refine Cv.go (pc' := 3) (go_iload_n (i := 1) (x := a1) dX6_image_2 rfl rfl) ?_
    refine Cv.go (pc' := 5) (go_bipush dX6_image_3 ib_40) ?_
    refine Cv.ite (fun h1 => ?_) (fun h1 => ?_)
    · refine Cv.go (pc' := 26) (go_icmp_ge_t (tgt := 26) dX6_image_5 rfl h1) ?_
      refine Cv.go (pc' := 27) (go_aload_n (i := 0) (x := 40) dX6_image_26 rfl rfl) ?_
      refine Cv.go (pc' := 28) (go_aload_n (i := 0) (x := 40) dX6_image_27 rfl rfl) ?_
      refine Cv.go (pc' := 31) (go_getI (i := 10) cls6 (sx_k40 hS) (by decide) rfl lf_X6_64 (by decide) dX6_image_28) ?_
      refine Cv.go (pc' := 34) (go_putI (i := 31) cls6 (sx_k40 hS) (by decide) rfl lf_X6_41 (by decide) rfl rfl rfl dX6_image_31) ?_
      refine Cv.namM fun m2 em2 => ?_
      have zm2 : SameSh m m2 := em2 ▸ SameSh.d
      have hS := hS.sh zm2
      refine Cv.go (pc' := 35) (go_aload_n (i := 0) (x := 40) dX6_image_34 rfl rfl) ?_
      refine Cv.go (pc' := 36) (go_aload_n (i := 0) (x := 40) dX6_image_35 rfl rfl) ?_
      refine Cv.go (pc' := 39) (go_getI (i := 7) cls6 (sx_k40 hS) (by decide) rfl lf_X6_91 (by decide) dX6_image_36) ?_
      refine Cv.go (pc' := 42) (go_putI (i := 32) cls6 (sx_k40 hS) (by decide) rfl lf_X6_419 (by decide) rfl rfl rfl dX6_image_39) ?_
      refine Cv.namM fun m3 em3 => ?_
      have zm3 : SameSh m2 m3 := em3 ▸ SameSh.d
      have hS := hS.sh zm3
      refine Cv.go (pc' := 43) (go_aload_n (i := 0) (x := 40) dX6_image_42 rfl rfl) ?_
      refine Cv.go (pc' := 44) (go_aload_n (i := 0) (x := 40) dX6_image_43 rfl rfl) ?_
      refine Cv.go (pc' := 47) (go_getI (i := 4) cls6 (sx_k40 hS) (by decide) rfl lf_X6_94 (by decide) dX6_image_44) ?_
      refine Cv.go (pc' := 50) (go_putI (i := 33) cls6 (sx_k40 hS) (by decide) rfl lf_X6_422 (by decide) rfl rfl rfl dX6_image_47) ?_
      refine Cv.namM fun m4 em4 => ?_
      have zm4 : SameSh m3 m4 := em4 ▸ SameSh.d
      have hS := hS.sh zm4
      refine Cv.go (pc' := 51) (go_aload_n (i := 0) (x := 40) dX6_image_50 rfl rfl) ?_
      refine Cv.go (pc' := 54) (go_getI (i := 10) cls6 (sx_k40 hS) (by decide) rfl lf_X6_64 (by decide) dX6_image_51) ?_
      exact Cv.ret dX6_image_54 rfl
    · refine Cv.go (pc' := 8) (go_icmp_ge_f 26 dX6_image_5 rfl h1) ?_
      refine Cv.go (pc' := 9) (go_aload_n (i := 0) (x := 40) dX6_image_8 rfl rfl) ?_
      refine Cv.go (pc' := 12) (go_getR (i := 30) cls6 (sx_k40 hS) (by decide) rfl lf_X6_38 (Or.inr ⟨_, rfl⟩) (sx_r40_30 hS) dX6_image_9) ?_
      refine Cv.go (pc' := 13) (go_iload_n (i := 1) (x := a1) dX6_image_12 rfl rfl) ?_
      refine Cv.go (pc' := 14) (go_aload_n (i := 0) (x := 40) dX6_image_13 rfl rfl) ?_
      refine Cv.go (pc' := 17) (go_getR (i := 9) cls6 (sx_k40 hS) (by decide) rfl lf_X6_26 (Or.inr ⟨_, rfl⟩) (sx_r40_9 hS) dX6_image_14) ?_
      refine Cv.go (pc' := 18) (go_iload_n (i := 1) (x := a1) dX6_image_17 rfl rfl) ?_
      refine Cv.gif fun g5 => ?_
      refine Cv.go (pc' := 19) (go_iaload (sx_k45 hS) g5 dX6_image_18) ?_
      refine Cv.gif fun g6 => ?_
      refine Cv.go (pc' := 20) (go_iastore (sx_k49 hS) g6 dX6_image_19) ?_
      refine Cv.namM fun m7 em7 => ?_
      have zm7 : SameSh m m7 := em7 ▸ SameSh.d
      have hS := hS.sh zm7
      refine Cv.go (pc' := 23) (ls' := [.ref 40, .int (a1 + (1 : Int32))]) (go_iinc (x := a1) (v := a1 + (1 : Int32)) dX6_image_20 rfl rfl (by decide) rfl) ?_
      refine Cv.go (pc' := 2) (go_goto (tgt := 2) dX6_image_23 rfl) ?_
      exact ih m7 (a1 + (1 : Int32)) hS
theorem kc_X6_image (m : Mem) (hS : ShM m) : ∀ v mE, F_X6_image m = some (v, mE) → Con true kX6_image 0 [.ref 40] m (eI v) mE := by
  refine Con.of (ini := false) (ls0 := [.ref 40, .null]) (ri := .ireturn) (by decide) (by intro z; cases z) rfl (Nat.le_of_ble_eq_true rfl) (fun v mE _ => RetTy.i) ?_
  show Cv true (cX6_image, 2, RX6, 0, ((false, none) : IK)) .ireturn eI (F_X6_image m) m 0 [.ref 40, .null] []
  unfold F_X6_image
  refine Cv.go (pc' := 1) (go_iconst dX6_image_0 ic_0) ?_
  refine Cv.go (pc' := 2) (ls' := [.ref 40, .int (0 : Int32)]) (go_istore_n dX6_image_1 rfl (by decide) rfl) ?_
  exact c_X6_image_2 FU m (0 : Int32) hS
