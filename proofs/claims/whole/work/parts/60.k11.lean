theorem c_X6_turnsOf_87 : ∀ (m : Mem) (s0 : Int32) (hS : ShM m), Cv true (cX6_turnsOf, 5, RX6, 43, ((false, none) : IK)) .ireturn eI (F_X6_turnsOf_87 m s0) m 87 [.null, .null, .null, .null, .null] [.int s0] := by
  intro m s0 hS
  unfold F_X6_turnsOf_87
  refine Cv.go (pc' := 88) (go_iconst dX6_turnsOf_87 ic_1) ?_
  refine Cv.go (pc' := 91) (go_sipush dX6_turnsOf_88 is_1000) ?_
  refine Cv.bnd fun v18 m19 e20 => ?_
  have C21 := kc_X6_within m s0 (1 : Int32) (1000 : Int32) v18 m19 e20
  refine Cv.go (pc' := 94) (st' := [.int v18]) (go_callS (As := [.int s0, .int (1 : Int32), .int (1000 : Int32)]) (st := []) C21 (by decide) ok_X6_within lt_X6_within lm_X6_328 rfl rfl (Nat.le_of_ble_eq_true rfl) dX6_turnsOf_91) ?_
  have zm19 := C21.1.2.2 rfl
  have hS := hS.sh zm19
  exact Cv.ret dX6_turnsOf_94 rfl
theorem kc_X6_turnsOf (m : Mem) (a1 : Int32) (hS : ShM m) : ∀ v mE, F_X6_turnsOf m a1 = some (v, mE) → Con true kX6_turnsOf 43 [.ref 40, .int a1] m (eI v) mE := by
  refine Con.of (ini := false) (ls0 := [.ref 40, .int a1, .null, .null, .null]) (ri := .ireturn) (by decide) (by intro z; cases z) rfl (Nat.le_of_ble_eq_true rfl) (fun v mE _ => RetTy.i) ?_
  show Cv true (cX6_turnsOf, 5, RX6, 43, ((false, none) : IK)) .ireturn eI (F_X6_turnsOf m a1) m 0 [.ref 40, .int a1, .null, .null, .null] []
  unfold F_X6_turnsOf
  refine Cv.go (pc' := 1) (go_aload_n (i := 0) (x := 40) dX6_turnsOf_0 rfl rfl) ?_
  refine Cv.go (pc' := 4) (go_getR (i := 8) cls6 (sx_k40 hS) (by decide) rfl lf_X6_23 (Or.inr ⟨_, rfl⟩) (sx_r40_8 hS) dX6_turnsOf_1) ?_
  refine Cv.go (pc' := 5) (go_iload_n (i := 1) (x := a1) dX6_turnsOf_4 rfl rfl) ?_
  refine Cv.gif fun g1 => ?_
  refine Cv.go (pc' := 6) (go_iaload (sx_k44 hS) g1 dX6_turnsOf_5) ?_
  refine Cv.namI fun x2 ex2 => ?_
  refine Cv.go (pc' := 7) (ls' := [.ref 40, .int a1, .int x2, .null, .null]) (go_istore_n dX6_turnsOf_6 rfl (by decide) rfl) ?_
  refine Cv.go (pc' := 8) (go_iload_n (i := 2) (x := x2) dX6_turnsOf_7 rfl rfl) ?_
  refine Cv.go (pc' := 9) (go_iconst dX6_turnsOf_8 ic_5) ?_
  refine Cv.ite (fun h3 => ?_) (fun h3 => ?_)
  · refine Cv.go (pc' := 12) (go_icmp_ne_f 16 dX6_turnsOf_9 rfl h3) ?_
    refine Cv.go (pc' := 15) (go_sipush dX6_turnsOf_12 is_1000) ?_
    exact Cv.ret dX6_turnsOf_15 rfl
  · refine Cv.go (pc' := 16) (go_icmp_ne_t (tgt := 16) dX6_turnsOf_9 rfl h3) ?_
    refine Cv.go (pc' := 17) (go_aload_n (i := 0) (x := 40) dX6_turnsOf_16 rfl rfl) ?_
    refine Cv.go (pc' := 18) (go_iconst dX6_turnsOf_17 ic_0) ?_
    refine Cv.go (pc' := 19) (go_iload_n (i := 1) (x := a1) dX6_turnsOf_18 rfl rfl) ?_
    refine Cv.bnd fun v4 m5 e6 => ?_
    have C7 := kc_X6_says m (0 : Int32) a1 hS v4 m5 e6
    refine Cv.go (pc' := 22) (st' := [.int v4]) (go_callV (As := [.int (0 : Int32), .int a1]) (st := []) C7 (by decide) ok_X6_says li_X6_says ls_X6_says lm_X6_332 cls6 (sx_k40 hS) rfl rfl (Nat.le_of_ble_eq_true rfl) dX6_turnsOf_19) ?_
    have zm5 := C7.1.2.2 rfl
    have hS := hS.sh zm5
    refine Cv.go (pc' := 23) (ls' := [.ref 40, .int a1, .int x2, .int v4, .null]) (go_istore_n dX6_turnsOf_22 rfl (by decide) rfl) ?_
    refine Cv.go (pc' := 24) (go_iload_n (i := 3) (x := v4) dX6_turnsOf_23 rfl rfl) ?_
    refine Cv.go (pc' := 25) (go_aload_n (i := 0) (x := 40) dX6_turnsOf_24 rfl rfl) ?_
    refine Cv.go (pc' := 28) (go_getR (i := 9) cls6 (sx_k40 hS) (by decide) rfl lf_X6_26 (Or.inr ⟨_, rfl⟩) (sx_r40_9 hS) dX6_turnsOf_25) ?_
    refine Cv.go (pc' := 29) (go_iconst dX6_turnsOf_28 ic_5) ?_
    refine Cv.go (pc' := 30) (go_iload_n (i := 1) (x := a1) dX6_turnsOf_29 rfl rfl) ?_
    refine Cv.go (pc' := 31) (go_imul dX6_turnsOf_30) ?_
    refine Cv.gif fun g8 => ?_
    refine Cv.go (pc' := 32) (go_iaload (sx_k45 hS) g8 dX6_turnsOf_31) ?_
    refine Cv.go (pc' := 33) (go_iconst dX6_turnsOf_32 ic_2) ?_
    refine Cv.go (pc' := 34) (go_idiv dX6_turnsOf_33 (by decide)) ?_
    refine Cv.go (pc' := 35) (go_iadd dX6_turnsOf_34) ?_
    refine Cv.namI fun x9 ex9 => ?_
    refine Cv.go (pc' := 37) (ls' := [.ref 40, .int a1, .int x2, .int v4, .int x9]) (go_istore dX6_turnsOf_35 (by decide) rfl) ?_
    refine Cv.go (pc' := 38) (go_iload_n (i := 2) (x := x2) dX6_turnsOf_37 rfl rfl) ?_
    refine Cv.go (pc' := 39) (go_iconst dX6_turnsOf_38 ic_1) ?_
    refine Cv.ite (fun h10 => ?_) (fun h10 => ?_)
    · refine Cv.go (pc' := 42) (go_icmp_ne_f 47 dX6_turnsOf_39 rfl h10) ?_
      refine Cv.go (pc' := 44) (go_iload (i := 4) (x := x9) dX6_turnsOf_42 rfl) ?_
      refine Cv.go (pc' := 87) (go_goto (tgt := 87) dX6_turnsOf_44 rfl) ?_
      refine Cv.weak (ls' := [.null, .null, .null, .null, .null]) (⟨Or.inl rfl, ⟨Or.inl rfl, ⟨Or.inl rfl, ⟨Or.inl rfl, ⟨Or.inl rfl, True.intro⟩⟩⟩⟩⟩) ?_
      exact c_X6_turnsOf_87 m5 x9 hS
    · refine Cv.go (pc' := 47) (go_icmp_ne_t (tgt := 47) dX6_turnsOf_39 rfl h10) ?_
      refine Cv.go (pc' := 48) (go_iload_n (i := 2) (x := x2) dX6_turnsOf_47 rfl rfl) ?_
      refine Cv.go (pc' := 49) (go_iconst dX6_turnsOf_48 ic_3) ?_
      refine Cv.ite (fun h11 => ?_) (fun h11 => ?_)
      · refine Cv.go (pc' := 52) (go_icmp_ne_f 59 dX6_turnsOf_49 rfl h11) ?_
        refine Cv.go (pc' := 53) (go_iconst dX6_turnsOf_52 ic_2) ?_
        refine Cv.go (pc' := 55) (go_iload (i := 4) (x := x9) dX6_turnsOf_53 rfl) ?_
        refine Cv.go (pc' := 56) (go_imul dX6_turnsOf_55) ?_
        refine Cv.go (pc' := 87) (go_goto (tgt := 87) dX6_turnsOf_56 rfl) ?_
        refine Cv.weak (ls' := [.null, .null, .null, .null, .null]) (⟨Or.inl rfl, ⟨Or.inl rfl, ⟨Or.inl rfl, ⟨Or.inl rfl, ⟨Or.inl rfl, True.intro⟩⟩⟩⟩⟩) ?_
        exact c_X6_turnsOf_87 m5 ((2 : Int32) * x9) hS
      · refine Cv.go (pc' := 59) (go_icmp_ne_t (tgt := 59) dX6_turnsOf_49 rfl h11) ?_
        refine Cv.go (pc' := 60) (go_iload_n (i := 2) (x := x2) dX6_turnsOf_59 rfl rfl) ?_
        refine Cv.go (pc' := 61) (go_iconst dX6_turnsOf_60 ic_2) ?_
        refine Cv.ite (fun h12 => ?_) (fun h12 => ?_)
        · refine Cv.go (pc' := 64) (go_icmp_ne_f 70 dX6_turnsOf_61 rfl h12) ?_
          refine Cv.go (pc' := 65) (go_iload_n (i := 3) (x := v4) dX6_turnsOf_64 rfl rfl) ?_
          refine Cv.go (pc' := 66) (go_iconst dX6_turnsOf_65 ic_2) ?_
          refine Cv.go (pc' := 67) (go_idiv dX6_turnsOf_66 (by decide)) ?_
          refine Cv.go (pc' := 87) (go_goto (tgt := 87) dX6_turnsOf_67 rfl) ?_
          refine Cv.weak (ls' := [.null, .null, .null, .null, .null]) (⟨Or.inl rfl, ⟨Or.inl rfl, ⟨Or.inl rfl, ⟨Or.inl rfl, ⟨Or.inl rfl, True.intro⟩⟩⟩⟩⟩) ?_
          exact c_X6_turnsOf_87 m5 (v4 / (2 : Int32)) hS
        · refine Cv.go (pc' := 70) (go_icmp_ne_t (tgt := 70) dX6_turnsOf_61 rfl h12) ?_
          refine Cv.go (pc' := 71) (go_iload_n (i := 2) (x := x2) dX6_turnsOf_70 rfl rfl) ?_
          refine Cv.go (pc' := 72) (go_iconst dX6_turnsOf_71 ic_4) ?_
          refine Cv.ite (fun h13 => ?_) (fun h13 => ?_)
          · refine Cv.go (pc' := 75) (go_icmp_ne_f 86 dX6_turnsOf_72 rfl h13) ?_
            refine Cv.go (pc' := 76) (go_iload_n (i := 3) (x := v4) dX6_turnsOf_75 rfl rfl) ?_
            refine Cv.go (pc' := 77) (go_iconst dX6_turnsOf_76 ic_2) ?_
            refine Cv.go (pc' := 78) (go_idiv dX6_turnsOf_77 (by decide)) ?_
            refine Cv.go (pc' := 79) (go_iconst dX6_turnsOf_78 ic_0) ?_
            refine Cv.go (pc' := 80) (go_iconst dX6_turnsOf_79 ic_3) ?_
            refine Cv.bnd fun v14 m15 e16 => ?_
            have C17 := kc_X6_within m5 (v4 / (2 : Int32)) (0 : Int32) (3 : Int32) v14 m15 e16
            refine Cv.go (pc' := 83) (st' := [.int v14]) (go_callS (As := [.int (v4 / (2 : Int32)), .int (0 : Int32), .int (3 : Int32)]) (st := []) C17 (by decide) ok_X6_within lt_X6_within lm_X6_328 rfl rfl (Nat.le_of_ble_eq_true rfl) dX6_turnsOf_80) ?_
            have zm15 := C17.1.2.2 rfl
            have hS := hS.sh zm15
            refine Cv.go (pc' := 87) (go_goto (tgt := 87) dX6_turnsOf_83 rfl) ?_
            refine Cv.weak (ls' := [.null, .null, .null, .null, .null]) (⟨Or.inl rfl, ⟨Or.inl rfl, ⟨Or.inl rfl, ⟨Or.inl rfl, ⟨Or.inl rfl, True.intro⟩⟩⟩⟩⟩) ?_
            exact c_X6_turnsOf_87 m15 v14 hS
          · refine Cv.go (pc' := 86) (go_icmp_ne_t (tgt := 86) dX6_turnsOf_72 rfl h13) ?_
            refine Cv.go (pc' := 87) (go_iload_n (i := 3) (x := v4) dX6_turnsOf_86 rfl rfl) ?_
            refine Cv.weak (ls' := [.null, .null, .null, .null, .null]) (⟨Or.inl rfl, ⟨Or.inl rfl, ⟨Or.inl rfl, ⟨Or.inl rfl, ⟨Or.inl rfl, True.intro⟩⟩⟩⟩⟩) ?_
            exact c_X6_turnsOf_87 m5 v4 hS
theorem c_X6_givesOf_101 : ∀ (m : Mem) (s0 : Int32) (hS : ShM m), Cv true (cX6_givesOf, 6, RX6, 43, ((false, none) : IK)) .ireturn eI (F_X6_givesOf_101 m s0) m 101 [.null, .null, .null, .null, .null, .null] [.int s0] := by
  intro m s0 hS
  unfold F_X6_givesOf_101
  refine Cv.go (pc' := 104) (go_sipush dX6_givesOf_101 is_n999) ?_
  refine Cv.go (pc' := 107) (go_sipush dX6_givesOf_104 is_999) ?_
  refine Cv.bnd fun v16 m17 e18 => ?_
  have C19 := kc_X6_within m s0 (-999 : Int32) (999 : Int32) v16 m17 e18
  refine Cv.go (pc' := 110) (st' := [.int v16]) (go_callS (As := [.int s0, .int (-999 : Int32), .int (999 : Int32)]) (st := []) C19 (by decide) ok_X6_within lt_X6_within lm_X6_328 rfl rfl (Nat.le_of_ble_eq_true rfl) dX6_givesOf_107) ?_
  have zm17 := C19.1.2.2 rfl
  have hS := hS.sh zm17
  exact Cv.ret dX6_givesOf_110 rfl
theorem c_X6_givesOf_43 : ∀ (m : Mem) (a1 : Int32) (a2 : Int32) (a3 : Int32) (a4 : Int32) (s0 : Int32) (hS : ShM m), Cv true (cX6_givesOf, 6, RX6, 43, ((false, none) : IK)) .ireturn eI (F_X6_givesOf_43 m a1 a2 a3 a4 s0) m 43 [.ref 40, .int a1, .int a2, .int a3, .int a4, .null] [.int s0] := by
  intro m a1 a2 a3 a4 s0 hS
  unfold F_X6_givesOf_43
  refine Cv.go (pc' := 45) (ls' := [.ref 40, .int a1, .int a2, .int a3, .int a4, .int s0]) (go_istore dX6_givesOf_43 (by decide) rfl) ?_
  refine Cv.go (pc' := 46) (go_iload_n (i := 2) (x := a2) dX6_givesOf_45 rfl rfl) ?_
  refine Cv.go (pc' := 47) (go_iconst dX6_givesOf_46 ic_1) ?_
  refine Cv.ite (fun h11 => ?_) (fun h11 => ?_)
  · refine Cv.go (pc' := 50) (go_icmp_ne_f 55 dX6_givesOf_47 rfl h11) ?_
    refine Cv.go (pc' := 52) (go_iload (i := 5) (x := s0) dX6_givesOf_50 rfl) ?_
    refine Cv.go (pc' := 101) (go_goto (tgt := 101) dX6_givesOf_52 rfl) ?_
    refine Cv.weak (ls' := [.null, .null, .null, .null, .null, .null]) (⟨Or.inl rfl, ⟨Or.inl rfl, ⟨Or.inl rfl, ⟨Or.inl rfl, ⟨Or.inl rfl, ⟨Or.inl rfl, True.intro⟩⟩⟩⟩⟩⟩) ?_
    exact c_X6_givesOf_101 m s0 hS
  · refine Cv.go (pc' := 55) (go_icmp_ne_t (tgt := 55) dX6_givesOf_47 rfl h11) ?_
    refine Cv.go (pc' := 56) (go_iload_n (i := 2) (x := a2) dX6_givesOf_55 rfl rfl) ?_
    refine Cv.go (pc' := 57) (go_iconst dX6_givesOf_56 ic_3) ?_
    refine Cv.ite (fun h12 => ?_) (fun h12 => ?_)
    · refine Cv.go (pc' := 60) (go_icmp_ne_f 77 dX6_givesOf_57 rfl h12) ?_
      refine Cv.go (pc' := 62) (go_iload (i := 5) (x := s0) dX6_givesOf_60 rfl) ?_
      refine Cv.go (pc' := 63) (go_aload_n (i := 0) (x := 40) dX6_givesOf_62 rfl rfl) ?_
      refine Cv.go (pc' := 66) (go_getR (i := 9) cls6 (sx_k40 hS) (by decide) rfl lf_X6_26 (Or.inr ⟨_, rfl⟩) (sx_r40_9 hS) dX6_givesOf_63) ?_
      refine Cv.go (pc' := 67) (go_iconst dX6_givesOf_66 ic_5) ?_
      refine Cv.go (pc' := 68) (go_iload_n (i := 1) (x := a1) dX6_givesOf_67 rfl rfl) ?_
      refine Cv.go (pc' := 69) (go_imul dX6_givesOf_68) ?_
      refine Cv.gif fun g15 => ?_
      refine Cv.go (pc' := 70) (go_iaload (sx_k45 hS) g15 dX6_givesOf_69) ?_
      refine Cv.go (pc' := 72) (go_iload (i := 4) (x := a4) dX6_givesOf_70 rfl) ?_
      refine Cv.go (pc' := 73) (go_imul dX6_givesOf_72) ?_
      refine Cv.go (pc' := 74) (go_iadd dX6_givesOf_73) ?_
      refine Cv.go (pc' := 101) (go_goto (tgt := 101) dX6_givesOf_74 rfl) ?_
      refine Cv.weak (ls' := [.null, .null, .null, .null, .null, .null]) (⟨Or.inl rfl, ⟨Or.inl rfl, ⟨Or.inl rfl, ⟨Or.inl rfl, ⟨Or.inl rfl, ⟨Or.inl rfl, True.intro⟩⟩⟩⟩⟩⟩) ?_
      exact c_X6_givesOf_101 m (s0 + ((mD m 45 ((5 : Int32) * a1).toNatClampNeg) * a4)) hS
    · refine Cv.go (pc' := 77) (go_icmp_ne_t (tgt := 77) dX6_givesOf_57 rfl h12) ?_
      refine Cv.go (pc' := 78) (go_iload_n (i := 2) (x := a2) dX6_givesOf_77 rfl rfl) ?_
      refine Cv.go (pc' := 79) (go_iconst dX6_givesOf_78 ic_2) ?_
      refine Cv.ite (fun h13 => ?_) (fun h13 => ?_)
      · refine Cv.go (pc' := 82) (go_icmp_ne_f 88 dX6_givesOf_79 rfl h13) ?_
        refine Cv.go (pc' := 83) (go_iload_n (i := 3) (x := a3) dX6_givesOf_82 rfl rfl) ?_
        refine Cv.go (pc' := 84) (go_iconst dX6_givesOf_83 ic_3) ?_
        refine Cv.go (pc' := 85) (go_iadd dX6_givesOf_84) ?_
        refine Cv.go (pc' := 101) (go_goto (tgt := 101) dX6_givesOf_85 rfl) ?_
        refine Cv.weak (ls' := [.null, .null, .null, .null, .null, .null]) (⟨Or.inl rfl, ⟨Or.inl rfl, ⟨Or.inl rfl, ⟨Or.inl rfl, ⟨Or.inl rfl, ⟨Or.inl rfl, True.intro⟩⟩⟩⟩⟩⟩) ?_
        exact c_X6_givesOf_101 m (a3 + (3 : Int32)) hS
      · refine Cv.go (pc' := 88) (go_icmp_ne_t (tgt := 88) dX6_givesOf_79 rfl h13) ?_
        refine Cv.go (pc' := 89) (go_iload_n (i := 2) (x := a2) dX6_givesOf_88 rfl rfl) ?_
        refine Cv.go (pc' := 90) (go_iconst dX6_givesOf_89 ic_4) ?_
        refine Cv.ite (fun h14 => ?_) (fun h14 => ?_)
        · refine Cv.go (pc' := 93) (go_icmp_ne_f 100 dX6_givesOf_90 rfl h14) ?_
          refine Cv.go (pc' := 94) (go_iload_n (i := 3) (x := a3) dX6_givesOf_93 rfl rfl) ?_
          refine Cv.go (pc' := 95) (go_iconst dX6_givesOf_94 ic_3) ?_
          refine Cv.go (pc' := 96) (go_iadd dX6_givesOf_95) ?_
          refine Cv.go (pc' := 97) (go_ineg dX6_givesOf_96) ?_
          refine Cv.go (pc' := 101) (go_goto (tgt := 101) dX6_givesOf_97 rfl) ?_
          refine Cv.weak (ls' := [.null, .null, .null, .null, .null, .null]) (⟨Or.inl rfl, ⟨Or.inl rfl, ⟨Or.inl rfl, ⟨Or.inl rfl, ⟨Or.inl rfl, ⟨Or.inl rfl, True.intro⟩⟩⟩⟩⟩⟩) ?_
          exact c_X6_givesOf_101 m (-(a3 + (3 : Int32))) hS
        · refine Cv.go (pc' := 100) (go_icmp_ne_t (tgt := 100) dX6_givesOf_90 rfl h14) ?_
          refine Cv.go (pc' := 101) (go_iload_n (i := 3) (x := a3) dX6_givesOf_100 rfl rfl) ?_
          refine Cv.weak (ls' := [.null, .null, .null, .null, .null, .null]) (⟨Or.inl rfl, ⟨Or.inl rfl, ⟨Or.inl rfl, ⟨Or.inl rfl, ⟨Or.inl rfl, ⟨Or.inl rfl, True.intro⟩⟩⟩⟩⟩⟩) ?_
          exact c_X6_givesOf_101 m a3 hS
theorem kc_X6_givesOf (m : Mem) (a1 : Int32) (hS : ShM m) : ∀ v mE, F_X6_givesOf m a1 = some (v, mE) → Con true kX6_givesOf 43 [.ref 40, .int a1] m (eI v) mE := by
  refine Con.of (ini := false) (ls0 := [.ref 40, .int a1, .null, .null, .null, .null]) (ri := .ireturn) (by decide) (by intro z; cases z) rfl (Nat.le_of_ble_eq_true rfl) (fun v mE _ => RetTy.i) ?_
  show Cv true (cX6_givesOf, 6, RX6, 43, ((false, none) : IK)) .ireturn eI (F_X6_givesOf m a1) m 0 [.ref 40, .int a1, .null, .null, .null, .null] []
  unfold F_X6_givesOf
  refine Cv.go (pc' := 1) (go_aload_n (i := 0) (x := 40) dX6_givesOf_0 rfl rfl) ?_
  refine Cv.go (pc' := 4) (go_getR (i := 8) cls6 (sx_k40 hS) (by decide) rfl lf_X6_23 (Or.inr ⟨_, rfl⟩) (sx_r40_8 hS) dX6_givesOf_1) ?_
  refine Cv.go (pc' := 5) (go_iload_n (i := 1) (x := a1) dX6_givesOf_4 rfl rfl) ?_
  refine Cv.gif fun g1 => ?_
  refine Cv.go (pc' := 6) (go_iaload (sx_k44 hS) g1 dX6_givesOf_5) ?_
  refine Cv.namI fun x2 ex2 => ?_
  refine Cv.go (pc' := 7) (ls' := [.ref 40, .int a1, .int x2, .null, .null, .null]) (go_istore_n dX6_givesOf_6 rfl (by decide) rfl) ?_
  refine Cv.go (pc' := 8) (go_iload_n (i := 2) (x := x2) dX6_givesOf_7 rfl rfl) ?_
  refine Cv.go (pc' := 9) (go_iconst dX6_givesOf_8 ic_5) ?_
  refine Cv.ite (fun h3 => ?_) (fun h3 => ?_)
  · refine Cv.go (pc' := 12) (go_icmp_ne_f 14 dX6_givesOf_9 rfl h3) ?_
    refine Cv.go (pc' := 13) (go_iconst dX6_givesOf_12 ic_0) ?_
    exact Cv.ret dX6_givesOf_13 rfl
  · refine Cv.go (pc' := 14) (go_icmp_ne_t (tgt := 14) dX6_givesOf_9 rfl h3) ?_
    refine Cv.go (pc' := 15) (go_aload_n (i := 0) (x := 40) dX6_givesOf_14 rfl rfl) ?_
    refine Cv.go (pc' := 16) (go_iconst dX6_givesOf_15 ic_1) ?_
    refine Cv.go (pc' := 17) (go_iload_n (i := 1) (x := a1) dX6_givesOf_16 rfl rfl) ?_
    refine Cv.bnd fun v4 m5 e6 => ?_
    have C7 := kc_X6_says m (1 : Int32) a1 hS v4 m5 e6
    refine Cv.go (pc' := 20) (st' := [.int v4]) (go_callV (As := [.int (1 : Int32), .int a1]) (st := []) C7 (by decide) ok_X6_says li_X6_says ls_X6_says lm_X6_332 cls6 (sx_k40 hS) rfl rfl (Nat.le_of_ble_eq_true rfl) dX6_givesOf_17) ?_
    have zm5 := C7.1.2.2 rfl
    have hS := hS.sh zm5
    refine Cv.go (pc' := 21) (ls' := [.ref 40, .int a1, .int x2, .int v4, .null, .null]) (go_istore_n dX6_givesOf_20 rfl (by decide) rfl) ?_
    refine Cv.go (pc' := 22) (go_aload_n (i := 0) (x := 40) dX6_givesOf_21 rfl rfl) ?_
    refine Cv.go (pc' := 25) (go_getR (i := 9) cls6 (sx_k40 hS) (by decide) rfl lf_X6_26 (Or.inr ⟨_, rfl⟩) (sx_r40_9 hS) dX6_givesOf_22) ?_
    refine Cv.go (pc' := 26) (go_iconst dX6_givesOf_25 ic_5) ?_
    refine Cv.go (pc' := 27) (go_iload_n (i := 1) (x := a1) dX6_givesOf_26 rfl rfl) ?_
    refine Cv.go (pc' := 28) (go_imul dX6_givesOf_27) ?_
    refine Cv.go (pc' := 29) (go_iconst dX6_givesOf_28 ic_2) ?_
    refine Cv.go (pc' := 30) (go_iadd dX6_givesOf_29) ?_
    refine Cv.gif fun g8 => ?_
    refine Cv.go (pc' := 31) (go_iaload (sx_k45 hS) g8 dX6_givesOf_30) ?_
    refine Cv.namI fun x9 ex9 => ?_
    refine Cv.go (pc' := 33) (ls' := [.ref 40, .int a1, .int x2, .int v4, .int x9, .null]) (go_istore dX6_givesOf_31 (by decide) rfl) ?_
    refine Cv.go (pc' := 35) (go_iload (i := 4) (x := x9) dX6_givesOf_33 rfl) ?_
    refine Cv.ite (fun h10 => ?_) (fun h10 => ?_)
    · refine Cv.go (pc' := 38) (go_if_ne_f 42 dX6_givesOf_35 rfl h10) ?_
      refine Cv.go (pc' := 39) (go_iconst dX6_givesOf_38 ic_0) ?_
      refine Cv.go (pc' := 43) (go_goto (tgt := 43) dX6_givesOf_39 rfl) ?_
      exact c_X6_givesOf_43 m5 a1 x2 v4 x9 (0 : Int32) hS
    · refine Cv.go (pc' := 42) (go_if_ne_t (tgt := 42) dX6_givesOf_35 rfl h10) ?_
      refine Cv.go (pc' := 43) (go_iload_n (i := 3) (x := v4) dX6_givesOf_42 rfl rfl) ?_
      exact c_X6_givesOf_43 m5 a1 x2 v4 x9 v4 hS
theorem c_X6_spoilsOf_63 : ∀ (m : Mem) (s0 : Int32) (hS : ShM m), Cv true (cX6_spoilsOf, 4, RX6, 43, ((false, none) : IK)) .ireturn eI (F_X6_spoilsOf_63 m s0) m 63 [.null, .null, .null, .null] [.int s0] := by
  intro m s0 hS
  unfold F_X6_spoilsOf_63
  refine Cv.go (pc' := 64) (go_iconst dX6_spoilsOf_63 ic_0) ?_
  refine Cv.go (pc' := 66) (go_bipush dX6_spoilsOf_64 ib_99) ?_
  refine Cv.bnd fun v12 m13 e14 => ?_
  have C15 := kc_X6_within m s0 (0 : Int32) (99 : Int32) v12 m13 e14
  refine Cv.go (pc' := 69) (st' := [.int v12]) (go_callS (As := [.int s0, .int (0 : Int32), .int (99 : Int32)]) (st := []) C15 (by decide) ok_X6_within lt_X6_within lm_X6_328 rfl rfl (Nat.le_of_ble_eq_true rfl) dX6_spoilsOf_66) ?_
  have zm13 := C15.1.2.2 rfl
  have hS := hS.sh zm13
  exact Cv.ret dX6_spoilsOf_69 rfl
theorem c_X6_spoilsOf_56 : ∀ (m : Mem) (a3 : Int32) (hS : ShM m), Cv true (cX6_spoilsOf, 4, RX6, 43, ((false, none) : IK)) .ireturn eI (F_X6_spoilsOf_56 m a3) m 56 [.null, .null, .null, .int a3] [] := by
  intro m a3 hS
  unfold F_X6_spoilsOf_56
  refine Cv.go (pc' := 57) (go_iconst dX6_spoilsOf_56 ic_2) ?_
  refine Cv.go (pc' := 58) (go_iload_n (i := 3) (x := a3) dX6_spoilsOf_57 rfl rfl) ?_
  refine Cv.go (pc' := 59) (go_imul dX6_spoilsOf_58) ?_
  refine Cv.go (pc' := 63) (go_goto (tgt := 63) dX6_spoilsOf_59 rfl) ?_
  refine Cv.weak (ls' := [.null, .null, .null, .null]) (⟨Or.inr rfl, ⟨Or.inr rfl, ⟨Or.inr rfl, ⟨Or.inl rfl, True.intro⟩⟩⟩⟩) ?_
  exact c_X6_spoilsOf_63 m ((2 : Int32) * a3) hS
theorem c_X6_spoilsOf_39 : ∀ (m : Mem) (a1 : Int32) (a2 : Int32) (hS : ShM m), Cv true (cX6_spoilsOf, 4, RX6, 43, ((false, none) : IK)) .ireturn eI (F_X6_spoilsOf_39 m a1 a2) m 39 [.ref 40, .int a1, .int a2, .null] [] := by
  intro m a1 a2 hS
  unfold F_X6_spoilsOf_39
  refine Cv.go (pc' := 40) (go_aload_n (i := 0) (x := 40) dX6_spoilsOf_39 rfl rfl) ?_
  refine Cv.go (pc' := 41) (go_iconst dX6_spoilsOf_40 ic_2) ?_
  refine Cv.go (pc' := 42) (go_iload_n (i := 1) (x := a1) dX6_spoilsOf_41 rfl rfl) ?_
  refine Cv.bnd fun v6 m7 e8 => ?_
  have C9 := kc_X6_says m (2 : Int32) a1 hS v6 m7 e8
  refine Cv.go (pc' := 45) (st' := [.int v6]) (go_callV (As := [.int (2 : Int32), .int a1]) (st := []) C9 (by decide) ok_X6_says li_X6_says ls_X6_says lm_X6_332 cls6 (sx_k40 hS) rfl rfl (Nat.le_of_ble_eq_true rfl) dX6_spoilsOf_42) ?_
  have zm7 := C9.1.2.2 rfl
  have hS := hS.sh zm7
  refine Cv.go (pc' := 46) (ls' := [.ref 40, .int a1, .int a2, .int v6]) (go_istore_n dX6_spoilsOf_45 rfl (by decide) rfl) ?_
  refine Cv.go (pc' := 47) (go_iload_n (i := 2) (x := a2) dX6_spoilsOf_46 rfl rfl) ?_
  refine Cv.go (pc' := 48) (go_iconst dX6_spoilsOf_47 ic_2) ?_
  refine Cv.ite (fun h10 => ?_) (fun h10 => ?_)
  · refine Cv.go (pc' := 56) (go_icmp_eq_t (tgt := 56) dX6_spoilsOf_48 rfl h10) ?_
    refine Cv.weak (ls' := [.null, .null, .null, .int v6]) (⟨Or.inl rfl, ⟨Or.inl rfl, ⟨Or.inl rfl, ⟨Or.inr rfl, True.intro⟩⟩⟩⟩) ?_
    exact c_X6_spoilsOf_56 m7 v6 hS
  · refine Cv.go (pc' := 51) (go_icmp_eq_f 56 dX6_spoilsOf_48 rfl h10) ?_
    refine Cv.go (pc' := 52) (go_iload_n (i := 2) (x := a2) dX6_spoilsOf_51 rfl rfl) ?_
    refine Cv.go (pc' := 53) (go_iconst dX6_spoilsOf_52 ic_4) ?_
    refine Cv.ite (fun h11 => ?_) (fun h11 => ?_)
    · refine Cv.go (pc' := 56) (go_icmp_ne_f 62 dX6_spoilsOf_53 rfl h11) ?_
      refine Cv.weak (ls' := [.null, .null, .null, .int v6]) (⟨Or.inl rfl, ⟨Or.inl rfl, ⟨Or.inl rfl, ⟨Or.inr rfl, True.intro⟩⟩⟩⟩) ?_
      exact c_X6_spoilsOf_56 m7 v6 hS
    · refine Cv.go (pc' := 62) (go_icmp_ne_t (tgt := 62) dX6_spoilsOf_53 rfl h11) ?_
      refine Cv.go (pc' := 63) (go_iload_n (i := 3) (x := v6) dX6_spoilsOf_62 rfl rfl) ?_
      refine Cv.weak (ls' := [.null, .null, .null, .null]) (⟨Or.inl rfl, ⟨Or.inl rfl, ⟨Or.inl rfl, ⟨Or.inl rfl, True.intro⟩⟩⟩⟩) ?_
      exact c_X6_spoilsOf_63 m7 v6 hS
theorem c_X6_spoilsOf_22 : ∀ (m : Mem) (a1 : Int32) (a2 : Int32) (hS : ShM m), Cv true (cX6_spoilsOf, 4, RX6, 43, ((false, none) : IK)) .ireturn eI (F_X6_spoilsOf_22 m a1 a2) m 22 [.ref 40, .int a1, .int a2, .null] [] := by
  intro m a1 a2 hS
  unfold F_X6_spoilsOf_22
  refine Cv.go (pc' := 23) (go_aload_n (i := 0) (x := 40) dX6_spoilsOf_22 rfl rfl) ?_
  refine Cv.go (pc' := 26) (go_getR (i := 9) cls6 (sx_k40 hS) (by decide) rfl lf_X6_26 (Or.inr ⟨_, rfl⟩) (sx_r40_9 hS) dX6_spoilsOf_23) ?_
  refine Cv.go (pc' := 27) (go_iconst dX6_spoilsOf_26 ic_5) ?_
  refine Cv.go (pc' := 28) (go_iload_n (i := 1) (x := a1) dX6_spoilsOf_27 rfl rfl) ?_
  refine Cv.go (pc' := 29) (go_imul dX6_spoilsOf_28) ?_
  refine Cv.go (pc' := 30) (go_iconst dX6_spoilsOf_29 ic_2) ?_
  refine Cv.go (pc' := 31) (go_iadd dX6_spoilsOf_30) ?_
  refine Cv.gif fun g16 => ?_
  refine Cv.go (pc' := 32) (go_iaload (sx_k45 hS) g16 dX6_spoilsOf_31) ?_
  refine Cv.go (pc' := 34) (go_bipush dX6_spoilsOf_32 ib_6) ?_
  refine Cv.ite (fun h17 => ?_) (fun h17 => ?_)
  · refine Cv.go (pc' := 39) (go_icmp_le_t (tgt := 39) dX6_spoilsOf_34 rfl h17) ?_
    exact c_X6_spoilsOf_39 m a1 a2 hS
  · refine Cv.go (pc' := 37) (go_icmp_le_f 39 dX6_spoilsOf_34 rfl h17) ?_
    refine Cv.go (pc' := 38) (go_iconst dX6_spoilsOf_37 ic_0) ?_
    exact Cv.ret dX6_spoilsOf_38 rfl
theorem kc_X6_spoilsOf (m : Mem) (a1 : Int32) (hS : ShM m) : ∀ v mE, F_X6_spoilsOf m a1 = some (v, mE) → Con true kX6_spoilsOf 43 [.ref 40, .int a1] m (eI v) mE := by
  refine Con.of (ini := false) (ls0 := [.ref 40, .int a1, .null, .null]) (ri := .ireturn) (by decide) (by intro z; cases z) rfl (Nat.le_of_ble_eq_true rfl) (fun v mE _ => RetTy.i) ?_
  show Cv true (cX6_spoilsOf, 4, RX6, 43, ((false, none) : IK)) .ireturn eI (F_X6_spoilsOf m a1) m 0 [.ref 40, .int a1, .null, .null] []
  unfold F_X6_spoilsOf
  refine Cv.go (pc' := 1) (go_aload_n (i := 0) (x := 40) dX6_spoilsOf_0 rfl rfl) ?_
  refine Cv.go (pc' := 4) (go_getR (i := 8) cls6 (sx_k40 hS) (by decide) rfl lf_X6_23 (Or.inr ⟨_, rfl⟩) (sx_r40_8 hS) dX6_spoilsOf_1) ?_
  refine Cv.go (pc' := 5) (go_iload_n (i := 1) (x := a1) dX6_spoilsOf_4 rfl rfl) ?_
  refine Cv.gif fun g1 => ?_
  refine Cv.go (pc' := 6) (go_iaload (sx_k44 hS) g1 dX6_spoilsOf_5) ?_
  refine Cv.namI fun x2 ex2 => ?_
  refine Cv.go (pc' := 7) (ls' := [.ref 40, .int a1, .int x2, .null]) (go_istore_n dX6_spoilsOf_6 rfl (by decide) rfl) ?_
  refine Cv.go (pc' := 8) (go_iload_n (i := 2) (x := x2) dX6_spoilsOf_7 rfl rfl) ?_
  refine Cv.go (pc' := 9) (go_iconst dX6_spoilsOf_8 ic_5) ?_
  refine Cv.ite (fun h3 => ?_) (fun h3 => ?_)
  · refine Cv.go (pc' := 37) (go_icmp_eq_t (tgt := 37) dX6_spoilsOf_9 rfl h3) ?_
    refine Cv.go (pc' := 38) (go_iconst dX6_spoilsOf_37 ic_0) ?_
    exact Cv.ret dX6_spoilsOf_38 rfl
  · refine Cv.go (pc' := 12) (go_icmp_eq_f 37 dX6_spoilsOf_9 rfl h3) ?_
    refine Cv.go (pc' := 13) (go_iload_n (i := 2) (x := x2) dX6_spoilsOf_12 rfl rfl) ?_
    refine Cv.go (pc' := 14) (go_iconst dX6_spoilsOf_13 ic_1) ?_
    refine Cv.ite (fun h4 => ?_) (fun h4 => ?_)
    · refine Cv.go (pc' := 22) (go_icmp_eq_t (tgt := 22) dX6_spoilsOf_14 rfl h4) ?_
      exact c_X6_spoilsOf_22 m a1 x2 hS
    · refine Cv.go (pc' := 17) (go_icmp_eq_f 22 dX6_spoilsOf_14 rfl h4) ?_
      refine Cv.go (pc' := 18) (go_iload_n (i := 2) (x := x2) dX6_spoilsOf_17 rfl rfl) ?_
      refine Cv.go (pc' := 19) (go_iconst dX6_spoilsOf_18 ic_3) ?_
      refine Cv.ite (fun h5 => ?_) (fun h5 => ?_)
      · refine Cv.go (pc' := 22) (go_icmp_ne_f 39 dX6_spoilsOf_19 rfl h5) ?_
        exact c_X6_spoilsOf_22 m a1 x2 hS
      · refine Cv.go (pc' := 39) (go_icmp_ne_t (tgt := 39) dX6_spoilsOf_19 rfl h5) ?_
        exact c_X6_spoilsOf_39 m a1 x2 hS
theorem kc_X6_worthOf (m : Mem) (a1 : Int32) (hS : ShM m) : ∀ v mE, F_X6_worthOf m a1 = some (v, mE) → Con true kX6_worthOf 44 [.ref 40, .int a1] m (eI v) mE := by
  refine Con.of (ini := false) (ls0 := [.ref 40, .int a1, .null, .null, .null, .null]) (ri := .ireturn) (by decide) (by intro z; cases z) rfl (Nat.le_of_ble_eq_true rfl) (fun v mE _ => RetTy.i) ?_
  show Cv true (cX6_worthOf, 6, RX6, 44, ((false, none) : IK)) .ireturn eI (F_X6_worthOf m a1) m 0 [.ref 40, .int a1, .null, .null, .null, .null] []
  unfold F_X6_worthOf
  refine Cv.go (pc' := 1) (go_aload_n (i := 0) (x := 40) dX6_worthOf_0 rfl rfl) ?_
  refine Cv.go (pc' := 2) (go_iload_n (i := 1) (x := a1) dX6_worthOf_1 rfl rfl) ?_
  refine Cv.bnd fun v1 m2 e3 => ?_
  have C4 := kc_X6_turnsOf m a1 hS v1 m2 e3
  refine Cv.go (pc' := 5) (st' := [.int v1]) (go_callV (As := [.int a1]) (st := []) C4 (by decide) ok_X6_turnsOf li_X6_turnsOf ls_X6_turnsOf lm_X6_104 cls6 (sx_k40 hS) rfl rfl (Nat.le_of_ble_eq_true rfl) dX6_worthOf_2) ?_
  have zm2 := C4.1.2.2 rfl
  have hS := hS.sh zm2
  refine Cv.go (pc' := 6) (ls' := [.ref 40, .int a1, .int v1, .null, .null, .null]) (go_istore_n dX6_worthOf_5 rfl (by decide) rfl) ?_
  refine Cv.go (pc' := 7) (go_aload_n (i := 0) (x := 40) dX6_worthOf_6 rfl rfl) ?_
  refine Cv.go (pc' := 10) (go_getR (i := 9) cls6 (sx_k40 hS) (by decide) rfl lf_X6_26 (Or.inr ⟨_, rfl⟩) (sx_r40_9 hS) dX6_worthOf_7) ?_
  refine Cv.go (pc' := 11) (go_iconst dX6_worthOf_10 ic_5) ?_
  refine Cv.go (pc' := 12) (go_iload_n (i := 1) (x := a1) dX6_worthOf_11 rfl rfl) ?_
  refine Cv.go (pc' := 13) (go_imul dX6_worthOf_12) ?_
  refine Cv.go (pc' := 14) (go_iconst dX6_worthOf_13 ic_3) ?_
  refine Cv.go (pc' := 15) (go_iadd dX6_worthOf_14) ?_
  refine Cv.gif fun g5 => ?_
  refine Cv.go (pc' := 16) (go_iaload (sx_k45 hS) g5 dX6_worthOf_15) ?_
  refine Cv.namI fun x6 ex6 => ?_
  refine Cv.go (pc' := 17) (ls' := [.ref 40, .int a1, .int v1, .int x6, .null, .null]) (go_istore_n dX6_worthOf_16 rfl (by decide) rfl) ?_
  refine Cv.go (pc' := 18) (go_iload_n (i := 3) (x := x6) dX6_worthOf_17 rfl rfl) ?_
  refine Cv.go (pc' := 19) (go_iload_n (i := 2) (x := v1) dX6_worthOf_18 rfl rfl) ?_
  refine Cv.ite (fun h7 => ?_) (fun h7 => ?_)
  · refine Cv.go (pc' := 33) (go_icmp_ge_t (tgt := 33) dX6_worthOf_19 rfl h7) ?_
    refine Cv.go (pc' := 34) (go_aload_n (i := 0) (x := 40) dX6_worthOf_33 rfl rfl) ?_
    refine Cv.go (pc' := 35) (go_iload_n (i := 1) (x := a1) dX6_worthOf_34 rfl rfl) ?_
    refine Cv.bnd fun v8 m9 e10 => ?_
    have C11 := kc_X6_givesOf m2 a1 hS v8 m9 e10
    refine Cv.go (pc' := 38) (st' := [.int v8]) (go_callV (As := [.int a1]) (st := []) C11 (by decide) ok_X6_givesOf li_X6_givesOf ls_X6_givesOf lm_X6_107 cls6 (sx_k40 hS) rfl rfl (Nat.le_of_ble_eq_true rfl) dX6_worthOf_35) ?_
    have zm9 := C11.1.2.2 rfl
    have hS := hS.sh zm9
    refine Cv.go (pc' := 40) (ls' := [.ref 40, .int a1, .int v1, .int x6, .int v8, .null]) (go_istore dX6_worthOf_38 (by decide) rfl) ?_
    refine Cv.go (pc' := 42) (go_iload (i := 4) (x := v8) dX6_worthOf_40 rfl) ?_
    refine Cv.go (pc' := 43) (go_aload_n (i := 0) (x := 40) dX6_worthOf_42 rfl rfl) ?_
    refine Cv.go (pc' := 44) (go_iload_n (i := 1) (x := a1) dX6_worthOf_43 rfl rfl) ?_
    refine Cv.bnd fun v12 m13 e14 => ?_
    have C15 := kc_X6_spoilsOf m9 a1 hS v12 m13 e14
    refine Cv.go (pc' := 47) (st' := [.int v12, .int v8]) (go_callV (As := [.int a1]) (st := [.int v8]) C15 (by decide) ok_X6_spoilsOf li_X6_spoilsOf ls_X6_spoilsOf lm_X6_110 cls6 (sx_k40 hS) rfl rfl (Nat.le_of_ble_eq_true rfl) dX6_worthOf_44) ?_
    have zm13 := C15.1.2.2 rfl
    have hS := hS.sh zm13
    refine Cv.go (pc' := 48) (go_iload_n (i := 3) (x := x6) dX6_worthOf_47 rfl rfl) ?_
    refine Cv.go (pc' := 49) (go_iload_n (i := 2) (x := v1) dX6_worthOf_48 rfl rfl) ?_
    refine Cv.go (pc' := 50) (go_isub dX6_worthOf_49) ?_
    refine Cv.go (pc' := 51) (go_imul dX6_worthOf_50) ?_
    refine Cv.go (pc' := 52) (go_isub dX6_worthOf_51) ?_
    refine Cv.namI fun x16 ex16 => ?_
    refine Cv.go (pc' := 54) (ls' := [.ref 40, .int a1, .int v1, .int x6, .int v8, .int x16]) (go_istore dX6_worthOf_52 (by decide) rfl) ?_
    refine Cv.go (pc' := 56) (go_iload (i := 4) (x := v8) dX6_worthOf_54 rfl) ?_
    refine Cv.ite (fun h17 => ?_) (fun h17 => ?_)
    · refine Cv.go (pc' := 64) (go_if_ge_t (tgt := 64) dX6_worthOf_56 rfl h17) ?_
      refine Cv.go (pc' := 66) (go_iload (i := 5) (x := x16) dX6_worthOf_64 rfl) ?_
      refine Cv.ite (fun h18 => ?_) (fun h18 => ?_)
      · refine Cv.go (pc' := 73) (go_if_ge_t (tgt := 73) dX6_worthOf_66 rfl h18) ?_
        refine Cv.go (pc' := 75) (go_iload (i := 5) (x := x16) dX6_worthOf_73 rfl) ?_
        exact Cv.ret dX6_worthOf_75 rfl
      · refine Cv.go (pc' := 69) (go_if_ge_f 73 dX6_worthOf_66 rfl h18) ?_
        refine Cv.go (pc' := 70) (go_iconst dX6_worthOf_69 ic_0) ?_
        refine Cv.go (pc' := 75) (go_goto (tgt := 75) dX6_worthOf_70 rfl) ?_
        exact Cv.ret dX6_worthOf_75 rfl
    · refine Cv.go (pc' := 59) (go_if_ge_f 64 dX6_worthOf_56 rfl h17) ?_
      refine Cv.go (pc' := 61) (go_iload (i := 4) (x := v8) dX6_worthOf_59 rfl) ?_
      refine Cv.go (pc' := 75) (go_goto (tgt := 75) dX6_worthOf_61 rfl) ?_
      exact Cv.ret dX6_worthOf_75 rfl
  · refine Cv.go (pc' := 22) (go_icmp_ge_f 33 dX6_worthOf_19 rfl h7) ?_
    refine Cv.go (pc' := 23) (go_aload_n (i := 0) (x := 40) dX6_worthOf_22 rfl rfl) ?_
    refine Cv.go (pc' := 26) (go_getR (i := 9) cls6 (sx_k40 hS) (by decide) rfl lf_X6_26 (Or.inr ⟨_, rfl⟩) (sx_r40_9 hS) dX6_worthOf_23) ?_
    refine Cv.go (pc' := 27) (go_iconst dX6_worthOf_26 ic_5) ?_
    refine Cv.go (pc' := 28) (go_iload_n (i := 1) (x := a1) dX6_worthOf_27 rfl rfl) ?_
    refine Cv.go (pc' := 29) (go_imul dX6_worthOf_28) ?_
    refine Cv.go (pc' := 30) (go_iconst dX6_worthOf_29 ic_1) ?_
    refine Cv.go (pc' := 31) (go_iadd dX6_worthOf_30) ?_
    refine Cv.gif fun g19 => ?_
    refine Cv.go (pc' := 32) (go_iaload (sx_k45 hS) g19 dX6_worthOf_31) ?_
    exact Cv.ret dX6_worthOf_32 rfl
theorem kc_X6_isWhole (m : Mem) (a1 : Int32) (hS : ShM m) : ∀ v mE, F_X6_isWhole m a1 = some (v, mE) → Con true kX6_isWhole 44 [.ref 40, .int a1] m (eZ v) mE := by
  refine Con.of (ini := false) (ls0 := [.ref 40, .int a1]) (ri := .ireturn) (by decide) (by intro z; cases z) rfl (Nat.le_of_ble_eq_true rfl) (fun v mE _ => RetTy.z) ?_
  show Cv true (cX6_isWhole, 2, RX6, 44, ((false, none) : IK)) .ireturn eZ (F_X6_isWhole m a1) m 0 [.ref 40, .int a1] []
  unfold F_X6_isWhole
  refine Cv.go (pc' := 1) (go_aload_n (i := 0) (x := 40) dX6_isWhole_0 rfl rfl) ?_
  refine Cv.go (pc' := 4) (go_getR (i := 9) cls6 (sx_k40 hS) (by decide) rfl lf_X6_26 (Or.inr ⟨_, rfl⟩) (sx_r40_9 hS) dX6_isWhole_1) ?_
  refine Cv.go (pc' := 5) (go_iconst dX6_isWhole_4 ic_5) ?_
  refine Cv.go (pc' := 6) (go_iload_n (i := 1) (x := a1) dX6_isWhole_5 rfl rfl) ?_
  refine Cv.go (pc' := 7) (go_imul dX6_isWhole_6) ?_
  refine Cv.go (pc' := 8) (go_iconst dX6_isWhole_7 ic_3) ?_
  refine Cv.go (pc' := 9) (go_iadd dX6_isWhole_8) ?_
  refine Cv.gif fun g1 => ?_
  refine Cv.go (pc' := 10) (go_iaload (sx_k45 hS) g1 dX6_isWhole_9) ?_
  refine Cv.go (pc' := 11) (go_aload_n (i := 0) (x := 40) dX6_isWhole_10 rfl rfl) ?_
  refine Cv.go (pc' := 12) (go_iload_n (i := 1) (x := a1) dX6_isWhole_11 rfl rfl) ?_
  refine Cv.bnd fun v2 m3 e4 => ?_
  have C5 := kc_X6_turnsOf m a1 hS v2 m3 e4
  refine Cv.go (pc' := 15) (st' := [.int v2, .int (mD m 45 (((5 : Int32) * a1) + (3 : Int32)).toNatClampNeg)]) (go_callV (As := [.int a1]) (st := [.int (mD m 45 (((5 : Int32) * a1) + (3 : Int32)).toNatClampNeg)]) C5 (by decide) ok_X6_turnsOf li_X6_turnsOf ls_X6_turnsOf lm_X6_104 cls6 (sx_k40 hS) rfl rfl (Nat.le_of_ble_eq_true rfl) dX6_isWhole_12) ?_
  have zm3 := C5.1.2.2 rfl
  have hS := hS.sh zm3
  refine Cv.ite (fun h6 => ?_) (fun h6 => ?_)
  · refine Cv.go (pc' := 22) (go_icmp_ge_t (tgt := 22) dX6_isWhole_15 rfl h6) ?_
    refine Cv.go (pc' := 23) (go_iconst dX6_isWhole_22 ic_0) ?_
    exact Cv.ret dX6_isWhole_23 rfl
  · refine Cv.go (pc' := 18) (go_icmp_ge_f 22 dX6_isWhole_15 rfl h6) ?_
    refine Cv.go (pc' := 19) (go_iconst dX6_isWhole_18 ic_1) ?_
    refine Cv.go (pc' := 23) (go_goto (tgt := 23) dX6_isWhole_19 rfl) ?_
    exact Cv.ret dX6_isWhole_23 rfl
theorem c_X6_told_27 : ∀ (m : Mem) (a1 : Int32) (a2 : Int32) (hS : ShM m), Cv true (cX6_told, 3, RX6, 45, ((false, none) : IK)) .ireturn eI (F_X6_told_27 m a1 a2) m 27 [.ref 40, .int a1, .int a2] [] := by
  intro m a1 a2 hS
  unfold F_X6_told_27
  refine Cv.go (pc' := 28) (go_iload_n (i := 2) (x := a2) dX6_told_27 rfl rfl) ?_
  refine Cv.go (pc' := 30) (go_bipush dX6_told_28 ib_7) ?_
  refine Cv.ite (fun h12 => ?_) (fun h12 => ?_)
  · refine Cv.go (pc' := 72) (go_icmp_ge_t (tgt := 72) dX6_told_30 rfl h12) ?_
    refine Cv.go (pc' := 73) (go_iload_n (i := 2) (x := a2) dX6_told_72 rfl rfl) ?_
    refine Cv.go (pc' := 75) (go_bipush dX6_told_73 ib_10) ?_
    refine Cv.ite (fun h13 => ?_) (fun h13 => ?_)
    · refine Cv.go (pc' := 112) (go_icmp_ge_t (tgt := 112) dX6_told_75 rfl h13) ?_
      refine Cv.go (pc' := 113) (go_iload_n (i := 2) (x := a2) dX6_told_112 rfl rfl) ?_
      refine Cv.go (pc' := 115) (go_bipush dX6_told_113 ib_10) ?_
      refine Cv.ite (fun h14 => ?_) (fun h14 => ?_)
      · refine Cv.go (pc' := 118) (go_icmp_ne_f 134 dX6_told_115 rfl h14) ?_
        refine Cv.go (pc' := 119) (go_aload_n (i := 0) (x := 40) dX6_told_118 rfl rfl) ?_
        refine Cv.go (pc' := 120) (go_iload_n (i := 1) (x := a1) dX6_told_119 rfl rfl) ?_
        refine Cv.bnd fun v19 m20 e21 => ?_
        have C22 := kc_X6_isWhole m a1 hS v19 m20 e21
        refine Cv.go (pc' := 123) (st' := [.int (bz v19)]) (go_callV (As := [.int a1]) (st := []) C22 (by decide) ok_X6_isWhole li_X6_isWhole ls_X6_isWhole lm_X6_113 cls6 (sx_k40 hS) rfl rfl (Nat.le_of_ble_eq_true rfl) dX6_told_120) ?_
        have zm20 := C22.1.2.2 rfl
        have hS := hS.sh zm20
        refine Cv.ite (fun h23 => ?_) (fun h23 => ?_)
        · refine Cv.go (pc' := 130) (go_if_eq_t (tgt := 130) dX6_told_123 rfl h23) ?_
          refine Cv.go (pc' := 131) (go_iconst dX6_told_130 ic_0) ?_
          refine Cv.go (pc' := 139) (go_goto (tgt := 139) dX6_told_131 rfl) ?_
          exact Cv.ret dX6_told_139 rfl
        · refine Cv.go (pc' := 126) (go_if_eq_f 130 dX6_told_123 rfl h23) ?_
          refine Cv.go (pc' := 127) (go_iconst dX6_told_126 ic_1) ?_
          refine Cv.go (pc' := 139) (go_goto (tgt := 139) dX6_told_127 rfl) ?_
          exact Cv.ret dX6_told_139 rfl
      · refine Cv.go (pc' := 134) (go_icmp_ne_t (tgt := 134) dX6_told_115 rfl h14) ?_
        refine Cv.go (pc' := 135) (go_aload_n (i := 0) (x := 40) dX6_told_134 rfl rfl) ?_
        refine Cv.go (pc' := 136) (go_iload_n (i := 1) (x := a1) dX6_told_135 rfl rfl) ?_
        refine Cv.bnd fun v15 m16 e17 => ?_
        have C18 := kc_X6_worthOf m a1 hS v15 m16 e17
        refine Cv.go (pc' := 139) (st' := [.int v15]) (go_callV (As := [.int a1]) (st := []) C18 (by decide) ok_X6_worthOf li_X6_worthOf ls_X6_worthOf lm_X6_116 cls6 (sx_k40 hS) rfl rfl (Nat.le_of_ble_eq_true rfl) dX6_told_136) ?_
        have zm16 := C18.1.2.2 rfl
        have hS := hS.sh zm16
        exact Cv.ret dX6_told_139 rfl
    · refine Cv.go (pc' := 78) (go_icmp_ge_f 112 dX6_told_75 rfl h13) ?_
      refine Cv.go (pc' := 79) (go_iload_n (i := 2) (x := a2) dX6_told_78 rfl rfl) ?_
      refine Cv.go (pc' := 81) (go_bipush dX6_told_79 ib_7) ?_
      refine Cv.ite (fun h24 => ?_) (fun h24 => ?_)
      · refine Cv.go (pc' := 84) (go_icmp_ne_f 92 dX6_told_81 rfl h24) ?_
        refine Cv.go (pc' := 85) (go_aload_n (i := 0) (x := 40) dX6_told_84 rfl rfl) ?_
        refine Cv.go (pc' := 86) (go_iload_n (i := 1) (x := a1) dX6_told_85 rfl rfl) ?_
        refine Cv.bnd fun v34 m35 e36 => ?_
        have C37 := kc_X6_turnsOf m a1 hS v34 m35 e36
        refine Cv.go (pc' := 89) (st' := [.int v34]) (go_callV (As := [.int a1]) (st := []) C37 (by decide) ok_X6_turnsOf li_X6_turnsOf ls_X6_turnsOf lm_X6_104 cls6 (sx_k40 hS) rfl rfl (Nat.le_of_ble_eq_true rfl) dX6_told_86) ?_
        have zm35 := C37.1.2.2 rfl
        have hS := hS.sh zm35
        refine Cv.go (pc' := 111) (go_goto (tgt := 111) dX6_told_89 rfl) ?_
        exact Cv.ret dX6_told_111 rfl
      · refine Cv.go (pc' := 92) (go_icmp_ne_t (tgt := 92) dX6_told_81 rfl h24) ?_
        refine Cv.go (pc' := 93) (go_iload_n (i := 2) (x := a2) dX6_told_92 rfl rfl) ?_
        refine Cv.go (pc' := 95) (go_bipush dX6_told_93 ib_8) ?_
        refine Cv.ite (fun h25 => ?_) (fun h25 => ?_)
        · refine Cv.go (pc' := 98) (go_icmp_ne_f 106 dX6_told_95 rfl h25) ?_
          refine Cv.go (pc' := 99) (go_aload_n (i := 0) (x := 40) dX6_told_98 rfl rfl) ?_
          refine Cv.go (pc' := 100) (go_iload_n (i := 1) (x := a1) dX6_told_99 rfl rfl) ?_
          refine Cv.bnd fun v30 m31 e32 => ?_
          have C33 := kc_X6_givesOf m a1 hS v30 m31 e32
          refine Cv.go (pc' := 103) (st' := [.int v30]) (go_callV (As := [.int a1]) (st := []) C33 (by decide) ok_X6_givesOf li_X6_givesOf ls_X6_givesOf lm_X6_107 cls6 (sx_k40 hS) rfl rfl (Nat.le_of_ble_eq_true rfl) dX6_told_100) ?_
          have zm31 := C33.1.2.2 rfl
          have hS := hS.sh zm31
          refine Cv.go (pc' := 111) (go_goto (tgt := 111) dX6_told_103 rfl) ?_
          exact Cv.ret dX6_told_111 rfl
        · refine Cv.go (pc' := 106) (go_icmp_ne_t (tgt := 106) dX6_told_95 rfl h25) ?_
          refine Cv.go (pc' := 107) (go_aload_n (i := 0) (x := 40) dX6_told_106 rfl rfl) ?_
          refine Cv.go (pc' := 108) (go_iload_n (i := 1) (x := a1) dX6_told_107 rfl rfl) ?_
          refine Cv.bnd fun v26 m27 e28 => ?_
          have C29 := kc_X6_spoilsOf m a1 hS v26 m27 e28
          refine Cv.go (pc' := 111) (st' := [.int v26]) (go_callV (As := [.int a1]) (st := []) C29 (by decide) ok_X6_spoilsOf li_X6_spoilsOf ls_X6_spoilsOf lm_X6_110 cls6 (sx_k40 hS) rfl rfl (Nat.le_of_ble_eq_true rfl) dX6_told_108) ?_
          have zm27 := C29.1.2.2 rfl
          have hS := hS.sh zm27
          exact Cv.ret dX6_told_111 rfl
  · refine Cv.go (pc' := 33) (go_icmp_ge_f 72 dX6_told_30 rfl h12) ?_
    refine Cv.go (pc' := 34) (go_iload_n (i := 2) (x := a2) dX6_told_33 rfl rfl) ?_
    refine Cv.ite (fun h38 => ?_) (fun h38 => ?_)
    · refine Cv.go (pc' := 37) (go_if_ne_f 44 dX6_told_34 rfl h38) ?_
      refine Cv.go (pc' := 38) (go_aload_n (i := 0) (x := 40) dX6_told_37 rfl rfl) ?_
      refine Cv.go (pc' := 41) (go_getI (i := 7) cls6 (sx_k40 hS) (by decide) rfl lf_X6_91 (by decide) dX6_told_38) ?_
      refine Cv.go (pc' := 71) (go_goto (tgt := 71) dX6_told_41 rfl) ?_
      exact Cv.ret dX6_told_71 rfl
    · refine Cv.go (pc' := 44) (go_if_ne_t (tgt := 44) dX6_told_34 rfl h38) ?_
      refine Cv.go (pc' := 45) (go_iload_n (i := 2) (x := a2) dX6_told_44 rfl rfl) ?_
      refine Cv.go (pc' := 47) (go_bipush dX6_told_45 ib_6) ?_
      refine Cv.ite (fun h39 => ?_) (fun h39 => ?_)
      · refine Cv.go (pc' := 65) (go_icmp_ge_t (tgt := 65) dX6_told_47 rfl h39) ?_
        refine Cv.go (pc' := 66) (go_aload_n (i := 0) (x := 40) dX6_told_65 rfl rfl) ?_
        refine Cv.go (pc' := 69) (go_getR (i := 8) cls6 (sx_k40 hS) (by decide) rfl lf_X6_23 (Or.inr ⟨_, rfl⟩) (sx_r40_8 hS) dX6_told_66) ?_
        refine Cv.go (pc' := 70) (go_iload_n (i := 1) (x := a1) dX6_told_69 rfl rfl) ?_
        refine Cv.gif fun g40 => ?_
        refine Cv.go (pc' := 71) (go_iaload (sx_k44 hS) g40 dX6_told_70) ?_
        exact Cv.ret dX6_told_71 rfl
      · refine Cv.go (pc' := 50) (go_icmp_ge_f 65 dX6_told_47 rfl h39) ?_
        refine Cv.go (pc' := 51) (go_aload_n (i := 0) (x := 40) dX6_told_50 rfl rfl) ?_
        refine Cv.go (pc' := 54) (go_getR (i := 9) cls6 (sx_k40 hS) (by decide) rfl lf_X6_26 (Or.inr ⟨_, rfl⟩) (sx_r40_9 hS) dX6_told_51) ?_
        refine Cv.go (pc' := 55) (go_iconst dX6_told_54 ic_5) ?_
        refine Cv.go (pc' := 56) (go_iload_n (i := 1) (x := a1) dX6_told_55 rfl rfl) ?_
        refine Cv.go (pc' := 57) (go_imul dX6_told_56) ?_
        refine Cv.go (pc' := 58) (go_iload_n (i := 2) (x := a2) dX6_told_57 rfl rfl) ?_
        refine Cv.go (pc' := 59) (go_iadd dX6_told_58) ?_
        refine Cv.go (pc' := 60) (go_iconst dX6_told_59 ic_1) ?_
        refine Cv.go (pc' := 61) (go_isub dX6_told_60) ?_
        refine Cv.gif fun g41 => ?_
        refine Cv.go (pc' := 62) (go_iaload (sx_k45 hS) g41 dX6_told_61) ?_
        refine Cv.go (pc' := 71) (go_goto (tgt := 71) dX6_told_62 rfl) ?_
        exact Cv.ret dX6_told_71 rfl
theorem c_X6_told_24 : ∀ (m : Mem) (hS : ShM m), Cv true (cX6_told, 3, RX6, 45, ((false, none) : IK)) .ireturn eI (F_X6_told_24 m) m 24 [.null, .null, .null] [] := by
  intro m hS
  unfold F_X6_told_24
  refine Cv.go (pc' := 26) (go_ldc dX6_told_24 lc_X6_103) ?_
  exact Cv.ret dX6_told_26 rfl
theorem kc_X6_told (m : Mem) (a1 : Int32) (a2 : Int32) (hS : ShM m) : ∀ v mE, F_X6_told m a1 a2 = some (v, mE) → Con true kX6_told 45 [.ref 40, .int a1, .int a2] m (eI v) mE := by
  refine Con.of (ini := false) (ls0 := [.ref 40, .int a1, .int a2]) (ri := .ireturn) (by decide) (by intro z; cases z) rfl (Nat.le_of_ble_eq_true rfl) (fun v mE _ => RetTy.i) ?_
  show Cv true (cX6_told, 3, RX6, 45, ((false, none) : IK)) .ireturn eI (F_X6_told m a1 a2) m 0 [.ref 40, .int a1, .int a2] []
  unfold F_X6_told
  refine Cv.go (pc' := 1) (go_iload_n (i := 2) (x := a2) dX6_told_0 rfl rfl) ?_
  refine Cv.go (pc' := 2) (go_i2l dX6_told_1) ?_
  refine Cv.go (pc' := 3) (go_lconst (v := 0) dX6_told_2 (by decide)) ?_
  refine Cv.go (pc' := 6) (go_ldc2 dX6_told_3 ll_X6_101) ?_
  refine Cv.bnd fun v1 m2 e3 => ?_
  have C4 := kc_X6_in m a2.toInt64 (0 : Int64) (11 : Int64) v1 m2 e3
  refine Cv.go (pc' := 9) (st' := [.int (bz v1)]) (go_callS (As := [.long a2.toInt64, .long (0 : Int64), .long (11 : Int64)]) (st := []) C4 (by decide) ok_X6_in lt_X6_in lm_X6_67 rfl rfl (Nat.le_of_ble_eq_true rfl) dX6_told_6) ?_
  have zm2 := C4.1.2.2 rfl
  have hS := hS.sh zm2
  refine Cv.ite (fun h5 => ?_) (fun h5 => ?_)
  · refine Cv.go (pc' := 24) (go_if_eq_t (tgt := 24) dX6_told_9 rfl h5) ?_
    refine Cv.weak (ls' := [.null, .null, .null]) (⟨Or.inl rfl, ⟨Or.inl rfl, ⟨Or.inl rfl, True.intro⟩⟩⟩) ?_
    exact c_X6_told_24 m2 hS
  · refine Cv.go (pc' := 12) (go_if_eq_f 24 dX6_told_9 rfl h5) ?_
    refine Cv.go (pc' := 13) (go_iload_n (i := 2) (x := a2) dX6_told_12 rfl rfl) ?_
    refine Cv.ite (fun h6 => ?_) (fun h6 => ?_)
    · refine Cv.go (pc' := 27) (go_if_le_t (tgt := 27) dX6_told_13 rfl h6) ?_
      exact c_X6_told_27 m2 a1 a2 hS
    · refine Cv.go (pc' := 16) (go_if_le_f 27 dX6_told_13 rfl h6) ?_
      refine Cv.go (pc' := 17) (go_aload_n (i := 0) (x := 40) dX6_told_16 rfl rfl) ?_
      refine Cv.go (pc' := 18) (go_iload_n (i := 1) (x := a1) dX6_told_17 rfl rfl) ?_
      refine Cv.bnd fun v7 m8 e9 => ?_
      have C10 := kc_X6_isCoin m2 a1 hS v7 m8 e9
      refine Cv.go (pc' := 21) (st' := [.int (bz v7)]) (go_callV (As := [.int a1]) (st := []) C10 (by decide) ok_X6_isCoin li_X6_isCoin ls_X6_isCoin lm_X6_75 cls6 (sx_k40 hS) rfl rfl (Nat.le_of_ble_eq_true rfl) dX6_told_18) ?_
      have zm8 := C10.1.2.2 rfl
      have hS := hS.sh zm8
      refine Cv.ite (fun h11 => ?_) (fun h11 => ?_)
      · refine Cv.go (pc' := 24) (go_if_ne_f 27 dX6_told_21 rfl h11) ?_
        refine Cv.weak (ls' := [.null, .null, .null]) (⟨Or.inl rfl, ⟨Or.inl rfl, ⟨Or.inl rfl, True.intro⟩⟩⟩) ?_
        exact c_X6_told_24 m8 hS
      · refine Cv.go (pc' := 27) (go_if_ne_t (tgt := 27) dX6_told_21 rfl h11) ?_
        exact c_X6_told_27 m8 a1 a2 hS
theorem kc_X6_lays (m : Mem) (a1 : Int32) (a2 : Int32) (a3 : Int32) (hS : ShM m) : ∀ v mE, F_X6_lays m a1 a2 a3 = some (v, mE) → Con true kX6_lays 0 [.ref 40, .int a1, .int a2, .int a3] m (eV v) mE := by
  refine Con.of (ini := false) (ls0 := [.ref 40, .int a1, .int a2, .int a3]) (ri := .return_) (by decide) (by intro z; cases z) rfl (Nat.le_of_ble_eq_true rfl) (fun v mE _ => RetTy.v) ?_
  show Cv true (cX6_lays, 4, RX6, 0, ((false, none) : IK)) .return_ eV (F_X6_lays m a1 a2 a3) m 0 [.ref 40, .int a1, .int a2, .int a3] []
  unfold F_X6_lays
  refine Cv.go (pc' := 1) (go_iload_n (i := 1) (x := a1) dX6_lays_0 rfl rfl) ?_
  refine Cv.ite (fun h1 => ?_) (fun h1 => ?_)
  · refine Cv.go (pc' := 4) (go_if_ne_f 12 dX6_lays_1 rfl h1) ?_
    refine Cv.go (pc' := 5) (go_aload_n (i := 0) (x := 40) dX6_lays_4 rfl rfl) ?_
    refine Cv.go (pc' := 6) (go_iload_n (i := 3) (x := a3) dX6_lays_5 rfl rfl) ?_
    refine Cv.go (pc' := 9) (go_putI (i := 7) cls6 (sx_k40 hS) (by decide) rfl lf_X6_91 (by decide) rfl rfl rfl dX6_lays_6) ?_
    refine Cv.namM fun m9 em9 => ?_
    have zm9 : SameSh m m9 := em9 ▸ SameSh.d
    have hS := hS.sh zm9
    refine Cv.go (pc' := 55) (go_goto (tgt := 55) dX6_lays_9 rfl) ?_
    exact Cv.ret dX6_lays_55 rfl
  · refine Cv.go (pc' := 12) (go_if_ne_t (tgt := 12) dX6_lays_1 rfl h1) ?_
    refine Cv.go (pc' := 13) (go_iload_n (i := 1) (x := a1) dX6_lays_12 rfl rfl) ?_
    refine Cv.go (pc' := 15) (go_bipush dX6_lays_13 ib_6) ?_
    refine Cv.ite (fun h2 => ?_) (fun h2 => ?_)
    · refine Cv.go (pc' := 34) (go_icmp_ge_t (tgt := 34) dX6_lays_15 rfl h2) ?_
      refine Cv.go (pc' := 35) (go_iload_n (i := 1) (x := a1) dX6_lays_34 rfl rfl) ?_
      refine Cv.go (pc' := 37) (go_bipush dX6_lays_35 ib_6) ?_
      refine Cv.ite (fun h3 => ?_) (fun h3 => ?_)
      · refine Cv.go (pc' := 40) (go_icmp_ne_f 50 dX6_lays_37 rfl h3) ?_
        refine Cv.go (pc' := 41) (go_aload_n (i := 0) (x := 40) dX6_lays_40 rfl rfl) ?_
        refine Cv.go (pc' := 44) (go_getR (i := 8) cls6 (sx_k40 hS) (by decide) rfl lf_X6_23 (Or.inr ⟨_, rfl⟩) (sx_r40_8 hS) dX6_lays_41) ?_
        refine Cv.go (pc' := 45) (go_iload_n (i := 2) (x := a2) dX6_lays_44 rfl rfl) ?_
        refine Cv.go (pc' := 46) (go_iload_n (i := 3) (x := a3) dX6_lays_45 rfl rfl) ?_
        refine Cv.gif fun g5 => ?_
        refine Cv.go (pc' := 47) (go_iastore (sx_k44 hS) g5 dX6_lays_46) ?_
        refine Cv.namM fun m6 em6 => ?_
        have zm6 : SameSh m m6 := em6 ▸ SameSh.d
        have hS := hS.sh zm6
        refine Cv.go (pc' := 55) (go_goto (tgt := 55) dX6_lays_47 rfl) ?_
        exact Cv.ret dX6_lays_55 rfl
      · refine Cv.go (pc' := 50) (go_icmp_ne_t (tgt := 50) dX6_lays_37 rfl h3) ?_
        refine Cv.go (pc' := 51) (go_aload_n (i := 0) (x := 40) dX6_lays_50 rfl rfl) ?_
        refine Cv.go (pc' := 52) (go_iload_n (i := 3) (x := a3) dX6_lays_51 rfl rfl) ?_
        refine Cv.go (pc' := 55) (go_putI (i := 4) cls6 (sx_k40 hS) (by decide) rfl lf_X6_94 (by decide) rfl rfl rfl dX6_lays_52) ?_
        refine Cv.namM fun m4 em4 => ?_
        have zm4 : SameSh m m4 := em4 ▸ SameSh.d
        have hS := hS.sh zm4
        exact Cv.ret dX6_lays_55 rfl
    · refine Cv.go (pc' := 18) (go_icmp_ge_f 34 dX6_lays_15 rfl h2) ?_
      refine Cv.go (pc' := 19) (go_aload_n (i := 0) (x := 40) dX6_lays_18 rfl rfl) ?_
      refine Cv.go (pc' := 22) (go_getR (i := 9) cls6 (sx_k40 hS) (by decide) rfl lf_X6_26 (Or.inr ⟨_, rfl⟩) (sx_r40_9 hS) dX6_lays_19) ?_
      refine Cv.go (pc' := 23) (go_iconst dX6_lays_22 ic_5) ?_
      refine Cv.go (pc' := 24) (go_iload_n (i := 2) (x := a2) dX6_lays_23 rfl rfl) ?_
      refine Cv.go (pc' := 25) (go_imul dX6_lays_24) ?_
      refine Cv.go (pc' := 26) (go_iload_n (i := 1) (x := a1) dX6_lays_25 rfl rfl) ?_
      refine Cv.go (pc' := 27) (go_iadd dX6_lays_26) ?_
      refine Cv.go (pc' := 28) (go_iconst dX6_lays_27 ic_1) ?_
      refine Cv.go (pc' := 29) (go_isub dX6_lays_28) ?_
      refine Cv.go (pc' := 30) (go_iload_n (i := 3) (x := a3) dX6_lays_29 rfl rfl) ?_
      refine Cv.gif fun g7 => ?_
      refine Cv.go (pc' := 31) (go_iastore (sx_k45 hS) g7 dX6_lays_30) ?_
      refine Cv.namM fun m8 em8 => ?_
      have zm8 : SameSh m m8 := em8 ▸ SameSh.d
      have hS := hS.sh zm8
      refine Cv.go (pc' := 55) (go_goto (tgt := 55) dX6_lays_31 rfl) ?_
      exact Cv.ret dX6_lays_55 rfl
theorem c_X6_set_36 : ∀ (m : Mem) (a1 : Int32) (a2 : Int32) (a3 : Int32) (s0 : Int64) (s1 : Int64) (hS : ShM m), Cv true (cX6_set, 5, RX6, 46, ((false, none) : IK)) .ireturn eI (F_X6_set_36 m a1 a2 a3 s0 s1) m 36 [.ref 40, .int a1, .int a2, .int a3, .null] [.long s0, .long s1] := by
  intro m a1 a2 a3 s0 s1 hS
  unfold F_X6_set_36
  refine Cv.go (pc' := 37) (go_iload_n (i := 1) (x := a1) dX6_set_36 rfl rfl) ?_
  refine Cv.bnd fun v13 m14 e15 => ?_
  have C16 := kc_X6_mostOf m a1 v13 m14 e15
  refine Cv.go (pc' := 40) (st' := [.int v13, .long s0, .long s1]) (go_callS (As := [.int a1]) (st := [.long s0, .long s1]) C16 (by decide) ok_X6_mostOf lt_X6_mostOf lm_X6_79 rfl rfl (Nat.le_of_ble_eq_true rfl) dX6_set_37) ?_
  have zm14 := C16.1.2.2 rfl
  have hS := hS.sh zm14
  refine Cv.go (pc' := 41) (go_i2l dX6_set_40) ?_
  refine Cv.bnd fun v17 m18 e19 => ?_
  have C20 := kc_X6_in m14 s1 s0 v13.toInt64 v17 m18 e19
  refine Cv.go (pc' := 44) (st' := [.int (bz v17)]) (go_callS (As := [.long s1, .long s0, .long v13.toInt64]) (st := []) C20 (by decide) ok_X6_in lt_X6_in lm_X6_67 rfl rfl (Nat.le_of_ble_eq_true rfl) dX6_set_41) ?_
  have zm18 := C20.1.2.2 rfl
  have hS := hS.sh zm18
  refine Cv.ite (fun h21 => ?_) (fun h21 => ?_)
  · refine Cv.go (pc' := 47) (go_if_ne_f 50 dX6_set_44 rfl h21) ?_
    refine Cv.go (pc' := 49) (go_bipush dX6_set_47 ib_n2) ?_
    exact Cv.ret dX6_set_49 rfl
  · refine Cv.go (pc' := 50) (go_if_ne_t (tgt := 50) dX6_set_44 rfl h21) ?_
    refine Cv.go (pc' := 51) (go_aload_n (i := 0) (x := 40) dX6_set_50 rfl rfl) ?_
    refine Cv.go (pc' := 52) (go_iload_n (i := 2) (x := a2) dX6_set_51 rfl rfl) ?_
    refine Cv.go (pc' := 53) (go_iload_n (i := 1) (x := a1) dX6_set_52 rfl rfl) ?_
    refine Cv.bnd fun v22 m23 e24 => ?_
    have C25 := kc_X6_told m18 a2 a1 hS v22 m23 e24
    refine Cv.go (pc' := 56) (st' := [.int v22]) (go_callV (As := [.int a2, .int a1]) (st := []) C25 (by decide) ok_X6_told li_X6_told ls_X6_told lm_X6_83 cls6 (sx_k40 hS) rfl rfl (Nat.le_of_ble_eq_true rfl) dX6_set_53) ?_
    have zm23 := C25.1.2.2 rfl
    have hS := hS.sh zm23
    refine Cv.go (pc' := 58) (ls' := [.ref 40, .int a1, .int a2, .int a3, .int v22]) (go_istore dX6_set_56 (by decide) rfl) ?_
    refine Cv.go (pc' := 59) (go_aload_n (i := 0) (x := 40) dX6_set_58 rfl rfl) ?_
    refine Cv.go (pc' := 60) (go_iload_n (i := 1) (x := a1) dX6_set_59 rfl rfl) ?_
    refine Cv.go (pc' := 61) (go_iload_n (i := 2) (x := a2) dX6_set_60 rfl rfl) ?_
    refine Cv.go (pc' := 62) (go_iload_n (i := 3) (x := a3) dX6_set_61 rfl rfl) ?_
    refine Cv.bnd fun v26 m27 e28 => ?_
    have C29 := kc_X6_lays m23 a1 a2 a3 hS v26 m27 e28
    refine Cv.go (pc' := 65) (st' := []) (go_callV (As := [.int a1, .int a2, .int a3]) (st := []) C29 (by decide) ok_X6_lays li_X6_lays ls_X6_lays lm_X6_87 cls6 (sx_k40 hS) rfl rfl (Nat.le_of_ble_eq_true rfl) dX6_set_62) ?_
    have zm27 := C29.1.2.2 rfl
    have hS := hS.sh zm27
    refine Cv.go (pc' := 67) (go_iload (i := 4) (x := v22) dX6_set_65 rfl) ?_
    exact Cv.ret dX6_set_67 rfl
theorem c_X6_set_24 : ∀ (m : Mem) (a1 : Int32) (a2 : Int32) (a3 : Int32) (hS : ShM m), Cv true (cX6_set, 5, RX6, 46, ((false, none) : IK)) .ireturn eI (F_X6_set_24 m a1 a2 a3) m 24 [.ref 40, .int a1, .int a2, .int a3, .null] [] := by
  intro m a1 a2 a3 hS
  unfold F_X6_set_24
  refine Cv.go (pc' := 25) (go_iload_n (i := 3) (x := a3) dX6_set_24 rfl rfl) ?_
  refine Cv.go (pc' := 26) (go_i2l dX6_set_25) ?_
  refine Cv.go (pc' := 27) (go_iload_n (i := 1) (x := a1) dX6_set_26 rfl rfl) ?_
  refine Cv.go (pc' := 28) (go_iconst dX6_set_27 ic_2) ?_
  refine Cv.ite (fun h12 => ?_) (fun h12 => ?_)
  · refine Cv.go (pc' := 31) (go_icmp_ne_f 35 dX6_set_28 rfl h12) ?_
    refine Cv.go (pc' := 32) (go_lconst (v := 1) dX6_set_31 (by decide)) ?_
    refine Cv.go (pc' := 36) (go_goto (tgt := 36) dX6_set_32 rfl) ?_
    exact c_X6_set_36 m a1 a2 a3 (1 : Int64) a3.toInt64 hS
  · refine Cv.go (pc' := 35) (go_icmp_ne_t (tgt := 35) dX6_set_28 rfl h12) ?_
    refine Cv.go (pc' := 36) (go_lconst (v := 0) dX6_set_35 (by decide)) ?_
    exact c_X6_set_36 m a1 a2 a3 (0 : Int64) a3.toInt64 hS
theorem kc_X6_set (m : Mem) (a1 : Int32) (a2 : Int32) (a3 : Int32) (hS : ShM m) : ∀ v mE, F_X6_set m a1 a2 a3 = some (v, mE) → Con true kX6_set 46 [.ref 40, .int a1, .int a2, .int a3] m (eI v) mE := by
  refine Con.of (ini := false) (ls0 := [.ref 40, .int a1, .int a2, .int a3, .null]) (ri := .ireturn) (by decide) (by intro z; cases z) rfl (Nat.le_of_ble_eq_true rfl) (fun v mE _ => RetTy.i) ?_
  show Cv true (cX6_set, 5, RX6, 46, ((false, none) : IK)) .ireturn eI (F_X6_set m a1 a2 a3) m 0 [.ref 40, .int a1, .int a2, .int a3, .null] []
  unfold F_X6_set
  refine Cv.go (pc' := 1) (go_iload_n (i := 1) (x := a1) dX6_set_0 rfl rfl) ?_
  refine Cv.go (pc' := 2) (go_i2l dX6_set_1) ?_
  refine Cv.go (pc' := 3) (go_lconst (v := 0) dX6_set_2 (by decide)) ?_
  refine Cv.go (pc' := 6) (go_ldc2 dX6_set_3 ll_X6_73) ?_
  refine Cv.bnd fun v1 m2 e3 => ?_
  have C4 := kc_X6_in m a1.toInt64 (0 : Int64) (5 : Int64) v1 m2 e3
  refine Cv.go (pc' := 9) (st' := [.int (bz v1)]) (go_callS (As := [.long a1.toInt64, .long (0 : Int64), .long (5 : Int64)]) (st := []) C4 (by decide) ok_X6_in lt_X6_in lm_X6_67 rfl rfl (Nat.le_of_ble_eq_true rfl) dX6_set_6) ?_
  have zm2 := C4.1.2.2 rfl
  have hS := hS.sh zm2
  refine Cv.ite (fun h5 => ?_) (fun h5 => ?_)
  · refine Cv.go (pc' := 47) (go_if_eq_t (tgt := 47) dX6_set_9 rfl h5) ?_
    refine Cv.go (pc' := 49) (go_bipush dX6_set_47 ib_n2) ?_
    exact Cv.ret dX6_set_49 rfl
  · refine Cv.go (pc' := 12) (go_if_eq_f 47 dX6_set_9 rfl h5) ?_
    refine Cv.go (pc' := 13) (go_iload_n (i := 1) (x := a1) dX6_set_12 rfl rfl) ?_
    refine Cv.ite (fun h6 => ?_) (fun h6 => ?_)
    · refine Cv.go (pc' := 24) (go_if_le_t (tgt := 24) dX6_set_13 rfl h6) ?_
      exact c_X6_set_24 m2 a1 a2 a3 hS
    · refine Cv.go (pc' := 16) (go_if_le_f 24 dX6_set_13 rfl h6) ?_
      refine Cv.go (pc' := 17) (go_aload_n (i := 0) (x := 40) dX6_set_16 rfl rfl) ?_
      refine Cv.go (pc' := 18) (go_iload_n (i := 2) (x := a2) dX6_set_17 rfl rfl) ?_
      refine Cv.bnd fun v7 m8 e9 => ?_
      have C10 := kc_X6_isCoin m2 a2 hS v7 m8 e9
      refine Cv.go (pc' := 21) (st' := [.int (bz v7)]) (go_callV (As := [.int a2]) (st := []) C10 (by decide) ok_X6_isCoin li_X6_isCoin ls_X6_isCoin lm_X6_75 cls6 (sx_k40 hS) rfl rfl (Nat.le_of_ble_eq_true rfl) dX6_set_18) ?_
      have zm8 := C10.1.2.2 rfl
      have hS := hS.sh zm8
      refine Cv.ite (fun h11 => ?_) (fun h11 => ?_)
      · refine Cv.go (pc' := 47) (go_if_eq_t (tgt := 47) dX6_set_21 rfl h11) ?_
        refine Cv.go (pc' := 49) (go_bipush dX6_set_47 ib_n2) ?_
        exact Cv.ret dX6_set_49 rfl
      · refine Cv.go (pc' := 24) (go_if_eq_f 47 dX6_set_21 rfl h11) ?_
        exact c_X6_set_24 m8 a1 a2 a3 hS
theorem kc_X6_coin (m : Mem) (a1 : Int32) (a2 : Int32) (a3 : Int32) (hS : ShM m) : ∀ v mE, F_X6_coin m a1 a2 a3 = some (v, mE) → Con true kX6_coin 1 [.ref 40, .int a1, .int a2, .int a3] m (eI v) mE := by
  refine Con.of (ini := false) (ls0 := [.ref 40, .int a1, .int a2, .int a3]) (ri := .ireturn) (by decide) (by intro z; cases z) rfl (Nat.le_of_ble_eq_true rfl) (fun v mE _ => RetTy.i) ?_
  show Cv true (cX6_coin, 4, RX6, 1, ((false, none) : IK)) .ireturn eI (F_X6_coin m a1 a2 a3) m 0 [.ref 40, .int a1, .int a2, .int a3] []
  unfold F_X6_coin
  refine Cv.go (pc' := 1) (go_iload_n (i := 1) (x := a1) dX6_coin_0 rfl rfl) ?_
  refine Cv.go (pc' := 2) (go_i2l dX6_coin_1) ?_
  refine Cv.go (pc' := 3) (go_lconst (v := 0) dX6_coin_2 (by decide)) ?_
  refine Cv.go (pc' := 6) (go_ldc2 dX6_coin_3 ll_X6_73) ?_
  refine Cv.bnd fun v1 m2 e3 => ?_
  have C4 := kc_X6_in m a1.toInt64 (0 : Int64) (5 : Int64) v1 m2 e3
  refine Cv.go (pc' := 9) (st' := [.int (bz v1)]) (go_callS (As := [.long a1.toInt64, .long (0 : Int64), .long (5 : Int64)]) (st := []) C4 (by decide) ok_X6_in lt_X6_in lm_X6_67 rfl rfl (Nat.le_of_ble_eq_true rfl) dX6_coin_6) ?_
  have zm2 := C4.1.2.2 rfl
  have hS := hS.sh zm2
  refine Cv.ite (fun h5 => ?_) (fun h5 => ?_)
  · refine Cv.go (pc' := 36) (go_if_eq_t (tgt := 36) dX6_coin_9 rfl h5) ?_
    refine Cv.go (pc' := 38) (go_bipush dX6_coin_36 ib_n2) ?_
    exact Cv.ret dX6_coin_38 rfl
  · refine Cv.go (pc' := 12) (go_if_eq_f 36 dX6_coin_9 rfl h5) ?_
    refine Cv.go (pc' := 13) (go_iload_n (i := 2) (x := a2) dX6_coin_12 rfl rfl) ?_
    refine Cv.go (pc' := 14) (go_i2l dX6_coin_13) ?_
    refine Cv.go (pc' := 15) (go_lconst (v := 0) dX6_coin_14 (by decide)) ?_
    refine Cv.go (pc' := 18) (go_ldc2 dX6_coin_15 ll_X6_97) ?_
    refine Cv.bnd fun v6 m7 e8 => ?_
    have C9 := kc_X6_in m2 a2.toInt64 (0 : Int64) (9 : Int64) v6 m7 e8
    refine Cv.go (pc' := 21) (st' := [.int (bz v6)]) (go_callS (As := [.long a2.toInt64, .long (0 : Int64), .long (9 : Int64)]) (st := []) C9 (by decide) ok_X6_in lt_X6_in lm_X6_67 rfl rfl (Nat.le_of_ble_eq_true rfl) dX6_coin_18) ?_
    have zm7 := C9.1.2.2 rfl
    have hS := hS.sh zm7
    refine Cv.ite (fun h10 => ?_) (fun h10 => ?_)
    · refine Cv.go (pc' := 36) (go_if_eq_t (tgt := 36) dX6_coin_21 rfl h10) ?_
      refine Cv.go (pc' := 38) (go_bipush dX6_coin_36 ib_n2) ?_
      exact Cv.ret dX6_coin_38 rfl
    · refine Cv.go (pc' := 24) (go_if_eq_f 36 dX6_coin_21 rfl h10) ?_
      refine Cv.go (pc' := 25) (go_iload_n (i := 3) (x := a3) dX6_coin_24 rfl rfl) ?_
      refine Cv.go (pc' := 26) (go_i2l dX6_coin_25) ?_
      refine Cv.go (pc' := 27) (go_lconst (v := 1) dX6_coin_26 (by decide)) ?_
      refine Cv.go (pc' := 30) (go_ldc2 dX6_coin_27 ll_X6_99) ?_
      refine Cv.bnd fun v11 m12 e13 => ?_
      have C14 := kc_X6_in m7 a3.toInt64 (1 : Int64) (99 : Int64) v11 m12 e13
      refine Cv.go (pc' := 33) (st' := [.int (bz v11)]) (go_callS (As := [.long a3.toInt64, .long (1 : Int64), .long (99 : Int64)]) (st := []) C14 (by decide) ok_X6_in lt_X6_in lm_X6_67 rfl rfl (Nat.le_of_ble_eq_true rfl) dX6_coin_30) ?_
      have zm12 := C14.1.2.2 rfl
      have hS := hS.sh zm12
      refine Cv.ite (fun h15 => ?_) (fun h15 => ?_)
      · refine Cv.go (pc' := 36) (go_if_ne_f 39 dX6_coin_33 rfl h15) ?_
        refine Cv.go (pc' := 38) (go_bipush dX6_coin_36 ib_n2) ?_
        exact Cv.ret dX6_coin_38 rfl
      · refine Cv.go (pc' := 39) (go_if_ne_t (tgt := 39) dX6_coin_33 rfl h15) ?_
        refine Cv.go (pc' := 40) (go_aload_n (i := 0) (x := 40) dX6_coin_39 rfl rfl) ?_
        refine Cv.go (pc' := 43) (go_getI (i := 10) cls6 (sx_k40 hS) (by decide) rfl lf_X6_64 (by decide) dX6_coin_40) ?_
        refine Cv.go (pc' := 45) (go_bipush dX6_coin_43 ib_8) ?_
        refine Cv.ite (fun h16 => ?_) (fun h16 => ?_)
        · refine Cv.go (pc' := 48) (go_icmp_ne_f 51 dX6_coin_45 rfl h16) ?_
          refine Cv.go (pc' := 50) (go_bipush dX6_coin_48 ib_n4) ?_
          exact Cv.ret dX6_coin_50 rfl
        · refine Cv.go (pc' := 51) (go_icmp_ne_t (tgt := 51) dX6_coin_45 rfl h16) ?_
          refine Cv.go (pc' := 52) (go_aload_n (i := 0) (x := 40) dX6_coin_51 rfl rfl) ?_
          refine Cv.go (pc' := 55) (go_getR (i := 8) cls6 (sx_k40 hS) (by decide) rfl lf_X6_23 (Or.inr ⟨_, rfl⟩) (sx_r40_8 hS) dX6_coin_52) ?_
          refine Cv.go (pc' := 56) (go_aload_n (i := 0) (x := 40) dX6_coin_55 rfl rfl) ?_
          refine Cv.go (pc' := 59) (go_getI (i := 10) cls6 (sx_k40 hS) (by decide) rfl lf_X6_64 (by decide) dX6_coin_56) ?_
          refine Cv.go (pc' := 60) (go_iload_n (i := 1) (x := a1) dX6_coin_59 rfl rfl) ?_
          refine Cv.gif fun g17 => ?_
          refine Cv.go (pc' := 61) (go_iastore (sx_k44 hS) g17 dX6_coin_60) ?_
          refine Cv.namM fun m18 em18 => ?_
          have zm18 : SameSh m12 m18 := em18 ▸ SameSh.d
          have hS := hS.sh zm18
          refine Cv.go (pc' := 62) (go_aload_n (i := 0) (x := 40) dX6_coin_61 rfl rfl) ?_
          refine Cv.go (pc' := 65) (go_getR (i := 9) cls6 (sx_k40 hS) (by decide) rfl lf_X6_26 (Or.inr ⟨_, rfl⟩) (sx_r40_9 hS) dX6_coin_62) ?_
          refine Cv.go (pc' := 66) (go_iconst dX6_coin_65 ic_5) ?_
          refine Cv.go (pc' := 67) (go_aload_n (i := 0) (x := 40) dX6_coin_66 rfl rfl) ?_
          refine Cv.go (pc' := 70) (go_getI (i := 10) cls6 (sx_k40 hS) (by decide) rfl lf_X6_64 (by decide) dX6_coin_67) ?_
          refine Cv.go (pc' := 71) (go_imul dX6_coin_70) ?_
          refine Cv.go (pc' := 72) (go_iload_n (i := 2) (x := a2) dX6_coin_71 rfl rfl) ?_
          refine Cv.gif fun g19 => ?_
          refine Cv.go (pc' := 73) (go_iastore (sx_k45 hS) g19 dX6_coin_72) ?_
          refine Cv.namM fun m20 em20 => ?_
          have zm20 : SameSh m18 m20 := em20 ▸ SameSh.d
          have hS := hS.sh zm20
          refine Cv.go (pc' := 74) (go_aload_n (i := 0) (x := 40) dX6_coin_73 rfl rfl) ?_
          refine Cv.go (pc' := 77) (go_getR (i := 9) cls6 (sx_k40 hS) (by decide) rfl lf_X6_26 (Or.inr ⟨_, rfl⟩) (sx_r40_9 hS) dX6_coin_74) ?_
          refine Cv.go (pc' := 78) (go_iconst dX6_coin_77 ic_5) ?_
          refine Cv.go (pc' := 79) (go_aload_n (i := 0) (x := 40) dX6_coin_78 rfl rfl) ?_
          refine Cv.go (pc' := 82) (go_getI (i := 10) cls6 (sx_k40 hS) (by decide) rfl lf_X6_64 (by decide) dX6_coin_79) ?_
          refine Cv.go (pc' := 83) (go_imul dX6_coin_82) ?_
          refine Cv.go (pc' := 84) (go_iconst dX6_coin_83 ic_1) ?_
          refine Cv.go (pc' := 85) (go_iadd dX6_coin_84) ?_
          refine Cv.go (pc' := 86) (go_iload_n (i := 3) (x := a3) dX6_coin_85 rfl rfl) ?_
          refine Cv.gif fun g21 => ?_
          refine Cv.go (pc' := 87) (go_iastore (sx_k45 hS) g21 dX6_coin_86) ?_
          refine Cv.namM fun m22 em22 => ?_
          have zm22 : SameSh m20 m22 := em22 ▸ SameSh.d
          have hS := hS.sh zm22
          refine Cv.go (pc' := 88) (go_aload_n (i := 0) (x := 40) dX6_coin_87 rfl rfl) ?_
          refine Cv.go (pc' := 91) (go_getR (i := 9) cls6 (sx_k40 hS) (by decide) rfl lf_X6_26 (Or.inr ⟨_, rfl⟩) (sx_r40_9 hS) dX6_coin_88) ?_
          refine Cv.go (pc' := 92) (go_iconst dX6_coin_91 ic_5) ?_
          refine Cv.go (pc' := 93) (go_aload_n (i := 0) (x := 40) dX6_coin_92 rfl rfl) ?_
          refine Cv.go (pc' := 96) (go_getI (i := 10) cls6 (sx_k40 hS) (by decide) rfl lf_X6_64 (by decide) dX6_coin_93) ?_
          refine Cv.go (pc' := 97) (go_imul dX6_coin_96) ?_
          refine Cv.go (pc' := 98) (go_iconst dX6_coin_97 ic_2) ?_
          refine Cv.go (pc' := 99) (go_iadd dX6_coin_98) ?_
          refine Cv.go (pc' := 100) (go_iconst dX6_coin_99 ic_0) ?_
          refine Cv.gif fun g23 => ?_
          refine Cv.go (pc' := 101) (go_iastore (sx_k45 hS) g23 dX6_coin_100) ?_
          refine Cv.namM fun m24 em24 => ?_
          have zm24 : SameSh m22 m24 := em24 ▸ SameSh.d
          have hS := hS.sh zm24
          refine Cv.go (pc' := 102) (go_aload_n (i := 0) (x := 40) dX6_coin_101 rfl rfl) ?_
          refine Cv.go (pc' := 105) (go_getR (i := 9) cls6 (sx_k40 hS) (by decide) rfl lf_X6_26 (Or.inr ⟨_, rfl⟩) (sx_r40_9 hS) dX6_coin_102) ?_
          refine Cv.go (pc' := 106) (go_iconst dX6_coin_105 ic_5) ?_
          refine Cv.go (pc' := 107) (go_aload_n (i := 0) (x := 40) dX6_coin_106 rfl rfl) ?_
          refine Cv.go (pc' := 110) (go_getI (i := 10) cls6 (sx_k40 hS) (by decide) rfl lf_X6_64 (by decide) dX6_coin_107) ?_
          refine Cv.go (pc' := 111) (go_imul dX6_coin_110) ?_
          refine Cv.go (pc' := 112) (go_iconst dX6_coin_111 ic_3) ?_
          refine Cv.go (pc' := 113) (go_iadd dX6_coin_112) ?_
          refine Cv.go (pc' := 114) (go_iconst dX6_coin_113 ic_0) ?_
          refine Cv.gif fun g25 => ?_
          refine Cv.go (pc' := 115) (go_iastore (sx_k45 hS) g25 dX6_coin_114) ?_
          refine Cv.namM fun m26 em26 => ?_
          have zm26 : SameSh m24 m26 := em26 ▸ SameSh.d
          have hS := hS.sh zm26
          refine Cv.go (pc' := 116) (go_aload_n (i := 0) (x := 40) dX6_coin_115 rfl rfl) ?_
          refine Cv.go (pc' := 119) (go_getR (i := 9) cls6 (sx_k40 hS) (by decide) rfl lf_X6_26 (Or.inr ⟨_, rfl⟩) (sx_r40_9 hS) dX6_coin_116) ?_
          refine Cv.go (pc' := 120) (go_iconst dX6_coin_119 ic_5) ?_
          refine Cv.go (pc' := 121) (go_aload_n (i := 0) (x := 40) dX6_coin_120 rfl rfl) ?_
          refine Cv.go (pc' := 124) (go_getI (i := 10) cls6 (sx_k40 hS) (by decide) rfl lf_X6_64 (by decide) dX6_coin_121) ?_
          refine Cv.go (pc' := 125) (go_imul dX6_coin_124) ?_
          refine Cv.go (pc' := 126) (go_iconst dX6_coin_125 ic_4) ?_
          refine Cv.go (pc' := 127) (go_iadd dX6_coin_126) ?_
          refine Cv.go (pc' := 128) (go_iconst dX6_coin_127 ic_0) ?_
          refine Cv.gif fun g27 => ?_
          refine Cv.go (pc' := 129) (go_iastore (sx_k45 hS) g27 dX6_coin_128) ?_
          refine Cv.namM fun m28 em28 => ?_
          have zm28 : SameSh m26 m28 := em28 ▸ SameSh.d
          have hS := hS.sh zm28
          refine Cv.go (pc' := 130) (go_aload_n (i := 0) (x := 40) dX6_coin_129 rfl rfl) ?_
          refine Cv.go (pc' := 131) (go_dup_a dX6_coin_130) ?_
          refine Cv.go (pc' := 134) (go_getI (i := 10) cls6 (sx_k40 hS) (by decide) rfl lf_X6_64 (by decide) dX6_coin_131) ?_
          refine Cv.go (pc' := 135) (go_iconst dX6_coin_134 ic_1) ?_
          refine Cv.go (pc' := 136) (go_iadd dX6_coin_135) ?_
          refine Cv.go (pc' := 139) (go_putI (i := 10) cls6 (sx_k40 hS) (by decide) rfl lf_X6_64 (by decide) rfl rfl rfl dX6_coin_136) ?_
          refine Cv.namM fun m29 em29 => ?_
          have zm29 : SameSh m28 m29 := em29 ▸ SameSh.d
          have hS := hS.sh zm29
          refine Cv.go (pc' := 140) (go_aload_n (i := 0) (x := 40) dX6_coin_139 rfl rfl) ?_
          refine Cv.go (pc' := 143) (go_getI (i := 10) cls6 (sx_k40 hS) (by decide) rfl lf_X6_64 (by decide) dX6_coin_140) ?_
          refine Cv.go (pc' := 144) (go_iconst dX6_coin_143 ic_1) ?_
          refine Cv.go (pc' := 145) (go_isub dX6_coin_144) ?_
          exact Cv.ret dX6_coin_145 rfl
theorem kc_X6_feed (m : Mem) (a1 : Int32) (hS : ShM m) : ∀ v mE, F_X6_feed m a1 = some (v, mE) → Con true kX6_feed 1 [.ref 40, .int a1] m (eI v) mE := by
  refine Con.of (ini := false) (ls0 := [.ref 40, .int a1]) (ri := .ireturn) (by decide) (by intro z; cases z) rfl (Nat.le_of_ble_eq_true rfl) (fun v mE _ => RetTy.i) ?_
  show Cv true (cX6_feed, 2, RX6, 1, ((false, none) : IK)) .ireturn eI (F_X6_feed m a1) m 0 [.ref 40, .int a1] []
  unfold F_X6_feed
  refine Cv.go (pc' := 1) (go_iload_n (i := 1) (x := a1) dX6_feed_0 rfl rfl) ?_
  refine Cv.go (pc' := 2) (go_i2l dX6_feed_1) ?_
  refine Cv.go (pc' := 3) (go_lconst (v := 0) dX6_feed_2 (by decide)) ?_
  refine Cv.go (pc' := 6) (go_ldc2 dX6_feed_3 ll_X6_119) ?_
  refine Cv.bnd fun v1 m2 e3 => ?_
  have C4 := kc_X6_in m a1.toInt64 (0 : Int64) (255 : Int64) v1 m2 e3
  refine Cv.go (pc' := 9) (st' := [.int (bz v1)]) (go_callS (As := [.long a1.toInt64, .long (0 : Int64), .long (255 : Int64)]) (st := []) C4 (by decide) ok_X6_in lt_X6_in lm_X6_67 rfl rfl (Nat.le_of_ble_eq_true rfl) dX6_feed_6) ?_
  have zm2 := C4.1.2.2 rfl
  have hS := hS.sh zm2
  refine Cv.ite (fun h5 => ?_) (fun h5 => ?_)
  · refine Cv.go (pc' := 12) (go_if_ne_f 15 dX6_feed_9 rfl h5) ?_
    refine Cv.go (pc' := 14) (go_bipush dX6_feed_12 ib_n2) ?_
    exact Cv.ret dX6_feed_14 rfl
  · refine Cv.go (pc' := 15) (go_if_ne_t (tgt := 15) dX6_feed_9 rfl h5) ?_
    refine Cv.go (pc' := 16) (go_aload_n (i := 0) (x := 40) dX6_feed_15 rfl rfl) ?_
    refine Cv.go (pc' := 19) (go_getI (i := 6) cls6 (sx_k40 hS) (by decide) rfl lf_X6_121 (by decide) dX6_feed_16) ?_
    refine Cv.go (pc' := 22) (go_sipush dX6_feed_19 is_160) ?_
    refine Cv.ite (fun h6 => ?_) (fun h6 => ?_)
    · refine Cv.go (pc' := 25) (go_icmp_ne_f 28 dX6_feed_22 rfl h6) ?_
      refine Cv.go (pc' := 27) (go_bipush dX6_feed_25 ib_n4) ?_
      exact Cv.ret dX6_feed_27 rfl
    · refine Cv.go (pc' := 28) (go_icmp_ne_t (tgt := 28) dX6_feed_22 rfl h6) ?_
      refine Cv.go (pc' := 29) (go_aload_n (i := 0) (x := 40) dX6_feed_28 rfl rfl) ?_
      refine Cv.go (pc' := 32) (go_getR (i := 5) cls6 (sx_k40 hS) (by decide) rfl lf_X6_20 (Or.inr ⟨_, rfl⟩) (sx_r40_5 hS) dX6_feed_29) ?_
      refine Cv.go (pc' := 33) (go_aload_n (i := 0) (x := 40) dX6_feed_32 rfl rfl) ?_
      refine Cv.go (pc' := 36) (go_getI (i := 6) cls6 (sx_k40 hS) (by decide) rfl lf_X6_121 (by decide) dX6_feed_33) ?_
      refine Cv.go (pc' := 37) (go_iload_n (i := 1) (x := a1) dX6_feed_36 rfl rfl) ?_
      refine Cv.gif fun g7 => ?_
      refine Cv.go (pc' := 38) (go_iastore (sx_k43 hS) g7 dX6_feed_37) ?_
      refine Cv.namM fun m8 em8 => ?_
      have zm8 : SameSh m2 m8 := em8 ▸ SameSh.d
      have hS := hS.sh zm8
      refine Cv.go (pc' := 39) (go_aload_n (i := 0) (x := 40) dX6_feed_38 rfl rfl) ?_
      refine Cv.go (pc' := 40) (go_dup_a dX6_feed_39) ?_
      refine Cv.go (pc' := 43) (go_getI (i := 6) cls6 (sx_k40 hS) (by decide) rfl lf_X6_121 (by decide) dX6_feed_40) ?_
      refine Cv.go (pc' := 44) (go_iconst dX6_feed_43 ic_1) ?_
      refine Cv.go (pc' := 45) (go_iadd dX6_feed_44) ?_
      refine Cv.go (pc' := 48) (go_putI (i := 6) cls6 (sx_k40 hS) (by decide) rfl lf_X6_121 (by decide) rfl rfl rfl dX6_feed_45) ?_
      refine Cv.namM fun m9 em9 => ?_
      have zm9 : SameSh m8 m9 := em9 ▸ SameSh.d
      have hS := hS.sh zm9
      refine Cv.go (pc' := 49) (go_aload_n (i := 0) (x := 40) dX6_feed_48 rfl rfl) ?_
      refine Cv.go (pc' := 52) (go_getI (i := 6) cls6 (sx_k40 hS) (by decide) rfl lf_X6_121 (by decide) dX6_feed_49) ?_
      exact Cv.ret dX6_feed_52 rfl
theorem c_X6_text_14 : ∀ n, ∀ (m : Mem) (a1 : Int32) (hS : ShM m), Cv true (cX6_text, 2, RX6, 42, ((false, none) : IK)) .ireturn eI (F_X6_text_14 n m a1) m 14 [.ref 40, .int a1] [] := by
  intro n
  induction n with
  | zero => intro m a1 hS; exact Cv.no
  | succ n ih =>
    intro m a1 hS
    unfold F_X6_text_14
    refine Cv.go (pc' := 15) (go_iload_n (i := 1) (x := a1) dX6_text_14 rfl rfl) ?_
    refine Cv.go (pc' := 16) (go_aload_n (i := 0) (x := 40) dX6_text_15 rfl rfl) ?_
    refine Cv.go (pc' := 19) (go_getI (i := 6) cls6 (sx_k40 hS) (by decide) rfl lf_X6_121 (by decide) dX6_text_16) ?_
    refine Cv.ite (fun h2 => ?_) (fun h2 => ?_)
    · refine Cv.go (pc' := 49) (go_icmp_ge_t (tgt := 49) dX6_text_19 rfl h2) ?_
      refine Cv.go (pc' := 50) (go_aload_n (i := 0) (x := 40) dX6_text_49 rfl rfl) ?_
      refine Cv.go (pc' := 53) (go_getR (i := 2) cls6 (sx_k40 hS) (by decide) rfl lf_X6_17 (Or.inr ⟨_, rfl⟩) (sx_r40_2 hS) dX6_text_50) ?_
      refine Cv.go (pc' := 54) (go_aload_n (i := 0) (x := 40) dX6_text_53 rfl rfl) ?_
      refine Cv.go (pc' := 57) (go_getI (i := 3) cls6 (sx_k40 hS) (by decide) rfl lf_X6_61 (by decide) dX6_text_54) ?_
      refine Cv.go (pc' := 58) (go_aload_n (i := 0) (x := 40) dX6_text_57 rfl rfl) ?_
      refine Cv.go (pc' := 61) (go_getI (i := 6) cls6 (sx_k40 hS) (by decide) rfl lf_X6_121 (by decide) dX6_text_58) ?_
      refine Cv.gif fun g3 => ?_
      refine Cv.go (pc' := 62) (go_iastore (sx_k42 hS) g3 dX6_text_61) ?_
      refine Cv.namM fun m4 em4 => ?_
      have zm4 : SameSh m m4 := em4 ▸ SameSh.d
      have hS := hS.sh zm4
      refine Cv.go (pc' := 63) (go_aload_n (i := 0) (x := 40) dX6_text_62 rfl rfl) ?_
      refine Cv.go (pc' := 64) (go_iconst dX6_text_63 ic_0) ?_
      refine Cv.go (pc' := 67) (go_putI (i := 6) cls6 (sx_k40 hS) (by decide) rfl lf_X6_121 (by decide) rfl rfl rfl dX6_text_64) ?_
      refine Cv.namM fun m5 em5 => ?_
      have zm5 : SameSh m4 m5 := em5 ▸ SameSh.d
      have hS := hS.sh zm5
      refine Cv.go (pc' := 68) (go_aload_n (i := 0) (x := 40) dX6_text_67 rfl rfl) ?_
      refine Cv.go (pc' := 69) (go_aload_n (i := 0) (x := 40) dX6_text_68 rfl rfl) ?_
      refine Cv.go (pc' := 72) (go_getI (i := 3) cls6 (sx_k40 hS) (by decide) rfl lf_X6_61 (by decide) dX6_text_69) ?_
      refine Cv.go (pc' := 73) (go_iconst dX6_text_72 ic_0) ?_
      refine Cv.bnd fun v6 m7 e8 => ?_
      have C9 := kc_X6_read m5 (mD m5 40 3) (0 : Int32) hS v6 m7 e8
      refine Cv.go (pc' := 76) (st' := [.int v6]) (go_callV (As := [.int (mD m5 40 3), .int (0 : Int32)]) (st := []) C9 (by decide) ok_X6_read li_X6_read ls_X6_read lm_X6_325 cls6 (sx_k40 hS) rfl rfl (Nat.le_of_ble_eq_true rfl) dX6_text_73) ?_
      have zm7 := C9.1.2.2 rfl
      have hS := hS.sh zm7
      refine Cv.go (pc' := 77) (ls' := [.ref 40, .int v6]) (go_istore_n dX6_text_76 rfl (by decide) rfl) ?_
      refine Cv.go (pc' := 78) (go_aload_n (i := 0) (x := 40) dX6_text_77 rfl rfl) ?_
      refine Cv.go (pc' := 81) (go_getI (i := 24) cls6 (sx_k40 hS) (by decide) rfl lf_X6_156 (by decide) dX6_text_78) ?_
      refine Cv.ite (fun h10 => ?_) (fun h10 => ?_)
      · refine Cv.go (pc' := 92) (go_if_eq_t (tgt := 92) dX6_text_81 rfl h10) ?_
        refine Cv.go (pc' := 93) (go_aload_n (i := 0) (x := 40) dX6_text_92 rfl rfl) ?_
        refine Cv.go (pc' := 94) (go_dup_a dX6_text_93) ?_
        refine Cv.go (pc' := 97) (go_getI (i := 3) cls6 (sx_k40 hS) (by decide) rfl lf_X6_61 (by decide) dX6_text_94) ?_
        refine Cv.go (pc' := 98) (go_iconst dX6_text_97 ic_1) ?_
        refine Cv.go (pc' := 99) (go_iadd dX6_text_98) ?_
        refine Cv.go (pc' := 102) (go_putI (i := 3) cls6 (sx_k40 hS) (by decide) rfl lf_X6_61 (by decide) rfl rfl rfl dX6_text_99) ?_
        refine Cv.namM fun m11 em11 => ?_
        have zm11 : SameSh m7 m11 := em11 ▸ SameSh.d
        have hS := hS.sh zm11
        refine Cv.go (pc' := 103) (go_aload_n (i := 0) (x := 40) dX6_text_102 rfl rfl) ?_
        refine Cv.go (pc' := 106) (go_getI (i := 3) cls6 (sx_k40 hS) (by decide) rfl lf_X6_61 (by decide) dX6_text_103) ?_
        refine Cv.go (pc' := 107) (go_iconst dX6_text_106 ic_1) ?_
        refine Cv.go (pc' := 108) (go_isub dX6_text_107) ?_
        exact Cv.ret dX6_text_108 rfl
      · refine Cv.go (pc' := 84) (go_if_eq_f 92 dX6_text_81 rfl h10) ?_
        refine Cv.go (pc' := 86) (go_bipush dX6_text_84 ib_n100) ?_
        refine Cv.go (pc' := 87) (go_aload_n (i := 0) (x := 40) dX6_text_86 rfl rfl) ?_
        refine Cv.go (pc' := 90) (go_getI (i := 25) cls6 (sx_k40 hS) (by decide) rfl lf_X6_160 (by decide) dX6_text_87) ?_
        refine Cv.go (pc' := 91) (go_isub dX6_text_90) ?_
        exact Cv.ret dX6_text_91 rfl
    · refine Cv.go (pc' := 22) (go_icmp_ge_f 49 dX6_text_19 rfl h2) ?_
      refine Cv.go (pc' := 23) (go_aload_n (i := 0) (x := 40) dX6_text_22 rfl rfl) ?_
      refine Cv.go (pc' := 26) (go_getR (i := 1) cls6 (sx_k40 hS) (by decide) rfl lf_X6_13 (Or.inr ⟨_, rfl⟩) (sx_r40_1 hS) dX6_text_23) ?_
      refine Cv.go (pc' := 29) (go_sipush dX6_text_26 is_160) ?_
      refine Cv.go (pc' := 30) (go_aload_n (i := 0) (x := 40) dX6_text_29 rfl rfl) ?_
      refine Cv.go (pc' := 33) (go_getI (i := 3) cls6 (sx_k40 hS) (by decide) rfl lf_X6_61 (by decide) dX6_text_30) ?_
      refine Cv.go (pc' := 34) (go_imul dX6_text_33) ?_
      refine Cv.go (pc' := 35) (go_iload_n (i := 1) (x := a1) dX6_text_34 rfl rfl) ?_
      refine Cv.go (pc' := 36) (go_iadd dX6_text_35) ?_
      refine Cv.go (pc' := 37) (go_aload_n (i := 0) (x := 40) dX6_text_36 rfl rfl) ?_
      refine Cv.go (pc' := 40) (go_getR (i := 5) cls6 (sx_k40 hS) (by decide) rfl lf_X6_20 (Or.inr ⟨_, rfl⟩) (sx_r40_5 hS) dX6_text_37) ?_
      refine Cv.go (pc' := 41) (go_iload_n (i := 1) (x := a1) dX6_text_40 rfl rfl) ?_
      refine Cv.gif fun g12 => ?_
      refine Cv.go (pc' := 42) (go_iaload (sx_k43 hS) g12 dX6_text_41) ?_
      refine Cv.gif fun g13 => ?_
      refine Cv.go (pc' := 43) (go_iastore (sx_k41 hS) g13 dX6_text_42) ?_
      refine Cv.namM fun m14 em14 => ?_
      have zm14 : SameSh m m14 := em14 ▸ SameSh.d
      have hS := hS.sh zm14
      refine Cv.go (pc' := 46) (ls' := [.ref 40, .int (a1 + (1 : Int32))]) (go_iinc (x := a1) (v := a1 + (1 : Int32)) dX6_text_43 rfl rfl (by decide) rfl) ?_
      refine Cv.go (pc' := 14) (go_goto (tgt := 14) dX6_text_46 rfl) ?_
      exact ih m14 (a1 + (1 : Int32)) hS
theorem kc_X6_text (m : Mem) (hS : ShM m) : ∀ v mE, F_X6_text m = some (v, mE) → Con true kX6_text 42 [.ref 40] m (eI v) mE := by
  refine Con.of (ini := false) (ls0 := [.ref 40, .null]) (ri := .ireturn) (by decide) (by intro z; cases z) rfl (Nat.le_of_ble_eq_true rfl) (fun v mE _ => RetTy.i) ?_
  show Cv true (cX6_text, 2, RX6, 42, ((false, none) : IK)) .ireturn eI (F_X6_text m) m 0 [.ref 40, .null] []
  unfold F_X6_text
  refine Cv.go (pc' := 1) (go_aload_n (i := 0) (x := 40) dX6_text_0 rfl rfl) ?_
  refine Cv.go (pc' := 4) (go_getI (i := 3) cls6 (sx_k40 hS) (by decide) rfl lf_X6_61 (by decide) dX6_text_1) ?_
  refine Cv.go (pc' := 6) (go_bipush dX6_text_4 ib_6) ?_
  refine Cv.ite (fun h1 => ?_) (fun h1 => ?_)
  · refine Cv.go (pc' := 9) (go_icmp_ne_f 12 dX6_text_6 rfl h1) ?_
    refine Cv.go (pc' := 11) (go_bipush dX6_text_9 ib_n4) ?_
    exact Cv.ret dX6_text_11 rfl
  · refine Cv.go (pc' := 12) (go_icmp_ne_t (tgt := 12) dX6_text_6 rfl h1) ?_
    refine Cv.go (pc' := 13) (go_iconst dX6_text_12 ic_0) ?_
    refine Cv.go (pc' := 14) (ls' := [.ref 40, .int (0 : Int32)]) (go_istore_n dX6_text_13 rfl (by decide) rfl) ?_
    exact c_X6_text_14 FU m (0 : Int32) hS
theorem kc_X6_force (m : Mem) (a1 : Int32) (hS : ShM m) : ∀ v mE, F_X6_force m a1 = some (v, mE) → Con true kX6_force 1 [.ref 40, .int a1] m (eI v) mE := by
  refine Con.of (ini := false) (ls0 := [.ref 40, .int a1, .null]) (ri := .ireturn) (by decide) (by intro z; cases z) rfl (Nat.le_of_ble_eq_true rfl) (fun v mE _ => RetTy.i) ?_
  show Cv true (cX6_force, 3, RX6, 1, ((false, none) : IK)) .ireturn eI (F_X6_force m a1) m 0 [.ref 40, .int a1, .null] []
  unfold F_X6_force
  refine Cv.go (pc' := 1) (go_iload_n (i := 1) (x := a1) dX6_force_0 rfl rfl) ?_
  refine Cv.go (pc' := 2) (go_i2l dX6_force_1) ?_
  refine Cv.go (pc' := 3) (go_lconst (v := 0) dX6_force_2 (by decide)) ?_
  refine Cv.go (pc' := 4) (go_aload_n (i := 0) (x := 40) dX6_force_3 rfl rfl) ?_
  refine Cv.go (pc' := 7) (go_getI (i := 3) cls6 (sx_k40 hS) (by decide) rfl lf_X6_61 (by decide) dX6_force_4) ?_
  refine Cv.go (pc' := 8) (go_iconst dX6_force_7 ic_1) ?_
  refine Cv.go (pc' := 9) (go_isub dX6_force_8) ?_
  refine Cv.go (pc' := 10) (go_i2l dX6_force_9) ?_
  refine Cv.bnd fun v1 m2 e3 => ?_
  have C4 := kc_X6_in m a1.toInt64 (0 : Int64) (((mD m 40 3) - (1 : Int32)).toInt64) v1 m2 e3
  refine Cv.go (pc' := 13) (st' := [.int (bz v1)]) (go_callS (As := [.long a1.toInt64, .long (0 : Int64), .long (((mD m 40 3) - (1 : Int32)).toInt64)]) (st := []) C4 (by decide) ok_X6_in lt_X6_in lm_X6_67 rfl rfl (Nat.le_of_ble_eq_true rfl) dX6_force_10) ?_
  have zm2 := C4.1.2.2 rfl
  have hS := hS.sh zm2
  refine Cv.ite (fun h5 => ?_) (fun h5 => ?_)
  · refine Cv.go (pc' := 16) (go_if_ne_f 19 dX6_force_13 rfl h5) ?_
    refine Cv.go (pc' := 18) (go_bipush dX6_force_16 ib_n2) ?_
    exact Cv.ret dX6_force_18 rfl
  · refine Cv.go (pc' := 19) (go_if_ne_t (tgt := 19) dX6_force_13 rfl h5) ?_
    refine Cv.go (pc' := 20) (go_aload_n (i := 0) (x := 40) dX6_force_19 rfl rfl) ?_
    refine Cv.go (pc' := 23) (go_getI (i := 4) cls6 (sx_k40 hS) (by decide) rfl lf_X6_94 (by decide) dX6_force_20) ?_
    refine Cv.namI fun x6 ex6 => ?_
    refine Cv.go (pc' := 24) (ls' := [.ref 40, .int a1, .int x6]) (go_istore_n dX6_force_23 rfl (by decide) rfl) ?_
    refine Cv.go (pc' := 25) (go_aload_n (i := 0) (x := 40) dX6_force_24 rfl rfl) ?_
    refine Cv.go (pc' := 26) (go_iload_n (i := 1) (x := a1) dX6_force_25 rfl rfl) ?_
    refine Cv.go (pc' := 29) (go_putI (i := 4) cls6 (sx_k40 hS) (by decide) rfl lf_X6_94 (by decide) rfl rfl rfl dX6_force_26) ?_
    refine Cv.namM fun m7 em7 => ?_
    have zm7 : SameSh m2 m7 := em7 ▸ SameSh.d
    have hS := hS.sh zm7
    refine Cv.go (pc' := 30) (go_iload_n (i := 2) (x := x6) dX6_force_29 rfl rfl) ?_
    exact Cv.ret dX6_force_30 rfl
theorem kc_X6_isOf (m : Mem) (a1 : Int32) (a2 : Int32) (hS : ShM m) : ∀ v mE, F_X6_isOf m a1 a2 = some (v, mE) → Con true kX6_isOf 0 [.ref 40, .int a1, .int a2] m (eZ v) mE := by
  refine Con.of (ini := false) (ls0 := [.ref 40, .int a1, .int a2]) (ri := .ireturn) (by decide) (by intro z; cases z) rfl (Nat.le_of_ble_eq_true rfl) (fun v mE _ => RetTy.z) ?_
  show Cv true (cX6_isOf, 3, RX6, 0, ((false, none) : IK)) .ireturn eZ (F_X6_isOf m a1 a2) m 0 [.ref 40, .int a1, .int a2] []
  unfold F_X6_isOf
  refine Cv.go (pc' := 1) (go_aload_n (i := 0) (x := 40) dX6_isOf_0 rfl rfl) ?_
  refine Cv.go (pc' := 4) (go_getR (i := 9) cls6 (sx_k40 hS) (by decide) rfl lf_X6_26 (Or.inr ⟨_, rfl⟩) (sx_r40_9 hS) dX6_isOf_1) ?_
  refine Cv.go (pc' := 5) (go_iconst dX6_isOf_4 ic_5) ?_
  refine Cv.go (pc' := 6) (go_iload_n (i := 1) (x := a1) dX6_isOf_5 rfl rfl) ?_
  refine Cv.go (pc' := 7) (go_imul dX6_isOf_6) ?_
  refine Cv.go (pc' := 8) (go_iconst dX6_isOf_7 ic_4) ?_
  refine Cv.go (pc' := 9) (go_iadd dX6_isOf_8) ?_
  refine Cv.gif fun g1 => ?_
  refine Cv.go (pc' := 10) (go_iaload (sx_k45 hS) g1 dX6_isOf_9) ?_
  refine Cv.go (pc' := 11) (go_iload_n (i := 2) (x := a2) dX6_isOf_10 rfl rfl) ?_
  refine Cv.ite (fun h2 => ?_) (fun h2 => ?_)
  · refine Cv.go (pc' := 14) (go_icmp_ne_f 18 dX6_isOf_11 rfl h2) ?_
    refine Cv.go (pc' := 15) (go_iconst dX6_isOf_14 ic_1) ?_
    refine Cv.go (pc' := 19) (go_goto (tgt := 19) dX6_isOf_15 rfl) ?_
    exact Cv.ret dX6_isOf_19 rfl
  · refine Cv.go (pc' := 18) (go_icmp_ne_t (tgt := 18) dX6_isOf_11 rfl h2) ?_
    refine Cv.go (pc' := 19) (go_iconst dX6_isOf_18 ic_0) ?_
    exact Cv.ret dX6_isOf_19 rfl
theorem c_X6_richOf_31 (K4 : Mem → Int32 → Int32 → Int32 → Option (Int32 × Mem)) (hK4 : ∀ (m : Mem) (a1 : Int32) (a2 : Int32) (a3 : Int32) (hS : ShM m), Cv true (cX6_richOf, 4, RX6, 45, ((false, none) : IK)) .ireturn eI (K4 m a1 a2 a3) m 4 [.ref 40, .int a1, .int a2, .int a3] []) : ∀ (m : Mem) (a1 : Int32) (a3 : Int32) (s0 : Int32) (s1 : Int32) (hS : ShM m), Cv true (cX6_richOf, 4, RX6, 45, ((false, none) : IK)) .ireturn eI (F_X6_richOf_31 K4 m a1 a3 s0 s1) m 31 [.ref 40, .int a1, .null, .int a3] [.int s0, .int s1] := by
  intro m a1 a3 s0 s1 hS
  unfold F_X6_richOf_31
  refine Cv.go (pc' := 32) (go_iadd dX6_richOf_31) ?_
  refine Cv.namI fun x11 ex11 => ?_
  refine Cv.go (pc' := 33) (ls' := [.ref 40, .int a1, .int x11, .int a3]) (go_istore_n dX6_richOf_32 rfl (by decide) rfl) ?_
  refine Cv.go (pc' := 36) (ls' := [.ref 40, .int a1, .int x11, .int (a3 + (1 : Int32))]) (go_iinc (x := a3) (v := a3 + (1 : Int32)) dX6_richOf_33 rfl rfl (by decide) rfl) ?_
  refine Cv.go (pc' := 4) (go_goto (tgt := 4) dX6_richOf_36 rfl) ?_
  exact hK4 m a1 x11 (a3 + (1 : Int32)) hS
theorem c_X6_richOf_4 : ∀ n, ∀ (m : Mem) (a1 : Int32) (a2 : Int32) (a3 : Int32) (hS : ShM m), Cv true (cX6_richOf, 4, RX6, 45, ((false, none) : IK)) .ireturn eI (F_X6_richOf_4 n m a1 a2 a3) m 4 [.ref 40, .int a1, .int a2, .int a3] [] := by
  intro n
  induction n with
  | zero => intro m a1 a2 a3 hS; exact Cv.no
  | succ n ih =>
    intro m a1 a2 a3 hS
    unfold F_X6_richOf_4
    refine Cv.go (pc' := 5) (go_iload_n (i := 3) (x := a3) dX6_richOf_4 rfl rfl) ?_
    refine Cv.go (pc' := 6) (go_aload_n (i := 0) (x := 40) dX6_richOf_5 rfl rfl) ?_
    refine Cv.go (pc' := 9) (go_getI (i := 10) cls6 (sx_k40 hS) (by decide) rfl lf_X6_64 (by decide) dX6_richOf_6) ?_
    refine Cv.ite (fun h1 => ?_) (fun h1 => ?_)
    · refine Cv.go (pc' := 39) (go_icmp_ge_t (tgt := 39) dX6_richOf_9 rfl h1) ?_
      refine Cv.go (pc' := 40) (go_iload_n (i := 2) (x := a2) dX6_richOf_39 rfl rfl) ?_
      exact Cv.ret dX6_richOf_40 rfl
    · refine Cv.go (pc' := 12) (go_icmp_ge_f 39 dX6_richOf_9 rfl h1) ?_
      refine Cv.go (pc' := 13) (go_iload_n (i := 2) (x := a2) dX6_richOf_12 rfl rfl) ?_
      refine Cv.go (pc' := 14) (go_aload_n (i := 0) (x := 40) dX6_richOf_13 rfl rfl) ?_
      refine Cv.go (pc' := 15) (go_iload_n (i := 3) (x := a3) dX6_richOf_14 rfl rfl) ?_
      refine Cv.go (pc' := 16) (go_iload_n (i := 1) (x := a1) dX6_richOf_15 rfl rfl) ?_
      refine Cv.bnd fun v2 m3 e4 => ?_
      have C5 := kc_X6_isOf m a3 a1 hS v2 m3 e4
      refine Cv.go (pc' := 19) (st' := [.int (bz v2), .int a2]) (go_callV (As := [.int a3, .int a1]) (st := [.int a2]) C5 (by decide) ok_X6_isOf li_X6_isOf ls_X6_isOf lm_X6_335 cls6 (sx_k40 hS) rfl rfl (Nat.le_of_ble_eq_true rfl) dX6_richOf_16) ?_
      have zm3 := C5.1.2.2 rfl
      have hS := hS.sh zm3
      refine Cv.ite (fun h6 => ?_) (fun h6 => ?_)
      · refine Cv.go (pc' := 30) (go_if_eq_t (tgt := 30) dX6_richOf_19 rfl h6) ?_
        refine Cv.go (pc' := 31) (go_iconst dX6_richOf_30 ic_0) ?_
        refine Cv.weak (ls' := [.ref 40, .int a1, .null, .int a3]) (⟨Or.inr rfl, ⟨Or.inr rfl, ⟨Or.inl rfl, ⟨Or.inr rfl, True.intro⟩⟩⟩⟩) ?_
        exact c_X6_richOf_31 (F_X6_richOf_4 n) ih m3 a1 a3 (0 : Int32) a2 hS
      · refine Cv.go (pc' := 22) (go_if_eq_f 30 dX6_richOf_19 rfl h6) ?_
        refine Cv.go (pc' := 23) (go_aload_n (i := 0) (x := 40) dX6_richOf_22 rfl rfl) ?_
        refine Cv.go (pc' := 24) (go_iload_n (i := 3) (x := a3) dX6_richOf_23 rfl rfl) ?_
        refine Cv.bnd fun v7 m8 e9 => ?_
        have C10 := kc_X6_worthOf m3 a3 hS v7 m8 e9
        refine Cv.go (pc' := 27) (st' := [.int v7, .int a2]) (go_callV (As := [.int a3]) (st := [.int a2]) C10 (by decide) ok_X6_worthOf li_X6_worthOf ls_X6_worthOf lm_X6_116 cls6 (sx_k40 hS) rfl rfl (Nat.le_of_ble_eq_true rfl) dX6_richOf_24) ?_
        have zm8 := C10.1.2.2 rfl
        have hS := hS.sh zm8
        refine Cv.go (pc' := 31) (go_goto (tgt := 31) dX6_richOf_27 rfl) ?_
        refine Cv.weak (ls' := [.ref 40, .int a1, .null, .int a3]) (⟨Or.inr rfl, ⟨Or.inr rfl, ⟨Or.inl rfl, ⟨Or.inr rfl, True.intro⟩⟩⟩⟩) ?_
        exact c_X6_richOf_31 (F_X6_richOf_4 n) ih m8 a1 a3 v7 a2 hS
theorem kc_X6_richOf (m : Mem) (a1 : Int32) (hS : ShM m) : ∀ v mE, F_X6_richOf m a1 = some (v, mE) → Con true kX6_richOf 45 [.ref 40, .int a1] m (eI v) mE := by
  refine Con.of (ini := false) (ls0 := [.ref 40, .int a1, .null, .null]) (ri := .ireturn) (by decide) (by intro z; cases z) rfl (Nat.le_of_ble_eq_true rfl) (fun v mE _ => RetTy.i) ?_
  show Cv true (cX6_richOf, 4, RX6, 45, ((false, none) : IK)) .ireturn eI (F_X6_richOf m a1) m 0 [.ref 40, .int a1, .null, .null] []
  unfold F_X6_richOf
  refine Cv.go (pc' := 1) (go_iconst dX6_richOf_0 ic_0) ?_
  refine Cv.go (pc' := 2) (ls' := [.ref 40, .int a1, .int (0 : Int32), .null]) (go_istore_n dX6_richOf_1 rfl (by decide) rfl) ?_
  refine Cv.go (pc' := 3) (go_iconst dX6_richOf_2 ic_0) ?_
  refine Cv.go (pc' := 4) (ls' := [.ref 40, .int a1, .int (0 : Int32), .int (0 : Int32)]) (go_istore_n dX6_richOf_3 rfl (by decide) rfl) ?_
  exact c_X6_richOf_4 FU m a1 (0 : Int32) (0 : Int32) hS
theorem c_X6_purseOf_35 (K4 : Mem → Int32 → Int32 → Int32 → Option (Int32 × Mem)) (hK4 : ∀ (m : Mem) (a1 : Int32) (a2 : Int32) (a3 : Int32) (hS : ShM m), Cv true (cX6_purseOf, 4, RX6, 45, ((false, none) : IK)) .ireturn eI (K4 m a1 a2 a3) m 4 [.ref 40, .int a1, .int a2, .int a3] []) : ∀ (m : Mem) (a1 : Int32) (a3 : Int32) (s0 : Int32) (s1 : Int32) (hS : ShM m), Cv true (cX6_purseOf, 4, RX6, 45, ((false, none) : IK)) .ireturn eI (F_X6_purseOf_35 K4 m a1 a3 s0 s1) m 35 [.ref 40, .int a1, .null, .int a3] [.int s0, .int s1] := by
  intro m a1 a3 s0 s1 hS
  unfold F_X6_purseOf_35
  refine Cv.go (pc' := 36) (go_iload_n (i := 3) (x := a3) dX6_purseOf_35 rfl rfl) ?_
  refine Cv.go (pc' := 37) (go_ishl dX6_purseOf_36) ?_
  refine Cv.go (pc' := 38) (go_ior dX6_purseOf_37) ?_
  refine Cv.namI fun x12 ex12 => ?_
  refine Cv.go (pc' := 39) (ls' := [.ref 40, .int a1, .int x12, .int a3]) (go_istore_n dX6_purseOf_38 rfl (by decide) rfl) ?_
  refine Cv.go (pc' := 42) (ls' := [.ref 40, .int a1, .int x12, .int (a3 + (1 : Int32))]) (go_iinc (x := a3) (v := a3 + (1 : Int32)) dX6_purseOf_39 rfl rfl (by decide) rfl) ?_
  refine Cv.go (pc' := 4) (go_goto (tgt := 4) dX6_purseOf_42 rfl) ?_
  exact hK4 m a1 x12 (a3 + (1 : Int32)) hS
theorem c_X6_purseOf_34 (K4 : Mem → Int32 → Int32 → Int32 → Option (Int32 × Mem)) (hK4 : ∀ (m : Mem) (a1 : Int32) (a2 : Int32) (a3 : Int32) (hS : ShM m), Cv true (cX6_purseOf, 4, RX6, 45, ((false, none) : IK)) .ireturn eI (K4 m a1 a2 a3) m 4 [.ref 40, .int a1, .int a2, .int a3] []) : ∀ (m : Mem) (a1 : Int32) (a3 : Int32) (s0 : Int32) (hS : ShM m), Cv true (cX6_purseOf, 4, RX6, 45, ((false, none) : IK)) .ireturn eI (F_X6_purseOf_34 K4 m a1 a3 s0) m 34 [.ref 40, .int a1, .null, .int a3] [.int s0] := by
  intro m a1 a3 s0 hS
  unfold F_X6_purseOf_34
  refine Cv.go (pc' := 35) (go_iconst dX6_purseOf_34 ic_0) ?_
  exact c_X6_purseOf_35 K4 hK4 m a1 a3 (0 : Int32) s0 hS
theorem c_X6_purseOf_4 : ∀ n, ∀ (m : Mem) (a1 : Int32) (a2 : Int32) (a3 : Int32) (hS : ShM m), Cv true (cX6_purseOf, 4, RX6, 45, ((false, none) : IK)) .ireturn eI (F_X6_purseOf_4 n m a1 a2 a3) m 4 [.ref 40, .int a1, .int a2, .int a3] [] := by
  intro n
  induction n with
  | zero => intro m a1 a2 a3 hS; exact Cv.no
  | succ n ih =>
    intro m a1 a2 a3 hS
    unfold F_X6_purseOf_4
    refine Cv.go (pc' := 5) (go_iload_n (i := 3) (x := a3) dX6_purseOf_4 rfl rfl) ?_
    refine Cv.go (pc' := 6) (go_aload_n (i := 0) (x := 40) dX6_purseOf_5 rfl rfl) ?_
    refine Cv.go (pc' := 9) (go_getI (i := 10) cls6 (sx_k40 hS) (by decide) rfl lf_X6_64 (by decide) dX6_purseOf_6) ?_
    refine Cv.ite (fun h1 => ?_) (fun h1 => ?_)
    · refine Cv.go (pc' := 45) (go_icmp_ge_t (tgt := 45) dX6_purseOf_9 rfl h1) ?_
      refine Cv.go (pc' := 46) (go_iload_n (i := 2) (x := a2) dX6_purseOf_45 rfl rfl) ?_
      exact Cv.ret dX6_purseOf_46 rfl
    · refine Cv.go (pc' := 12) (go_icmp_ge_f 45 dX6_purseOf_9 rfl h1) ?_
      refine Cv.go (pc' := 13) (go_iload_n (i := 2) (x := a2) dX6_purseOf_12 rfl rfl) ?_
      refine Cv.go (pc' := 14) (go_aload_n (i := 0) (x := 40) dX6_purseOf_13 rfl rfl) ?_
      refine Cv.go (pc' := 15) (go_iload_n (i := 3) (x := a3) dX6_purseOf_14 rfl rfl) ?_
      refine Cv.go (pc' := 16) (go_iload_n (i := 1) (x := a1) dX6_purseOf_15 rfl rfl) ?_
      refine Cv.bnd fun v2 m3 e4 => ?_
      have C5 := kc_X6_isOf m a3 a1 hS v2 m3 e4
      refine Cv.go (pc' := 19) (st' := [.int (bz v2), .int a2]) (go_callV (As := [.int a3, .int a1]) (st := [.int a2]) C5 (by decide) ok_X6_isOf li_X6_isOf ls_X6_isOf lm_X6_335 cls6 (sx_k40 hS) rfl rfl (Nat.le_of_ble_eq_true rfl) dX6_purseOf_16) ?_
      have zm3 := C5.1.2.2 rfl
      have hS := hS.sh zm3
      refine Cv.ite (fun h6 => ?_) (fun h6 => ?_)
      · refine Cv.go (pc' := 34) (go_if_eq_t (tgt := 34) dX6_purseOf_19 rfl h6) ?_
        refine Cv.weak (ls' := [.ref 40, .int a1, .null, .int a3]) (⟨Or.inr rfl, ⟨Or.inr rfl, ⟨Or.inl rfl, ⟨Or.inr rfl, True.intro⟩⟩⟩⟩) ?_
        exact c_X6_purseOf_34 (F_X6_purseOf_4 n) ih m3 a1 a3 a2 hS
      · refine Cv.go (pc' := 22) (go_if_eq_f 34 dX6_purseOf_19 rfl h6) ?_
        refine Cv.go (pc' := 23) (go_aload_n (i := 0) (x := 40) dX6_purseOf_22 rfl rfl) ?_
        refine Cv.go (pc' := 24) (go_iload_n (i := 3) (x := a3) dX6_purseOf_23 rfl rfl) ?_
        refine Cv.bnd fun v7 m8 e9 => ?_
        have C10 := kc_X6_isWhole m3 a3 hS v7 m8 e9
        refine Cv.go (pc' := 27) (st' := [.int (bz v7), .int a2]) (go_callV (As := [.int a3]) (st := [.int a2]) C10 (by decide) ok_X6_isWhole li_X6_isWhole ls_X6_isWhole lm_X6_113 cls6 (sx_k40 hS) rfl rfl (Nat.le_of_ble_eq_true rfl) dX6_purseOf_24) ?_
        have zm8 := C10.1.2.2 rfl
        have hS := hS.sh zm8
        refine Cv.ite (fun h11 => ?_) (fun h11 => ?_)
        · refine Cv.go (pc' := 34) (go_if_eq_t (tgt := 34) dX6_purseOf_27 rfl h11) ?_
          refine Cv.weak (ls' := [.ref 40, .int a1, .null, .int a3]) (⟨Or.inr rfl, ⟨Or.inr rfl, ⟨Or.inl rfl, ⟨Or.inr rfl, True.intro⟩⟩⟩⟩) ?_
          exact c_X6_purseOf_34 (F_X6_purseOf_4 n) ih m8 a1 a3 a2 hS
        · refine Cv.go (pc' := 30) (go_if_eq_f 34 dX6_purseOf_27 rfl h11) ?_
          refine Cv.go (pc' := 31) (go_iconst dX6_purseOf_30 ic_1) ?_
          refine Cv.go (pc' := 35) (go_goto (tgt := 35) dX6_purseOf_31 rfl) ?_
          refine Cv.weak (ls' := [.ref 40, .int a1, .null, .int a3]) (⟨Or.inr rfl, ⟨Or.inr rfl, ⟨Or.inl rfl, ⟨Or.inr rfl, True.intro⟩⟩⟩⟩) ?_
          exact c_X6_purseOf_35 (F_X6_purseOf_4 n) ih m8 a1 a3 (1 : Int32) a2 hS
theorem kc_X6_purseOf (m : Mem) (a1 : Int32) (hS : ShM m) : ∀ v mE, F_X6_purseOf m a1 = some (v, mE) → Con true kX6_purseOf 45 [.ref 40, .int a1] m (eI v) mE := by
  refine Con.of (ini := false) (ls0 := [.ref 40, .int a1, .null, .null]) (ri := .ireturn) (by decide) (by intro z; cases z) rfl (Nat.le_of_ble_eq_true rfl) (fun v mE _ => RetTy.i) ?_
  show Cv true (cX6_purseOf, 4, RX6, 45, ((false, none) : IK)) .ireturn eI (F_X6_purseOf m a1) m 0 [.ref 40, .int a1, .null, .null] []
  unfold F_X6_purseOf
  refine Cv.go (pc' := 1) (go_iconst dX6_purseOf_0 ic_0) ?_
  refine Cv.go (pc' := 2) (ls' := [.ref 40, .int a1, .int (0 : Int32), .null]) (go_istore_n dX6_purseOf_1 rfl (by decide) rfl) ?_
  refine Cv.go (pc' := 3) (go_iconst dX6_purseOf_2 ic_0) ?_
  refine Cv.go (pc' := 4) (ls' := [.ref 40, .int a1, .int (0 : Int32), .int (0 : Int32)]) (go_istore_n dX6_purseOf_3 rfl (by decide) rfl) ?_
  exact c_X6_purseOf_4 FU m a1 (0 : Int32) (0 : Int32) hS
