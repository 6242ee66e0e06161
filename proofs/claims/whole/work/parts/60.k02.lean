theorem c_X4_givesOf_40 : ∀ (m : Mem) (a1 : Nat) (a4 : Int32) (s0 : Int32) (ha1 : mK m a1 = (0, 0)), Cv true (cX4_givesOf, 6, RX4, 2, ((false, none) : IK)) .ireturn eI (F_X4_givesOf_40 m a1 a4 s0) m 40 [.null, .ref a1, .null, .null, .int a4, .null] [.int s0] := by
  intro m a1 a4 s0 ha1
  unfold F_X4_givesOf_40
  refine Cv.go (pc' := 42) (ls' := [.null, .ref a1, .null, .null, .int a4, .int s0]) (go_istore dX4_givesOf_40 (by decide) rfl) ?_
  refine Cv.go (pc' := 43) (go_aload_n (i := 1) (x := a1) dX4_givesOf_42 rfl rfl) ?_
  refine Cv.go (pc' := 46) (go_getI (i := 0) cls0 ha1 (by decide) rfl lf_X4_43 (by decide) dX4_givesOf_43) ?_
  refine Cv.namI fun x11 ex11 => ?_
  refine Cv.ite (fun h12 => ?_) (fun h12 => ?_)
  · refine Cv.go (pc' := 76) (go_tsIn (off := 30) (tgt := 76) dX4_givesOf_46 (by rw [h12]; decide) (by rw [h12]; decide) (by rw [h12]; rfl) rfl) ?_
    refine Cv.go (pc' := 78) (go_iload (i := 5) (x := s0) dX4_givesOf_76 rfl) ?_
    refine Cv.go (pc' := 81) (go_sipush dX4_givesOf_78 is_n999) ?_
    refine Cv.go (pc' := 84) (go_sipush dX4_givesOf_81 is_999) ?_
    refine Cv.bnd fun v13 m14 e15 => ?_
    have C16 := kc_X4_bounded m s0 (-999 : Int32) (999 : Int32) v13 m14 e15
    refine Cv.go (pc' := 87) (st' := [.int v13]) (go_callS (As := [.int s0, .int (-999 : Int32), .int (999 : Int32)]) (st := []) C16 (by decide) ok_X4_bounded lt_X4_bounded lm_X4_50 rfl rfl (Nat.le_of_ble_eq_true rfl) dX4_givesOf_84) ?_
    have zm14 := C16.1.2.2 rfl
    have ha1 := sk zm14 ha1
    exact Cv.ret dX4_givesOf_87 rfl
  · refine Cv.ite (fun h17 => ?_) (fun h17 => ?_)
    · refine Cv.go (pc' := 88) (go_tsIn (off := 42) (tgt := 88) dX4_givesOf_46 (by rw [h17]; decide) (by rw [h17]; decide) (by rw [h17]; rfl) rfl) ?_
      refine Cv.go (pc' := 90) (go_iload (i := 4) (x := a4) dX4_givesOf_88 rfl) ?_
      refine Cv.go (pc' := 91) (go_iconst dX4_givesOf_90 ic_3) ?_
      refine Cv.go (pc' := 92) (go_iadd dX4_givesOf_91) ?_
      refine Cv.go (pc' := 95) (go_sipush dX4_givesOf_92 is_n999) ?_
      refine Cv.go (pc' := 98) (go_sipush dX4_givesOf_95 is_999) ?_
      refine Cv.bnd fun v18 m19 e20 => ?_
      have C21 := kc_X4_bounded m (a4 + (3 : Int32)) (-999 : Int32) (999 : Int32) v18 m19 e20
      refine Cv.go (pc' := 101) (st' := [.int v18]) (go_callS (As := [.int (a4 + (3 : Int32)), .int (-999 : Int32), .int (999 : Int32)]) (st := []) C21 (by decide) ok_X4_bounded lt_X4_bounded lm_X4_50 rfl rfl (Nat.le_of_ble_eq_true rfl) dX4_givesOf_98) ?_
      have zm19 := C21.1.2.2 rfl
      have ha1 := sk zm19 ha1
      exact Cv.ret dX4_givesOf_101 rfl
    · refine Cv.ite (fun h22 => ?_) (fun h22 => ?_)
      · refine Cv.go (pc' := 102) (go_tsIn (off := 56) (tgt := 102) dX4_givesOf_46 (by rw [h22]; decide) (by rw [h22]; decide) (by rw [h22]; rfl) rfl) ?_
        refine Cv.go (pc' := 104) (go_iload (i := 5) (x := s0) dX4_givesOf_102 rfl) ?_
        refine Cv.go (pc' := 105) (go_aload_n (i := 1) (x := a1) dX4_givesOf_104 rfl rfl) ?_
        refine Cv.go (pc' := 108) (go_getI (i := 1) cls0 ha1 (by decide) rfl lf_X4_54 (by decide) dX4_givesOf_105) ?_
        refine Cv.go (pc' := 109) (go_aload_n (i := 1) (x := a1) dX4_givesOf_108 rfl rfl) ?_
        refine Cv.go (pc' := 112) (go_getI (i := 3) cls0 ha1 (by decide) rfl lf_X4_60 (by decide) dX4_givesOf_109) ?_
        refine Cv.go (pc' := 113) (go_imul dX4_givesOf_112) ?_
        refine Cv.go (pc' := 114) (go_iadd dX4_givesOf_113) ?_
        refine Cv.go (pc' := 117) (go_sipush dX4_givesOf_114 is_n999) ?_
        refine Cv.go (pc' := 120) (go_sipush dX4_givesOf_117 is_999) ?_
        refine Cv.bnd fun v23 m24 e25 => ?_
        have C26 := kc_X4_bounded m (s0 + ((mD m a1 1) * (mD m a1 3))) (-999 : Int32) (999 : Int32) v23 m24 e25
        refine Cv.go (pc' := 123) (st' := [.int v23]) (go_callS (As := [.int (s0 + ((mD m a1 1) * (mD m a1 3))), .int (-999 : Int32), .int (999 : Int32)]) (st := []) C26 (by decide) ok_X4_bounded lt_X4_bounded lm_X4_50 rfl rfl (Nat.le_of_ble_eq_true rfl) dX4_givesOf_120) ?_
        have zm24 := C26.1.2.2 rfl
        have ha1 := sk zm24 ha1
        exact Cv.ret dX4_givesOf_123 rfl
      · refine Cv.ite (fun h27 => ?_) (fun h27 => ?_)
        · refine Cv.go (pc' := 124) (go_tsIn (off := 78) (tgt := 124) dX4_givesOf_46 (by rw [h27]; decide) (by rw [h27]; decide) (by rw [h27]; rfl) rfl) ?_
          refine Cv.go (pc' := 126) (go_iload (i := 4) (x := a4) dX4_givesOf_124 rfl) ?_
          refine Cv.go (pc' := 127) (go_iconst dX4_givesOf_126 ic_3) ?_
          refine Cv.go (pc' := 128) (go_iadd dX4_givesOf_127) ?_
          refine Cv.go (pc' := 129) (go_ineg dX4_givesOf_128) ?_
          refine Cv.go (pc' := 132) (go_sipush dX4_givesOf_129 is_n999) ?_
          refine Cv.go (pc' := 135) (go_sipush dX4_givesOf_132 is_999) ?_
          refine Cv.bnd fun v28 m29 e30 => ?_
          have C31 := kc_X4_bounded m (-(a4 + (3 : Int32))) (-999 : Int32) (999 : Int32) v28 m29 e30
          refine Cv.go (pc' := 138) (st' := [.int v28]) (go_callS (As := [.int (-(a4 + (3 : Int32))), .int (-999 : Int32), .int (999 : Int32)]) (st := []) C31 (by decide) ok_X4_bounded lt_X4_bounded lm_X4_50 rfl rfl (Nat.le_of_ble_eq_true rfl) dX4_givesOf_135) ?_
          have zm29 := C31.1.2.2 rfl
          have ha1 := sk zm29 ha1
          exact Cv.ret dX4_givesOf_138 rfl
        · refine Cv.go (pc' := 139) (go_tsOut (tgt := 139) dX4_givesOf_46 (by have n0 : (x11).toInt ≠ 1 := fun z => h12 (Int32.toInt_inj.mp (z.trans (by decide))); have n1 : (x11).toInt ≠ 2 := fun z => h17 (Int32.toInt_inj.mp (z.trans (by decide))); have n2 : (x11).toInt ≠ 3 := fun z => h22 (Int32.toInt_inj.mp (z.trans (by decide))); have n3 : (x11).toInt ≠ 4 := fun z => h27 (Int32.toInt_inj.mp (z.trans (by decide))); omega) rfl) ?_
          refine Cv.go (pc' := 141) (go_iload (i := 4) (x := a4) dX4_givesOf_139 rfl) ?_
          refine Cv.go (pc' := 144) (go_sipush dX4_givesOf_141 is_n999) ?_
          refine Cv.go (pc' := 147) (go_sipush dX4_givesOf_144 is_999) ?_
          refine Cv.bnd fun v32 m33 e34 => ?_
          have C35 := kc_X4_bounded m a4 (-999 : Int32) (999 : Int32) v32 m33 e34
          refine Cv.go (pc' := 150) (st' := [.int v32]) (go_callS (As := [.int a4, .int (-999 : Int32), .int (999 : Int32)]) (st := []) C35 (by decide) ok_X4_bounded lt_X4_bounded lm_X4_50 rfl rfl (Nat.le_of_ble_eq_true rfl) dX4_givesOf_147) ?_
          have zm33 := C35.1.2.2 rfl
          have ha1 := sk zm33 ha1
          exact Cv.ret dX4_givesOf_150 rfl
theorem kc_X4_givesOf (m : Mem) (c0 : Nat) (c1 : Nat) (a2 : Int32) (a3 : Int32) (hp0 : isT m c0) (hp1 : mK m c1 = (0, 0)) : ∀ v mE, F_X4_givesOf m c0 c1 a2 a3 = some (v, mE) → Con true kX4_givesOf 2 [.ref c0, .ref c1, .int a2, .int a3] m (eI v) mE := by
  refine Con.of (ini := false) (ls0 := [.ref c0, .ref c1, .int a2, .int a3, .null, .null]) (ri := .ireturn) (by decide) (by intro z; cases z) rfl (Nat.le_of_ble_eq_true rfl) (fun v mE _ => RetTy.i) ?_
  show Cv true (cX4_givesOf, 6, RX4, 2, ((false, none) : IK)) .ireturn eI (F_X4_givesOf m c0 c1 a2 a3) m 0 [.ref c0, .ref c1, .int a2, .int a3, .null, .null] []
  unfold F_X4_givesOf
  refine Cv.go (pc' := 1) (go_aload_n (i := 1) (x := c1) dX4_givesOf_0 rfl rfl) ?_
  refine Cv.go (pc' := 4) (go_getI (i := 0) cls0 hp1 (by decide) rfl lf_X4_43 (by decide) dX4_givesOf_1) ?_
  refine Cv.go (pc' := 5) (go_iconst dX4_givesOf_4 ic_5) ?_
  refine Cv.ite (fun h1 => ?_) (fun h1 => ?_)
  · refine Cv.go (pc' := 8) (go_icmp_ne_f 10 dX4_givesOf_5 rfl h1) ?_
    refine Cv.go (pc' := 9) (go_iconst dX4_givesOf_8 ic_0) ?_
    exact Cv.ret dX4_givesOf_9 rfl
  · refine Cv.go (pc' := 10) (go_icmp_ne_t (tgt := 10) dX4_givesOf_5 rfl h1) ?_
    refine Cv.go (pc' := 11) (go_aload_n (i := 0) (x := c0) dX4_givesOf_10 rfl rfl) ?_
    refine Cv.go (pc' := 12) (go_iconst dX4_givesOf_11 ic_1) ?_
    refine Cv.go (pc' := 13) (go_aload_n (i := 1) (x := c1) dX4_givesOf_12 rfl rfl) ?_
    refine Cv.go (pc' := 14) (go_iload_n (i := 2) (x := a2) dX4_givesOf_13 rfl rfl) ?_
    refine Cv.go (pc' := 15) (go_iload_n (i := 3) (x := a3) dX4_givesOf_14 rfl rfl) ?_
    refine Cv.bnd fun v2 m3 e4 => ?_
    have C5 := kc_X4_worked m c0 (1 : Int32) c1 a2 a3 hp0 hp1 v2 m3 e4
    refine Cv.go (pc' := 18) (st' := [.int v2]) (go_callV (As := [.int (1 : Int32), .ref c1, .int a2, .int a3]) (st := []) C5 (by decide) ok_X4_worked li_X4_worked ls_X4_worked lm_X4_46 cls4 hp0.1 rfl rfl (Nat.le_of_ble_eq_true rfl) dX4_givesOf_15) ?_
    have zm3 := C5.1.2.2 rfl
    have hp0 := hp0.sh zm3
    have hp1 := sk zm3 hp1
    refine Cv.go (pc' := 20) (go_bipush dX4_givesOf_18 ib_n99) ?_
    refine Cv.go (pc' := 22) (go_bipush dX4_givesOf_20 ib_99) ?_
    refine Cv.bnd fun v6 m7 e8 => ?_
    have C9 := kc_X4_bounded m3 v2 (-99 : Int32) (99 : Int32) v6 m7 e8
    refine Cv.go (pc' := 25) (st' := [.int v6]) (go_callS (As := [.int v2, .int (-99 : Int32), .int (99 : Int32)]) (st := []) C9 (by decide) ok_X4_bounded lt_X4_bounded lm_X4_50 rfl rfl (Nat.le_of_ble_eq_true rfl) dX4_givesOf_22) ?_
    have zm7 := C9.1.2.2 rfl
    have hp0 := hp0.sh zm7
    have hp1 := sk zm7 hp1
    refine Cv.go (pc' := 27) (ls' := [.ref c0, .ref c1, .int a2, .int a3, .int v6, .null]) (go_istore dX4_givesOf_25 (by decide) rfl) ?_
    refine Cv.go (pc' := 28) (go_aload_n (i := 1) (x := c1) dX4_givesOf_27 rfl rfl) ?_
    refine Cv.go (pc' := 31) (go_getI (i := 3) cls0 hp1 (by decide) rfl lf_X4_60 (by decide) dX4_givesOf_28) ?_
    refine Cv.ite (fun h10 => ?_) (fun h10 => ?_)
    · refine Cv.go (pc' := 34) (go_if_ne_f 38 dX4_givesOf_31 rfl h10) ?_
      refine Cv.go (pc' := 35) (go_iconst dX4_givesOf_34 ic_0) ?_
      refine Cv.go (pc' := 40) (go_goto (tgt := 40) dX4_givesOf_35 rfl) ?_
      refine Cv.weak (ls' := [.null, .ref c1, .null, .null, .int v6, .null]) (⟨Or.inl rfl, ⟨Or.inr rfl, ⟨Or.inl rfl, ⟨Or.inl rfl, ⟨Or.inr rfl, ⟨Or.inr rfl, True.intro⟩⟩⟩⟩⟩⟩) ?_
      exact c_X4_givesOf_40 m7 c1 v6 (0 : Int32) hp1
    · refine Cv.go (pc' := 38) (go_if_ne_t (tgt := 38) dX4_givesOf_31 rfl h10) ?_
      refine Cv.go (pc' := 40) (go_iload (i := 4) (x := v6) dX4_givesOf_38 rfl) ?_
      refine Cv.weak (ls' := [.null, .ref c1, .null, .null, .int v6, .null]) (⟨Or.inl rfl, ⟨Or.inr rfl, ⟨Or.inl rfl, ⟨Or.inl rfl, ⟨Or.inr rfl, ⟨Or.inr rfl, True.intro⟩⟩⟩⟩⟩⟩) ?_
      exact c_X4_givesOf_40 m7 c1 v6 v6 hp1
theorem c_X4_goesOffOf_76 : ∀ (m : Mem) (a4 : Int32), Cv true (cX4_goesOffOf, 5, RX4, 2, ((false, none) : IK)) .ireturn eI (F_X4_goesOffOf_76 m a4) m 76 [.null, .null, .null, .null, .int a4] [] := by
  intro m a4
  unfold F_X4_goesOffOf_76
  refine Cv.go (pc' := 77) (go_iconst dX4_goesOffOf_76 ic_2) ?_
  refine Cv.go (pc' := 79) (go_iload (i := 4) (x := a4) dX4_goesOffOf_77 rfl) ?_
  refine Cv.go (pc' := 80) (go_imul dX4_goesOffOf_79) ?_
  refine Cv.go (pc' := 81) (go_iconst dX4_goesOffOf_80 ic_0) ?_
  refine Cv.go (pc' := 83) (go_bipush dX4_goesOffOf_81 ib_99) ?_
  refine Cv.bnd fun v15 m16 e17 => ?_
  have C18 := kc_X4_bounded m ((2 : Int32) * a4) (0 : Int32) (99 : Int32) v15 m16 e17
  refine Cv.go (pc' := 86) (st' := [.int v15]) (go_callS (As := [.int ((2 : Int32) * a4), .int (0 : Int32), .int (99 : Int32)]) (st := []) C18 (by decide) ok_X4_bounded lt_X4_bounded lm_X4_50 rfl rfl (Nat.le_of_ble_eq_true rfl) dX4_goesOffOf_83) ?_
  exact Cv.ret dX4_goesOffOf_86 rfl
theorem c_X4_goesOffOf_60 : ∀ (m : Mem) (a1 : Nat) (a4 : Int32) (ha1 : mK m a1 = (0, 0)), Cv true (cX4_goesOffOf, 5, RX4, 2, ((false, none) : IK)) .ireturn eI (F_X4_goesOffOf_60 m a1 a4) m 60 [.null, .ref a1, .null, .null, .int a4] [] := by
  intro m a1 a4 ha1
  unfold F_X4_goesOffOf_60
  refine Cv.go (pc' := 61) (go_aload_n (i := 1) (x := a1) dX4_goesOffOf_60 rfl rfl) ?_
  refine Cv.go (pc' := 64) (go_getI (i := 3) cls0 ha1 (by decide) rfl lf_X4_60 (by decide) dX4_goesOffOf_61) ?_
  refine Cv.go (pc' := 66) (go_bipush dX4_goesOffOf_64 ib_6) ?_
  refine Cv.ite (fun h19 => ?_) (fun h19 => ?_)
  · refine Cv.go (pc' := 73) (go_icmp_le_t (tgt := 73) dX4_goesOffOf_66 rfl h19) ?_
    refine Cv.go (pc' := 75) (go_iload (i := 4) (x := a4) dX4_goesOffOf_73 rfl) ?_
    exact Cv.ret dX4_goesOffOf_75 rfl
  · refine Cv.go (pc' := 69) (go_icmp_le_f 73 dX4_goesOffOf_66 rfl h19) ?_
    refine Cv.go (pc' := 70) (go_iconst dX4_goesOffOf_69 ic_0) ?_
    refine Cv.go (pc' := 75) (go_goto (tgt := 75) dX4_goesOffOf_70 rfl) ?_
    exact Cv.ret dX4_goesOffOf_75 rfl
theorem kc_X4_goesOffOf (m : Mem) (c0 : Nat) (c1 : Nat) (a2 : Int32) (a3 : Int32) (hp0 : isT m c0) (hp1 : mK m c1 = (0, 0)) : ∀ v mE, F_X4_goesOffOf m c0 c1 a2 a3 = some (v, mE) → Con true kX4_goesOffOf 2 [.ref c0, .ref c1, .int a2, .int a3] m (eI v) mE := by
  refine Con.of (ini := false) (ls0 := [.ref c0, .ref c1, .int a2, .int a3, .null]) (ri := .ireturn) (by decide) (by intro z; cases z) rfl (Nat.le_of_ble_eq_true rfl) (fun v mE _ => RetTy.i) ?_
  show Cv true (cX4_goesOffOf, 5, RX4, 2, ((false, none) : IK)) .ireturn eI (F_X4_goesOffOf m c0 c1 a2 a3) m 0 [.ref c0, .ref c1, .int a2, .int a3, .null] []
  unfold F_X4_goesOffOf
  refine Cv.go (pc' := 1) (go_aload_n (i := 1) (x := c1) dX4_goesOffOf_0 rfl rfl) ?_
  refine Cv.go (pc' := 4) (go_getI (i := 0) cls0 hp1 (by decide) rfl lf_X4_43 (by decide) dX4_goesOffOf_1) ?_
  refine Cv.go (pc' := 5) (go_iconst dX4_goesOffOf_4 ic_5) ?_
  refine Cv.ite (fun h1 => ?_) (fun h1 => ?_)
  · refine Cv.go (pc' := 8) (go_icmp_ne_f 10 dX4_goesOffOf_5 rfl h1) ?_
    refine Cv.go (pc' := 9) (go_iconst dX4_goesOffOf_8 ic_0) ?_
    exact Cv.ret dX4_goesOffOf_9 rfl
  · refine Cv.go (pc' := 10) (go_icmp_ne_t (tgt := 10) dX4_goesOffOf_5 rfl h1) ?_
    refine Cv.go (pc' := 11) (go_aload_n (i := 0) (x := c0) dX4_goesOffOf_10 rfl rfl) ?_
    refine Cv.go (pc' := 12) (go_iconst dX4_goesOffOf_11 ic_2) ?_
    refine Cv.go (pc' := 13) (go_aload_n (i := 1) (x := c1) dX4_goesOffOf_12 rfl rfl) ?_
    refine Cv.go (pc' := 14) (go_iload_n (i := 2) (x := a2) dX4_goesOffOf_13 rfl rfl) ?_
    refine Cv.go (pc' := 15) (go_iload_n (i := 3) (x := a3) dX4_goesOffOf_14 rfl rfl) ?_
    refine Cv.bnd fun v2 m3 e4 => ?_
    have C5 := kc_X4_worked m c0 (2 : Int32) c1 a2 a3 hp0 hp1 v2 m3 e4
    refine Cv.go (pc' := 18) (st' := [.int v2]) (go_callV (As := [.int (2 : Int32), .ref c1, .int a2, .int a3]) (st := []) C5 (by decide) ok_X4_worked li_X4_worked ls_X4_worked lm_X4_46 cls4 hp0.1 rfl rfl (Nat.le_of_ble_eq_true rfl) dX4_goesOffOf_15) ?_
    have zm3 := C5.1.2.2 rfl
    have hp0 := hp0.sh zm3
    have hp1 := sk zm3 hp1
    refine Cv.go (pc' := 19) (go_iconst dX4_goesOffOf_18 ic_0) ?_
    refine Cv.go (pc' := 21) (go_bipush dX4_goesOffOf_19 ib_99) ?_
    refine Cv.bnd fun v6 m7 e8 => ?_
    have C9 := kc_X4_bounded m3 v2 (0 : Int32) (99 : Int32) v6 m7 e8
    refine Cv.go (pc' := 24) (st' := [.int v6]) (go_callS (As := [.int v2, .int (0 : Int32), .int (99 : Int32)]) (st := []) C9 (by decide) ok_X4_bounded lt_X4_bounded lm_X4_50 rfl rfl (Nat.le_of_ble_eq_true rfl) dX4_goesOffOf_21) ?_
    have zm7 := C9.1.2.2 rfl
    have hp0 := hp0.sh zm7
    have hp1 := sk zm7 hp1
    refine Cv.go (pc' := 26) (ls' := [.ref c0, .ref c1, .int a2, .int a3, .int v6]) (go_istore dX4_goesOffOf_24 (by decide) rfl) ?_
    refine Cv.go (pc' := 27) (go_aload_n (i := 1) (x := c1) dX4_goesOffOf_26 rfl rfl) ?_
    refine Cv.go (pc' := 30) (go_getI (i := 0) cls0 hp1 (by decide) rfl lf_X4_43 (by decide) dX4_goesOffOf_27) ?_
    refine Cv.namI fun x10 ex10 => ?_
    refine Cv.ite (fun h11 => ?_) (fun h11 => ?_)
    · refine Cv.go (pc' := 60) (go_tsIn (off := 30) (tgt := 60) dX4_goesOffOf_30 (by rw [h11]; decide) (by rw [h11]; decide) (by rw [h11]; rfl) rfl) ?_
      refine Cv.weak (ls' := [.null, .ref c1, .null, .null, .int v6]) (⟨Or.inl rfl, ⟨Or.inr rfl, ⟨Or.inl rfl, ⟨Or.inl rfl, ⟨Or.inr rfl, True.intro⟩⟩⟩⟩⟩) ?_
      exact c_X4_goesOffOf_60 m7 c1 v6 hp1
    · refine Cv.ite (fun h12 => ?_) (fun h12 => ?_)
      · refine Cv.go (pc' := 76) (go_tsIn (off := 46) (tgt := 76) dX4_goesOffOf_30 (by rw [h12]; decide) (by rw [h12]; decide) (by rw [h12]; rfl) rfl) ?_
        refine Cv.weak (ls' := [.null, .null, .null, .null, .int v6]) (⟨Or.inl rfl, ⟨Or.inl rfl, ⟨Or.inl rfl, ⟨Or.inl rfl, ⟨Or.inr rfl, True.intro⟩⟩⟩⟩⟩) ?_
        exact c_X4_goesOffOf_76 m7 v6
      · refine Cv.ite (fun h13 => ?_) (fun h13 => ?_)
        · refine Cv.go (pc' := 60) (go_tsIn (off := 30) (tgt := 60) dX4_goesOffOf_30 (by rw [h13]; decide) (by rw [h13]; decide) (by rw [h13]; rfl) rfl) ?_
          refine Cv.weak (ls' := [.null, .ref c1, .null, .null, .int v6]) (⟨Or.inl rfl, ⟨Or.inr rfl, ⟨Or.inl rfl, ⟨Or.inl rfl, ⟨Or.inr rfl, True.intro⟩⟩⟩⟩⟩) ?_
          exact c_X4_goesOffOf_60 m7 c1 v6 hp1
        · refine Cv.ite (fun h14 => ?_) (fun h14 => ?_)
          · refine Cv.go (pc' := 76) (go_tsIn (off := 46) (tgt := 76) dX4_goesOffOf_30 (by rw [h14]; decide) (by rw [h14]; decide) (by rw [h14]; rfl) rfl) ?_
            refine Cv.weak (ls' := [.null, .null, .null, .null, .int v6]) (⟨Or.inl rfl, ⟨Or.inl rfl, ⟨Or.inl rfl, ⟨Or.inl rfl, ⟨Or.inr rfl, True.intro⟩⟩⟩⟩⟩) ?_
            exact c_X4_goesOffOf_76 m7 v6
          · refine Cv.go (pc' := 87) (go_tsOut (tgt := 87) dX4_goesOffOf_30 (by have n0 : (x10).toInt ≠ 1 := fun z => h11 (Int32.toInt_inj.mp (z.trans (by decide))); have n1 : (x10).toInt ≠ 2 := fun z => h12 (Int32.toInt_inj.mp (z.trans (by decide))); have n2 : (x10).toInt ≠ 3 := fun z => h13 (Int32.toInt_inj.mp (z.trans (by decide))); have n3 : (x10).toInt ≠ 4 := fun z => h14 (Int32.toInt_inj.mp (z.trans (by decide))); omega) rfl) ?_
            refine Cv.go (pc' := 89) (go_iload (i := 4) (x := v6) dX4_goesOffOf_87 rfl) ?_
            exact Cv.ret dX4_goesOffOf_89 rfl
theorem kc_X4_worthOf (m : Mem) (c0 : Nat) (c1 : Nat) (a2 : Int32) (a3 : Int32) (hp0 : isT m c0) (hp1 : mK m c1 = (0, 0)) : ∀ v mE, F_X4_worthOf m c0 c1 a2 a3 = some (v, mE) → Con true kX4_worthOf 3 [.ref c0, .ref c1, .int a2, .int a3] m (eI v) mE := by
  refine Con.of (ini := false) (ls0 := [.ref c0, .ref c1, .int a2, .int a3, .null, .null]) (ri := .ireturn) (by decide) (by intro z; cases z) rfl (Nat.le_of_ble_eq_true rfl) (fun v mE _ => RetTy.i) ?_
  show Cv true (cX4_worthOf, 6, RX4, 3, ((false, none) : IK)) .ireturn eI (F_X4_worthOf m c0 c1 a2 a3) m 0 [.ref c0, .ref c1, .int a2, .int a3, .null, .null] []
  unfold F_X4_worthOf
  refine Cv.go (pc' := 1) (go_aload_n (i := 0) (x := c0) dX4_worthOf_0 rfl rfl) ?_
  refine Cv.go (pc' := 2) (go_aload_n (i := 1) (x := c1) dX4_worthOf_1 rfl rfl) ?_
  refine Cv.go (pc' := 3) (go_iload_n (i := 2) (x := a2) dX4_worthOf_2 rfl rfl) ?_
  refine Cv.go (pc' := 4) (go_iload_n (i := 3) (x := a3) dX4_worthOf_3 rfl rfl) ?_
  refine Cv.bnd fun v1 m2 e3 => ?_
  have C4 := kc_X4_turnsOf m c0 c1 a2 a3 hp0 hp1 v1 m2 e3
  refine Cv.go (pc' := 7) (st' := [.int v1]) (go_callV (As := [.ref c1, .int a2, .int a3]) (st := []) C4 (by decide) ok_X4_turnsOf li_X4_turnsOf ls_X4_turnsOf lm_X4_21 cls4 hp0.1 rfl rfl (Nat.le_of_ble_eq_true rfl) dX4_worthOf_4) ?_
  have zm2 := C4.1.2.2 rfl
  have hp0 := hp0.sh zm2
  have hp1 := sk zm2 hp1
  refine Cv.go (pc' := 9) (ls' := [.ref c0, .ref c1, .int a2, .int a3, .int v1, .null]) (go_istore dX4_worthOf_7 (by decide) rfl) ?_
  refine Cv.go (pc' := 10) (go_iload_n (i := 2) (x := a2) dX4_worthOf_9 rfl rfl) ?_
  refine Cv.go (pc' := 12) (go_iload (i := 4) (x := v1) dX4_worthOf_10 rfl) ?_
  refine Cv.ite (fun h5 => ?_) (fun h5 => ?_)
  · refine Cv.go (pc' := 20) (go_icmp_ge_t (tgt := 20) dX4_worthOf_12 rfl h5) ?_
    refine Cv.go (pc' := 21) (go_aload_n (i := 0) (x := c0) dX4_worthOf_20 rfl rfl) ?_
    refine Cv.go (pc' := 22) (go_aload_n (i := 1) (x := c1) dX4_worthOf_21 rfl rfl) ?_
    refine Cv.go (pc' := 23) (go_iload_n (i := 2) (x := a2) dX4_worthOf_22 rfl rfl) ?_
    refine Cv.go (pc' := 24) (go_iload_n (i := 3) (x := a3) dX4_worthOf_23 rfl rfl) ?_
    refine Cv.bnd fun v6 m7 e8 => ?_
    have C9 := kc_X4_givesOf m2 c0 c1 a2 a3 hp0 hp1 v6 m7 e8
    refine Cv.go (pc' := 27) (st' := [.int v6]) (go_callV (As := [.ref c1, .int a2, .int a3]) (st := []) C9 (by decide) ok_X4_givesOf li_X4_givesOf ls_X4_givesOf lm_X4_31 cls4 hp0.1 rfl rfl (Nat.le_of_ble_eq_true rfl) dX4_worthOf_24) ?_
    have zm7 := C9.1.2.2 rfl
    have hp0 := hp0.sh zm7
    have hp1 := sk zm7 hp1
    refine Cv.go (pc' := 29) (ls' := [.ref c0, .ref c1, .int a2, .int a3, .int v1, .int v6]) (go_istore dX4_worthOf_27 (by decide) rfl) ?_
    refine Cv.go (pc' := 31) (go_iload (i := 5) (x := v6) dX4_worthOf_29 rfl) ?_
    refine Cv.ite (fun h10 => ?_) (fun h10 => ?_)
    · refine Cv.go (pc' := 37) (go_if_ge_t (tgt := 37) dX4_worthOf_31 rfl h10) ?_
      refine Cv.go (pc' := 38) (go_iconst dX4_worthOf_37 ic_0) ?_
      refine Cv.go (pc' := 40) (go_iload (i := 5) (x := v6) dX4_worthOf_38 rfl) ?_
      refine Cv.go (pc' := 41) (go_aload_n (i := 0) (x := c0) dX4_worthOf_40 rfl rfl) ?_
      refine Cv.go (pc' := 42) (go_aload_n (i := 1) (x := c1) dX4_worthOf_41 rfl rfl) ?_
      refine Cv.go (pc' := 43) (go_iload_n (i := 2) (x := a2) dX4_worthOf_42 rfl rfl) ?_
      refine Cv.go (pc' := 44) (go_iload_n (i := 3) (x := a3) dX4_worthOf_43 rfl rfl) ?_
      refine Cv.bnd fun v11 m12 e13 => ?_
      have C14 := kc_X4_goesOffOf m7 c0 c1 a2 a3 hp0 hp1 v11 m12 e13
      refine Cv.go (pc' := 47) (st' := [.int v11, .int v6, .int (0 : Int32)]) (go_callV (As := [.ref c1, .int a2, .int a3]) (st := [.int v6, .int (0 : Int32)]) C14 (by decide) ok_X4_goesOffOf li_X4_goesOffOf ls_X4_goesOffOf lm_X4_34 cls4 hp0.1 rfl rfl (Nat.le_of_ble_eq_true rfl) dX4_worthOf_44) ?_
      have zm12 := C14.1.2.2 rfl
      have hp0 := hp0.sh zm12
      have hp1 := sk zm12 hp1
      refine Cv.go (pc' := 48) (go_iload_n (i := 2) (x := a2) dX4_worthOf_47 rfl rfl) ?_
      refine Cv.go (pc' := 50) (go_iload (i := 4) (x := v1) dX4_worthOf_48 rfl) ?_
      refine Cv.go (pc' := 51) (go_isub dX4_worthOf_50) ?_
      refine Cv.go (pc' := 52) (go_imul dX4_worthOf_51) ?_
      refine Cv.go (pc' := 53) (go_isub dX4_worthOf_52) ?_
      refine Cv.go (pc' := 56) (go_max lm_X4_37 lt_max ln_Math lo_max (by decide) (Nat.le_of_ble_eq_true rfl) dX4_worthOf_53) ?_
      exact Cv.ret dX4_worthOf_56 rfl
    · refine Cv.go (pc' := 34) (go_if_ge_f 37 dX4_worthOf_31 rfl h10) ?_
      refine Cv.go (pc' := 36) (go_iload (i := 5) (x := v6) dX4_worthOf_34 rfl) ?_
      exact Cv.ret dX4_worthOf_36 rfl
  · refine Cv.go (pc' := 15) (go_icmp_ge_f 20 dX4_worthOf_12 rfl h5) ?_
    refine Cv.go (pc' := 16) (go_aload_n (i := 1) (x := c1) dX4_worthOf_15 rfl rfl) ?_
    refine Cv.go (pc' := 19) (go_getI (i := 2) cls0 hp1 (by decide) rfl lf_X4_25 (by decide) dX4_worthOf_16) ?_
    exact Cv.ret dX4_worthOf_19 rfl
theorem c_X5_keepText_38 : ∀ (m : Mem) (a0 : Nat), Cv false (cX5_keepText, 1, RX5, 3, ((false, none) : IK)) .return_ eV (F_X5_keepText_38 m a0) m 38 [.ref a0] [] := by
  intro m a0
  unfold F_X5_keepText_38
  refine Cv.go (pc' := 39) (go_aload_n (i := 0) (x := a0) dX5_keepText_38 rfl rfl) ?_
  refine Cv.gif fun g24 => ?_
  refine Cv.gref fun r25 e26 => ?_
  refine Cv.go (pc' := 42) (go_getR (i := 3) cls5 g24 (by decide) rfl lf_X5_18 (Or.inl ⟨_, rfl⟩) e26 dX5_keepText_39) ?_
  refine Cv.go (pc' := 43) (go_iconst dX5_keepText_42 ic_0) ?_
  refine Cv.gif fun g27 => ?_
  refine Cv.go (pc' := 46) (go_putI (i := 1) cls3 g27 (by decide) rfl lf_X5_136 (by decide) rfl rfl rfl dX5_keepText_43) ?_
  refine Cv.namM fun m28 em28 => ?_
  exact Cv.ret dX5_keepText_46 rfl
theorem kc_X5_keepText (m : Mem) (c0 : Nat) : ∀ v mE, F_X5_keepText m c0 = some (v, mE) → Con false kX5_keepText 3 [.ref c0] m (eV v) mE := by
  refine Con.of (ini := false) (ls0 := [.ref c0]) (ri := .return_) (by decide) (by intro z; cases z) rfl (Nat.le_of_ble_eq_true rfl) (fun v mE _ => RetTy.v) ?_
  show Cv false (cX5_keepText, 1, RX5, 3, ((false, none) : IK)) .return_ eV (F_X5_keepText m c0) m 0 [.ref c0] []
  unfold F_X5_keepText
  refine Cv.go (pc' := 1) (go_aload_n (i := 0) (x := c0) dX5_keepText_0 rfl rfl) ?_
  refine Cv.gif fun g1 => ?_
  refine Cv.go (pc' := 4) (go_getI (i := 5) cls5 g1 (by decide) rfl lf_X5_139 (by decide) dX5_keepText_1) ?_
  refine Cv.go (pc' := 5) (go_aload_n (i := 0) (x := c0) dX5_keepText_4 rfl rfl) ?_
  refine Cv.gif fun g2 => ?_
  refine Cv.gref fun r3 e4 => ?_
  refine Cv.go (pc' := 8) (go_getR (i := 4) cls5 g2 (by decide) rfl lf_X5_24 (Or.inr ⟨_, rfl⟩) e4 dX5_keepText_5) ?_
  refine Cv.gif fun g5 => ?_
  refine Cv.go (pc' := 9) (go_alen (t := 11) (t0 := 4) (kA g5) (by decide) (fun _ => rfl) dX5_keepText_8) ?_
  refine Cv.ite (fun h6 => ?_) (fun h6 => ?_)
  · refine Cv.go (pc' := 38) (go_icmp_ge_t (tgt := 38) dX5_keepText_9 rfl h6) ?_
    exact c_X5_keepText_38 m c0
  · refine Cv.go (pc' := 12) (go_icmp_ge_f 38 dX5_keepText_9 rfl h6) ?_
    refine Cv.go (pc' := 13) (go_aload_n (i := 0) (x := c0) dX5_keepText_12 rfl rfl) ?_
    refine Cv.gif fun g7 => ?_
    refine Cv.gref fun r8 e9 => ?_
    refine Cv.go (pc' := 16) (go_getR (i := 4) cls5 g7 (by decide) rfl lf_X5_24 (Or.inr ⟨_, rfl⟩) e9 dX5_keepText_13) ?_
    refine Cv.go (pc' := 17) (go_aload_n (i := 0) (x := c0) dX5_keepText_16 rfl rfl) ?_
    refine Cv.gif fun g10 => ?_
    refine Cv.go (pc' := 20) (go_getI (i := 5) cls5 g10 (by decide) rfl lf_X5_139 (by decide) dX5_keepText_17) ?_
    refine Cv.go (pc' := 21) (go_aload_n (i := 0) (x := c0) dX5_keepText_20 rfl rfl) ?_
    refine Cv.gif fun g11 => ?_
    refine Cv.gref fun r12 e13 => ?_
    refine Cv.go (pc' := 24) (go_getR (i := 3) cls5 g11 (by decide) rfl lf_X5_18 (Or.inl ⟨_, rfl⟩) e13 dX5_keepText_21) ?_
    refine Cv.gif fun g14 => ?_
    refine Cv.bnd fun v15 m16 e17 => ?_
    have C18 := kc_X3_newText m r12 v15 m16 e17
    refine Cv.go (pc' := 27) (st' := [.ref v15, .int (mD m c0 5), .ref r8]) (go_callV (As := []) (st := [.int (mD m c0 5), .ref r8]) C18 (by decide) ok_X3_newText li_X3_newText ls_X3_newText lm_X5_311 cls3 g14 rfl rfl (Nat.le_of_ble_eq_true rfl) dX5_keepText_24) ?_
    refine Cv.gif fun g19 => ?_
    refine Cv.go (pc' := 28) (go_aastore (t := 11) (t0 := 4) cls4 (kA g19.1) (by decide) (fun _ => rfl) g19.2.2 g19.2.1 dX5_keepText_27) ?_
    refine Cv.namM fun m20 em20 => ?_
    refine Cv.go (pc' := 29) (go_aload_n (i := 0) (x := c0) dX5_keepText_28 rfl rfl) ?_
    refine Cv.go (pc' := 30) (go_dup_a dX5_keepText_29) ?_
    refine Cv.gif fun g21 => ?_
    refine Cv.go (pc' := 33) (go_getI (i := 5) cls5 g21 (by decide) rfl lf_X5_139 (by decide) dX5_keepText_30) ?_
    refine Cv.go (pc' := 34) (go_iconst dX5_keepText_33 ic_1) ?_
    refine Cv.go (pc' := 35) (go_iadd dX5_keepText_34) ?_
    refine Cv.gif fun g22 => ?_
    refine Cv.go (pc' := 38) (go_putI (i := 5) cls5 g22 (by decide) rfl lf_X5_139 (by decide) rfl rfl rfl dX5_keepText_35) ?_
    refine Cv.namM fun m23 em23 => ?_
    exact c_X5_keepText_38 m23 c0
theorem c_X5_init_133 : ∀ n, ∀ (m : Mem) (a0 : Nat) (a1 : Int32), Cv false (cX5_init, 2, RX5, 87, ((true, none) : IK)) .return_ eV (F_X5_init_133 n m a0 a1) m 133 [.ref a0, .int a1] [] := by
  intro n
  induction n with
  | zero => intro m a0 a1; exact Cv.no
  | succ n ih =>
    intro m a0 a1
    unfold F_X5_init_133
    refine Cv.go (pc' := 134) (go_iload_n (i := 1) (x := a1) dX5_init_133 rfl rfl) ?_
    refine Cv.go (pc' := 136) (go_ldcS4 dX5_init_134) ?_
    refine Cv.go (pc' := 139) (go_strlen4 lm_X5_53 (by decide) (Nat.le_of_ble_eq_true rfl) dX5_init_136) ?_
    refine Cv.ite (fun h73 => ?_) (fun h73 => ?_)
    · refine Cv.go (pc' := 161) (go_icmp_ge_t (tgt := 161) dX5_init_139 rfl h73) ?_
      refine Cv.go (pc' := 162) (go_aload_n (i := 0) (x := a0) dX5_init_161 rfl rfl) ?_
      refine Cv.gif fun g74 => ?_
      refine Cv.gref fun r75 e76 => ?_
      refine Cv.go (pc' := 165) (go_getR (i := 3) cls5 g74 (by decide) rfl lf_X5_18 (Or.inl ⟨_, rfl⟩) e76 dX5_init_162) ?_
      refine Cv.gif fun g77 => ?_
      obtain ⟨zg77, hS⟩ := g77
      subst zg77
      refine Cv.bnd fun v78 m79 e80 => ?_
      have C81 := kc_X3_read m hS v78 m79 e80
      have C81 := C81.wk (sp' := false) (fun z => by cases z)
      refine Cv.go (pc' := 168) (st' := [.int v78]) (go_callV (As := []) (st := []) C81 (by decide) ok_X3_read li_X3_read ls_X3_read lm_X5_67 cls3 (sx_k2 hS) rfl rfl (Nat.le_of_ble_eq_true rfl) dX5_init_165) ?_
      have zm79 : SameSh m m79 := (kc_X3_read m hS v78 m79 e80).1.2.2 rfl
      have hS := hS.sh zm79
      refine Cv.go (pc' := 169) (go_pop_i dX5_init_168) ?_
      refine Cv.go (pc' := 170) (go_aload_n (i := 0) (x := a0) dX5_init_169 rfl rfl) ?_
      refine Cv.gif fun g82 => ?_
      refine Cv.bnd fun v83 m84 e85 => ?_
      have C86 := kc_X5_keepText m79 a0 v83 m84 e85
      refine Cv.go (pc' := 173) (st' := []) (go_callV (As := []) (st := []) C86 (by decide) ok_X5_keepText li_X5_keepText ls_X5_keepText lm_X5_70 cls5 g82 rfl rfl (Nat.le_of_ble_eq_true rfl) dX5_init_170) ?_
      exact Cv.ret dX5_init_173 rfl
    · refine Cv.go (pc' := 142) (go_icmp_ge_f 161 dX5_init_139 rfl h73) ?_
      refine Cv.go (pc' := 143) (go_aload_n (i := 0) (x := a0) dX5_init_142 rfl rfl) ?_
      refine Cv.gif fun g87 => ?_
      refine Cv.gref fun r88 e89 => ?_
      refine Cv.go (pc' := 146) (go_getR (i := 3) cls5 g87 (by decide) rfl lf_X5_18 (Or.inl ⟨_, rfl⟩) e89 dX5_init_143) ?_
      refine Cv.go (pc' := 148) (go_ldcS4 dX5_init_146) ?_
      refine Cv.go (pc' := 149) (go_iload_n (i := 1) (x := a1) dX5_init_148 rfl rfl) ?_
      refine Cv.gif fun g90 => ?_
      refine Cv.go (pc' := 152) (go_strchr4 lm_X5_59 g90 (by decide) (Nat.le_of_ble_eq_true rfl) dX5_init_149) ?_
      refine Cv.gif fun g91 => ?_
      obtain ⟨zg91, hS⟩ := g91
      subst zg91
      refine Cv.bnd fun v92 m93 e94 => ?_
      have C95 := kc_X3_add m (sch 0 a1.toNatClampNeg) hS v92 m93 e94
      have C95 := C95.wk (sp' := false) (fun z => by cases z)
      refine Cv.go (pc' := 155) (st' := []) (go_callV (As := [.int (sch 0 a1.toNatClampNeg)]) (st := []) C95 (by decide) ok_X3_add li_X3_add ls_X3_add lm_X5_63 cls3 (sx_k2 hS) rfl rfl (Nat.le_of_ble_eq_true rfl) dX5_init_152) ?_
      have zm93 : SameSh m m93 := (kc_X3_add m (sch 0 a1.toNatClampNeg) hS v92 m93 e94).1.2.2 rfl
      have hS := hS.sh zm93
      refine Cv.go (pc' := 158) (ls' := [.ref a0, .int (a1 + (1 : Int32))]) (go_iinc (x := a1) (v := a1 + (1 : Int32)) dX5_init_155 rfl rfl (by decide) rfl) ?_
      refine Cv.go (pc' := 133) (go_goto (tgt := 133) dX5_init_158 rfl) ?_
      exact ih m93 a0 (a1 + (1 : Int32))
theorem c_X5_init_103 : ∀ n, ∀ (m : Mem) (a0 : Nat) (a1 : Int32), Cv false (cX5_init, 2, RX5, 87, ((true, none) : IK)) .return_ eV (F_X5_init_103 n m a0 a1) m 103 [.ref a0, .int a1] [] := by
  intro n
  induction n with
  | zero => intro m a0 a1; exact Cv.no
  | succ n ih =>
    intro m a0 a1
    unfold F_X5_init_103
    refine Cv.go (pc' := 104) (go_iload_n (i := 1) (x := a1) dX5_init_103 rfl rfl) ?_
    refine Cv.go (pc' := 105) (go_aload_n (i := 0) (x := a0) dX5_init_104 rfl rfl) ?_
    refine Cv.gif fun g57 => ?_
    refine Cv.gref fun r58 e59 => ?_
    refine Cv.go (pc' := 108) (go_getR (i := 7) cls5 g57 (by decide) rfl lf_X5_30 (Or.inr ⟨_, rfl⟩) e59 dX5_init_105) ?_
    refine Cv.gif fun g60 => ?_
    refine Cv.go (pc' := 109) (go_alen (t := 10) (t0 := 3) (kA g60) (by decide) (fun _ => rfl) dX5_init_108) ?_
    refine Cv.ite (fun h61 => ?_) (fun h61 => ?_)
    · refine Cv.go (pc' := 131) (go_icmp_ge_t (tgt := 131) dX5_init_109 rfl h61) ?_
      refine Cv.go (pc' := 132) (go_iconst dX5_init_131 ic_0) ?_
      refine Cv.go (pc' := 133) (ls' := [.ref a0, .int (0 : Int32)]) (go_istore_n dX5_init_132 rfl (by decide) rfl) ?_
      exact c_X5_init_133 FU m a0 (0 : Int32)
    · refine Cv.go (pc' := 112) (go_icmp_ge_f 131 dX5_init_109 rfl h61) ?_
      refine Cv.go (pc' := 113) (go_aload_n (i := 0) (x := a0) dX5_init_112 rfl rfl) ?_
      refine Cv.gif fun g62 => ?_
      refine Cv.gref fun r63 e64 => ?_
      refine Cv.go (pc' := 116) (go_getR (i := 7) cls5 g62 (by decide) rfl lf_X5_30 (Or.inr ⟨_, rfl⟩) e64 dX5_init_113) ?_
      refine Cv.go (pc' := 117) (go_iload_n (i := 1) (x := a1) dX5_init_116 rfl rfl) ?_
      refine Cv.go (pc' := 120) (go_new cls2 lk_X5_28 la_X2 ln_X2 nf2 dX5_init_117) ?_
      refine Cv.namM fun m65 em65 => ?_
      refine Cv.namR fun q66 eq66 => ?_
      refine Cv.go (pc' := 121) (go_dup_a dX5_init_120) ?_
      refine Cv.bnd fun v67 m68 e69 => ?_
      have C70 := kc_X2_init m65 q66 v67 m68 e69
      refine Cv.go (pc' := 124) (st' := [.ref q66, .int a1, .ref r63]) (go_callN (host := RX5) (As := []) (st := [.ref q66, .int a1, .ref r63]) C70 rfl rfl (by decide) ok_X2_init li_X2_init (by simp [nw]) rfl rfl (Nat.le_of_ble_eq_true rfl) dX5_init_121) ?_
      refine Cv.gif fun g71 => ?_
      refine Cv.go (pc' := 125) (go_aastore (t := 10) (t0 := 3) cls2 (kA g71.1) (by decide) (fun _ => rfl) g71.2.2 g71.2.1 dX5_init_124) ?_
      refine Cv.namM fun m72 em72 => ?_
      refine Cv.go (pc' := 128) (ls' := [.ref a0, .int (a1 + (1 : Int32))]) (go_iinc (x := a1) (v := a1 + (1 : Int32)) dX5_init_125 rfl rfl (by decide) rfl) ?_
      refine Cv.go (pc' := 103) (go_goto (tgt := 103) dX5_init_128 rfl) ?_
      exact ih m72 a0 (a1 + (1 : Int32))
theorem c_X5_init_73 : ∀ n, ∀ (m : Mem) (a0 : Nat) (a1 : Int32), Cv false (cX5_init, 2, RX5, 87, ((true, none) : IK)) .return_ eV (F_X5_init_73 n m a0 a1) m 73 [.ref a0, .int a1] [] := by
  intro n
  induction n with
  | zero => intro m a0 a1; exact Cv.no
  | succ n ih =>
    intro m a0 a1
    unfold F_X5_init_73
    refine Cv.go (pc' := 74) (go_iload_n (i := 1) (x := a1) dX5_init_73 rfl rfl) ?_
    refine Cv.go (pc' := 75) (go_aload_n (i := 0) (x := a0) dX5_init_74 rfl rfl) ?_
    refine Cv.gif fun g41 => ?_
    refine Cv.gref fun r42 e43 => ?_
    refine Cv.go (pc' := 78) (go_getR (i := 1) cls5 g41 (by decide) rfl lf_X5_11 (Or.inr ⟨_, rfl⟩) e43 dX5_init_75) ?_
    refine Cv.gif fun g44 => ?_
    refine Cv.go (pc' := 79) (go_alen (t := 9) (t0 := 2) (kA g44) (by decide) (fun _ => rfl) dX5_init_78) ?_
    refine Cv.ite (fun h45 => ?_) (fun h45 => ?_)
    · refine Cv.go (pc' := 101) (go_icmp_ge_t (tgt := 101) dX5_init_79 rfl h45) ?_
      refine Cv.go (pc' := 102) (go_iconst dX5_init_101 ic_0) ?_
      refine Cv.go (pc' := 103) (ls' := [.ref a0, .int (0 : Int32)]) (go_istore_n dX5_init_102 rfl (by decide) rfl) ?_
      exact c_X5_init_103 FU m a0 (0 : Int32)
    · refine Cv.go (pc' := 82) (go_icmp_ge_f 101 dX5_init_79 rfl h45) ?_
      refine Cv.go (pc' := 83) (go_aload_n (i := 0) (x := a0) dX5_init_82 rfl rfl) ?_
      refine Cv.gif fun g46 => ?_
      refine Cv.gref fun r47 e48 => ?_
      refine Cv.go (pc' := 86) (go_getR (i := 1) cls5 g46 (by decide) rfl lf_X5_11 (Or.inr ⟨_, rfl⟩) e48 dX5_init_83) ?_
      refine Cv.go (pc' := 87) (go_iload_n (i := 1) (x := a1) dX5_init_86 rfl rfl) ?_
      refine Cv.go (pc' := 90) (go_new cls0 lk_X5_9 la_X0 ln_X0 nf0 dX5_init_87) ?_
      refine Cv.namM fun m49 em49 => ?_
      refine Cv.namR fun q50 eq50 => ?_
      refine Cv.go (pc' := 91) (go_dup_a dX5_init_90) ?_
      refine Cv.bnd fun v51 m52 e53 => ?_
      have C54 := kc_X0_init m49 q50 v51 m52 e53
      refine Cv.go (pc' := 94) (st' := [.ref q50, .int a1, .ref r47]) (go_callN (host := RX5) (As := []) (st := [.ref q50, .int a1, .ref r47]) C54 rfl rfl (by decide) ok_X0_init li_X0_init (by simp [nw]) rfl rfl (Nat.le_of_ble_eq_true rfl) dX5_init_91) ?_
      refine Cv.gif fun g55 => ?_
      refine Cv.go (pc' := 95) (go_aastore (t := 9) (t0 := 2) cls0 (kA g55.1) (by decide) (fun _ => rfl) g55.2.2 g55.2.1 dX5_init_94) ?_
      refine Cv.namM fun m56 em56 => ?_
      refine Cv.go (pc' := 98) (ls' := [.ref a0, .int (a1 + (1 : Int32))]) (go_iinc (x := a1) (v := a1 + (1 : Int32)) dX5_init_95 rfl rfl (by decide) rfl) ?_
      refine Cv.go (pc' := 73) (go_goto (tgt := 73) dX5_init_98 rfl) ?_
      exact ih m56 a0 (a1 + (1 : Int32))
theorem kc_X5_init (m : Mem) (c0 : Nat) : ∀ v mE, F_X5_init m c0 = some (v, mE) → Con false kX5_init 87 [.ref c0] m (eV v) mE := by
  refine Con.of (ini := true) (ls0 := [.ref c0, .null]) (ri := .return_) (by decide) (by intro _; rfl) rfl (Nat.le_of_ble_eq_true rfl) (fun v mE _ => RetTy.v) ?_
  show Cv false (cX5_init, 2, RX5, 87, ((true, none) : IK)) .return_ eV (F_X5_init m c0) m 0 [.ref c0, .null] []
  unfold F_X5_init
  refine Cv.go (pc' := 1) (go_aload_n (i := 0) (x := c0) dX5_init_0 rfl rfl) ?_
  refine Cv.go (pc' := 4) (go_oinit lm_X5_3 li_oinit lo_oinit (by decide) (Nat.le_of_ble_eq_true rfl) dX5_init_1) ?_
  refine Cv.go (pc' := 5) (go_aload_n (i := 0) (x := c0) dX5_init_4 rfl rfl) ?_
  refine Cv.go (pc' := 7) (go_bipush dX5_init_5 ib_8) ?_
  refine Cv.go (pc' := 10) (go_newR (N' := 8) (t := 9) (t0 := 2) aoCoin (by decide) (fun _ => rfl) lk_X5_9 (by decide) (by decide) (by decide) dX5_init_7) ?_
  refine Cv.namM fun m1 em1 => ?_
  refine Cv.namR fun q2 eq2 => ?_
  refine Cv.gif fun g3 => ?_
  refine Cv.go (pc' := 13) (go_putF (i := 1) cls5 g3 (by decide) rfl rfl lf_X5_11 (Or.inr ⟨_, rfl⟩) rfl dX5_init_10) ?_
  refine Cv.namM fun m4 em4 => ?_
  refine Cv.go (pc' := 14) (go_aload_n (i := 0) (x := c0) dX5_init_13 rfl rfl) ?_
  refine Cv.go (pc' := 17) (go_new cls3 lk_X5_15 la_X3 ln_X3 nf3 dX5_init_14) ?_
  refine Cv.namM fun m5 em5 => ?_
  refine Cv.namR fun q6 eq6 => ?_
  refine Cv.go (pc' := 18) (go_dup_a dX5_init_17) ?_
  refine Cv.bnd fun v7 m8 e9 => ?_
  have C10 := kc_X3_init m5 q6 v7 m8 e9
  refine Cv.go (pc' := 21) (st' := [.ref q6, .ref c0]) (go_callN (host := RX5) (As := []) (st := [.ref q6, .ref c0]) C10 rfl rfl (by decide) ok_X3_init li_X3_init (by simp [nw]) rfl rfl (Nat.le_of_ble_eq_true rfl) dX5_init_18) ?_
  refine Cv.gif fun g11 => ?_
  refine Cv.go (pc' := 24) (go_putF (i := 3) cls5 g11 (by decide) rfl rfl lf_X5_18 (Or.inl ⟨_, rfl⟩) rfl dX5_init_21) ?_
  refine Cv.namM fun m12 em12 => ?_
  refine Cv.go (pc' := 25) (go_aload_n (i := 0) (x := c0) dX5_init_24 rfl rfl) ?_
  refine Cv.go (pc' := 27) (go_bipush dX5_init_25 ib_6) ?_
  refine Cv.go (pc' := 30) (go_newR (N' := 6) (t := 11) (t0 := 4) aoText (by decide) (fun _ => rfl) lk_X5_22 (by decide) (by decide) (by decide) dX5_init_27) ?_
  refine Cv.namM fun m13 em13 => ?_
  refine Cv.namR fun q14 eq14 => ?_
  refine Cv.gif fun g15 => ?_
  refine Cv.go (pc' := 33) (go_putF (i := 4) cls5 g15 (by decide) rfl rfl lf_X5_24 (Or.inr ⟨_, rfl⟩) rfl dX5_init_30) ?_
  refine Cv.namM fun m16 em16 => ?_
  refine Cv.go (pc' := 34) (go_aload_n (i := 0) (x := c0) dX5_init_33 rfl rfl) ?_
  refine Cv.go (pc' := 35) (go_iconst dX5_init_34 ic_4) ?_
  refine Cv.go (pc' := 38) (go_newR (N' := 4) (t := 10) (t0 := 3) aoSheet (by decide) (fun _ => rfl) lk_X5_28 (by decide) (by decide) (by decide) dX5_init_35) ?_
  refine Cv.namM fun m17 em17 => ?_
  refine Cv.namR fun q18 eq18 => ?_
  refine Cv.gif fun g19 => ?_
  refine Cv.go (pc' := 41) (go_putF (i := 7) cls5 g19 (by decide) rfl rfl lf_X5_30 (Or.inr ⟨_, rfl⟩) rfl dX5_init_38) ?_
  refine Cv.namM fun m20 em20 => ?_
  refine Cv.go (pc' := 42) (go_aload_n (i := 0) (x := c0) dX5_init_41 rfl rfl) ?_
  refine Cv.go (pc' := 45) (go_new cls1 lk_X5_34 la_X1 ln_X1 nf1 dX5_init_42) ?_
  refine Cv.namM fun m21 em21 => ?_
  refine Cv.namR fun q22 eq22 => ?_
  refine Cv.go (pc' := 46) (go_dup_a dX5_init_45) ?_
  refine Cv.bnd fun v23 m24 e25 => ?_
  have C26 := kc_X1_init m21 q22 v23 m24 e25
  refine Cv.go (pc' := 49) (st' := [.ref q22, .ref c0]) (go_callI (As := []) (st := [.ref q22, .ref c0]) C26 rfl rfl (by decide) ok_X1_init li_X1_init lm_X5_36 rfl rfl (Nat.le_of_ble_eq_true rfl) dX5_init_46) ?_
  refine Cv.gif fun g27 => ?_
  refine Cv.go (pc' := 52) (go_putF (i := 8) cls5 g27 (by decide) rfl rfl lf_X5_37 (Or.inl ⟨_, rfl⟩) rfl dX5_init_49) ?_
  refine Cv.namM fun m28 em28 => ?_
  refine Cv.go (pc' := 53) (go_aload_n (i := 0) (x := c0) dX5_init_52 rfl rfl) ?_
  refine Cv.go (pc' := 56) (go_new cls0 lk_X5_9 la_X0 ln_X0 nf0 dX5_init_53) ?_
  refine Cv.namM fun m29 em29 => ?_
  refine Cv.namR fun q30 eq30 => ?_
  refine Cv.go (pc' := 57) (go_dup_a dX5_init_56) ?_
  refine Cv.bnd fun v31 m32 e33 => ?_
  have C34 := kc_X0_init m29 q30 v31 m32 e33
  refine Cv.go (pc' := 60) (st' := [.ref q30, .ref c0]) (go_callN (host := RX5) (As := []) (st := [.ref q30, .ref c0]) C34 rfl rfl (by decide) ok_X0_init li_X0_init (by simp [nw]) rfl rfl (Nat.le_of_ble_eq_true rfl) dX5_init_57) ?_
  refine Cv.gif fun g35 => ?_
  refine Cv.go (pc' := 63) (go_putF (i := 9) cls5 g35 (by decide) rfl rfl lf_X5_42 (Or.inl ⟨_, rfl⟩) rfl dX5_init_60) ?_
  refine Cv.namM fun m36 em36 => ?_
  refine Cv.go (pc' := 64) (go_aload_n (i := 0) (x := c0) dX5_init_63 rfl rfl) ?_
  refine Cv.go (pc' := 66) (go_bipush dX5_init_64 ib_8) ?_
  refine Cv.go (pc' := 68) (go_newI (N' := 8) lx_int (by decide) (by decide) (by decide) dX5_init_66) ?_
  refine Cv.namM fun m37 em37 => ?_
  refine Cv.namR fun q38 eq38 => ?_
  refine Cv.gif fun g39 => ?_
  refine Cv.go (pc' := 71) (go_putF (i := 10) cls5 g39 (by decide) rfl rfl lf_X5_46 (Or.inr ⟨_, rfl⟩) rfl dX5_init_68) ?_
  refine Cv.namM fun m40 em40 => ?_
  refine Cv.go (pc' := 72) (go_iconst dX5_init_71 ic_0) ?_
  refine Cv.go (pc' := 73) (ls' := [.ref c0, .int (0 : Int32)]) (go_istore_n dX5_init_72 rfl (by decide) rfl) ?_
  exact c_X5_init_73 FU m40 c0 (0 : Int32)
theorem kc_X5_isCoin (m : Mem) (a1 : Int32) (hS : ShX m) : ∀ v mE, F_X5_isCoin m a1 = some (v, mE) → Con true kX5_isCoin 0 [.ref 0, .int a1] m (eZ v) mE := by
  refine Con.of (ini := false) (ls0 := [.ref 0, .int a1]) (ri := .ireturn) (by decide) (by intro z; cases z) rfl (Nat.le_of_ble_eq_true rfl) (fun v mE _ => RetTy.z) ?_
  show Cv true (cX5_isCoin, 2, RX5, 0, ((false, none) : IK)) .ireturn eZ (F_X5_isCoin m a1) m 0 [.ref 0, .int a1] []
  unfold F_X5_isCoin
  refine Cv.go (pc' := 1) (go_iload_n (i := 1) (x := a1) dX5_isCoin_0 rfl rfl) ?_
  refine Cv.ite (fun h1 => ?_) (fun h1 => ?_)
  · refine Cv.go (pc' := 16) (go_if_lt_t (tgt := 16) dX5_isCoin_1 rfl h1) ?_
    refine Cv.go (pc' := 17) (go_iconst dX5_isCoin_16 ic_0) ?_
    exact Cv.ret dX5_isCoin_17 rfl
  · refine Cv.go (pc' := 4) (go_if_lt_f 16 dX5_isCoin_1 rfl h1) ?_
    refine Cv.go (pc' := 5) (go_iload_n (i := 1) (x := a1) dX5_isCoin_4 rfl rfl) ?_
    refine Cv.go (pc' := 6) (go_aload_n (i := 0) (x := 0) dX5_isCoin_5 rfl rfl) ?_
    refine Cv.go (pc' := 9) (go_getI (i := 2) cls5 (sx_k0 hS) (by decide) rfl lf_X5_103 (by decide) dX5_isCoin_6) ?_
    refine Cv.ite (fun h2 => ?_) (fun h2 => ?_)
    · refine Cv.go (pc' := 16) (go_icmp_ge_t (tgt := 16) dX5_isCoin_9 rfl h2) ?_
      refine Cv.go (pc' := 17) (go_iconst dX5_isCoin_16 ic_0) ?_
      exact Cv.ret dX5_isCoin_17 rfl
    · refine Cv.go (pc' := 12) (go_icmp_ge_f 16 dX5_isCoin_9 rfl h2) ?_
      refine Cv.go (pc' := 13) (go_iconst dX5_isCoin_12 ic_1) ?_
      refine Cv.go (pc' := 17) (go_goto (tgt := 17) dX5_isCoin_13 rfl) ?_
      exact Cv.ret dX5_isCoin_17 rfl
theorem kc_X5_set (m : Mem) (a1 : Int32) (a2 : Int32) (a3 : Int32) (hS : ShX m) : ∀ v mE, F_X5_set m a1 a2 a3 = some (v, mE) → Con true kX5_set 1 [.ref 0, .int a1, .int a2, .int a3] m (eI v) mE := by
  refine Con.of (ini := false) (ls0 := [.ref 0, .int a1, .int a2, .int a3, .null]) (ri := .ireturn) (by decide) (by intro z; cases z) rfl (Nat.le_of_ble_eq_true rfl) (fun v mE _ => RetTy.i) ?_
  show Cv true (cX5_set, 5, RX5, 1, ((false, none) : IK)) .ireturn eI (F_X5_set m a1 a2 a3) m 0 [.ref 0, .int a1, .int a2, .int a3, .null] []
  unfold F_X5_set
  refine Cv.go (pc' := 1) (go_iload_n (i := 1) (x := a1) dX5_set_0 rfl rfl) ?_
  refine Cv.go (pc' := 2) (go_iconst dX5_set_1 ic_0) ?_
  refine Cv.go (pc' := 3) (go_iconst dX5_set_2 ic_5) ?_
  refine Cv.bnd fun v1 m2 e3 => ?_
  have C4 := kc_X5_isBetween m a1 (0 : Int32) (5 : Int32) v1 m2 e3
  refine Cv.go (pc' := 6) (st' := [.int (bz v1)]) (go_callS (As := [.int a1, .int (0 : Int32), .int (5 : Int32)]) (st := []) C4 (by decide) ok_X5_isBetween lt_X5_isBetween lm_X5_73 rfl rfl (Nat.le_of_ble_eq_true rfl) dX5_set_3) ?_
  have zm2 := C4.1.2.2 rfl
  have hS := hS.sh zm2
  refine Cv.ite (fun h5 => ?_) (fun h5 => ?_)
  · refine Cv.go (pc' := 26) (go_if_eq_t (tgt := 26) dX5_set_6 rfl h5) ?_
    refine Cv.go (pc' := 28) (go_bipush dX5_set_26 ib_n2) ?_
    exact Cv.ret dX5_set_28 rfl
  · refine Cv.go (pc' := 9) (go_if_eq_f 26 dX5_set_6 rfl h5) ?_
    refine Cv.go (pc' := 10) (go_iload_n (i := 3) (x := a3) dX5_set_9 rfl rfl) ?_
    refine Cv.go (pc' := 13) (go_getT roLEAST lf_X5_77 dX5_set_10) ?_
    refine Cv.go (pc' := 14) (go_iload_n (i := 1) (x := a1) dX5_set_13 rfl rfl) ?_
    refine Cv.gif fun g6 => ?_
    refine Cv.go (pc' := 15) (go_rdT roLEAST g6 dX5_set_14) ?_
    refine Cv.go (pc' := 18) (go_getT roMOST lf_X5_80 dX5_set_15) ?_
    refine Cv.go (pc' := 19) (go_iload_n (i := 1) (x := a1) dX5_set_18 rfl rfl) ?_
    refine Cv.gif fun g7 => ?_
    refine Cv.go (pc' := 20) (go_rdT roMOST g7 dX5_set_19) ?_
    refine Cv.bnd fun v8 m9 e10 => ?_
    have C11 := kc_X5_isBetween m2 a3 (fLEAST a1.toNatClampNeg) (fMOST a1.toNatClampNeg) v8 m9 e10
    refine Cv.go (pc' := 23) (st' := [.int (bz v8)]) (go_callS (As := [.int a3, .int (fLEAST a1.toNatClampNeg), .int (fMOST a1.toNatClampNeg)]) (st := []) C11 (by decide) ok_X5_isBetween lt_X5_isBetween lm_X5_73 rfl rfl (Nat.le_of_ble_eq_true rfl) dX5_set_20) ?_
    have zm9 := C11.1.2.2 rfl
    have hS := hS.sh zm9
    refine Cv.ite (fun h12 => ?_) (fun h12 => ?_)
    · refine Cv.go (pc' := 26) (go_if_ne_f 29 dX5_set_23 rfl h12) ?_
      refine Cv.go (pc' := 28) (go_bipush dX5_set_26 ib_n2) ?_
      exact Cv.ret dX5_set_28 rfl
    · refine Cv.go (pc' := 29) (go_if_ne_t (tgt := 29) dX5_set_23 rfl h12) ?_
      refine Cv.go (pc' := 30) (go_iload_n (i := 1) (x := a1) dX5_set_29 rfl rfl) ?_
      refine Cv.ite (fun h13 => ?_) (fun h13 => ?_)
      · refine Cv.go (pc' := 33) (go_if_ne_f 47 dX5_set_30 rfl h13) ?_
        refine Cv.go (pc' := 34) (go_aload_n (i := 0) (x := 0) dX5_set_33 rfl rfl) ?_
        refine Cv.go (pc' := 37) (go_getI (i := 0) cls5 (sx_k0 hS) (by decide) rfl lf_X5_83 (by decide) dX5_set_34) ?_
        refine Cv.namI fun x31 ex31 => ?_
        refine Cv.go (pc' := 39) (ls' := [.ref 0, .int a1, .int a2, .int a3, .int x31]) (go_istore dX5_set_37 (by decide) rfl) ?_
        refine Cv.go (pc' := 40) (go_aload_n (i := 0) (x := 0) dX5_set_39 rfl rfl) ?_
        refine Cv.go (pc' := 41) (go_iload_n (i := 3) (x := a3) dX5_set_40 rfl rfl) ?_
        refine Cv.go (pc' := 44) (go_putI (i := 0) cls5 (sx_k0 hS) (by decide) rfl lf_X5_83 (by decide) rfl rfl rfl dX5_set_41) ?_
        refine Cv.namM fun m32 em32 => ?_
        have zm32 : SameSh m9 m32 := em32 ▸ SameSh.d
        have hS := hS.sh zm32
        refine Cv.go (pc' := 46) (go_iload (i := 4) (x := x31) dX5_set_44 rfl) ?_
        exact Cv.ret dX5_set_46 rfl
      · refine Cv.go (pc' := 47) (go_if_ne_t (tgt := 47) dX5_set_30 rfl h13) ?_
        refine Cv.go (pc' := 48) (go_aload_n (i := 0) (x := 0) dX5_set_47 rfl rfl) ?_
        refine Cv.go (pc' := 49) (go_iload_n (i := 2) (x := a2) dX5_set_48 rfl rfl) ?_
        refine Cv.bnd fun v14 m15 e16 => ?_
        have C17 := kc_X5_isCoin m9 a2 hS v14 m15 e16
        refine Cv.go (pc' := 52) (st' := [.int (bz v14)]) (go_callV (As := [.int a2]) (st := []) C17 (by decide) ok_X5_isCoin li_X5_isCoin ls_X5_isCoin lm_X5_87 cls5 (sx_k0 hS) rfl rfl (Nat.le_of_ble_eq_true rfl) dX5_set_49) ?_
        have zm15 := C17.1.2.2 rfl
        have hS := hS.sh zm15
        refine Cv.ite (fun h18 => ?_) (fun h18 => ?_)
        · refine Cv.go (pc' := 55) (go_if_ne_f 58 dX5_set_52 rfl h18) ?_
          refine Cv.go (pc' := 57) (go_bipush dX5_set_55 ib_n2) ?_
          exact Cv.ret dX5_set_57 rfl
        · refine Cv.go (pc' := 58) (go_if_ne_t (tgt := 58) dX5_set_52 rfl h18) ?_
          refine Cv.go (pc' := 59) (go_aload_n (i := 0) (x := 0) dX5_set_58 rfl rfl) ?_
          refine Cv.go (pc' := 62) (go_getR (i := 1) cls5 (sx_k0 hS) (by decide) rfl lf_X5_11 (Or.inr ⟨_, rfl⟩) (sx_r0_1 hS) dX5_set_59) ?_
          refine Cv.go (pc' := 63) (go_iload_n (i := 2) (x := a2) dX5_set_62 rfl rfl) ?_
          refine Cv.gif fun g19 => ?_
          refine Cv.go (pc' := 64) (go_aaload (t := 9) (t0 := 2) (sx_k1 hS) (by decide) (fun _ => rfl) g19 (sx_e1 hS (vp_lt g19)).1 dX5_set_63) ?_
          have hf20 := (sx_e1 hS (vp_lt g19)).2
          refine Cv.go (pc' := 65) (go_iload_n (i := 1) (x := a1) dX5_set_64 rfl rfl) ?_
          refine Cv.bnd fun v21 m22 e23 => ?_
          have C24 := kc_X0_part m15 (20 + a2.toNatClampNeg) a1 hf20 v21 m22 e23
          refine Cv.go (pc' := 68) (st' := [.int v21]) (go_callV (As := [.int a1]) (st := []) C24 (by decide) ok_X0_part li_X0_part ls_X0_part lm_X5_91 cls0 hf20 rfl rfl (Nat.le_of_ble_eq_true rfl) dX5_set_65) ?_
          have zm22 := C24.1.2.2 rfl
          have hS := hS.sh zm22
          have hf20 := sk zm22 hf20
          refine Cv.go (pc' := 70) (ls' := [.ref 0, .int a1, .int a2, .int a3, .int v21]) (go_istore dX5_set_68 (by decide) rfl) ?_
          refine Cv.go (pc' := 71) (go_aload_n (i := 0) (x := 0) dX5_set_70 rfl rfl) ?_
          refine Cv.go (pc' := 74) (go_getR (i := 1) cls5 (sx_k0 hS) (by decide) rfl lf_X5_11 (Or.inr ⟨_, rfl⟩) (sx_r0_1 hS) dX5_set_71) ?_
          refine Cv.go (pc' := 75) (go_iload_n (i := 2) (x := a2) dX5_set_74 rfl rfl) ?_
          refine Cv.gif fun g25 => ?_
          refine Cv.go (pc' := 76) (go_aaload (t := 9) (t0 := 2) (sx_k1 hS) (by decide) (fun _ => rfl) g25 (sx_e1 hS (vp_lt g25)).1 dX5_set_75) ?_
          have hf26 := (sx_e1 hS (vp_lt g25)).2
          refine Cv.go (pc' := 77) (go_iload_n (i := 1) (x := a1) dX5_set_76 rfl rfl) ?_
          refine Cv.go (pc' := 78) (go_iload_n (i := 3) (x := a3) dX5_set_77 rfl rfl) ?_
          refine Cv.bnd fun v27 m28 e29 => ?_
          have C30 := kc_X0_lay m22 (20 + a2.toNatClampNeg) a1 a3 hf26 v27 m28 e29
          refine Cv.go (pc' := 81) (st' := []) (go_callV (As := [.int a1, .int a3]) (st := []) C30 (by decide) ok_X0_lay li_X0_lay ls_X0_lay lm_X5_95 cls0 hf26 rfl rfl (Nat.le_of_ble_eq_true rfl) dX5_set_78) ?_
          have zm28 := C30.1.2.2 rfl
          have hS := hS.sh zm28
          have hf20 := sk zm28 hf20
          have hf26 := sk zm28 hf26
          refine Cv.go (pc' := 83) (go_iload (i := 4) (x := v21) dX5_set_81 rfl) ?_
          exact Cv.ret dX5_set_83 rfl
theorem kc_X5_isOf (m : Mem) (a0 : Int32) (a1 : Int32) : ∀ v mE, F_X5_isOf m a0 a1 = some (v, mE) → Con true kX5_isOf 0 [.int a0, .int a1] m (eZ v) mE := by
  refine Con.of (ini := false) (ls0 := [.int a0, .int a1]) (ri := .ireturn) (by decide) (by intro z; cases z) rfl (Nat.le_of_ble_eq_true rfl) (fun v mE _ => RetTy.z) ?_
  show Cv true (cX5_isOf, 2, RX5, 0, ((false, none) : IK)) .ireturn eZ (F_X5_isOf m a0 a1) m 0 [.int a0, .int a1] []
  unfold F_X5_isOf
  refine Cv.go (pc' := 1) (go_iload_n (i := 1) (x := a1) dX5_isOf_0 rfl rfl) ?_
  refine Cv.go (pc' := 4) (go_getT roLEAST lf_X5_77 dX5_isOf_1) ?_
  refine Cv.go (pc' := 5) (go_iload_n (i := 0) (x := a0) dX5_isOf_4 rfl rfl) ?_
  refine Cv.gif fun g1 => ?_
  refine Cv.go (pc' := 6) (go_rdT roLEAST g1 dX5_isOf_5) ?_
  refine Cv.ite (fun h2 => ?_) (fun h2 => ?_)
  · refine Cv.go (pc' := 22) (go_icmp_lt_t (tgt := 22) dX5_isOf_6 rfl h2) ?_
    refine Cv.go (pc' := 23) (go_iconst dX5_isOf_22 ic_0) ?_
    exact Cv.ret dX5_isOf_23 rfl
  · refine Cv.go (pc' := 9) (go_icmp_lt_f 22 dX5_isOf_6 rfl h2) ?_
    refine Cv.go (pc' := 10) (go_iload_n (i := 1) (x := a1) dX5_isOf_9 rfl rfl) ?_
    refine Cv.go (pc' := 13) (go_getT roMOST lf_X5_80 dX5_isOf_10) ?_
    refine Cv.go (pc' := 14) (go_iload_n (i := 0) (x := a0) dX5_isOf_13 rfl rfl) ?_
    refine Cv.gif fun g3 => ?_
    refine Cv.go (pc' := 15) (go_rdT roMOST g3 dX5_isOf_14) ?_
    refine Cv.ite (fun h4 => ?_) (fun h4 => ?_)
    · refine Cv.go (pc' := 22) (go_icmp_gt_t (tgt := 22) dX5_isOf_15 rfl h4) ?_
      refine Cv.go (pc' := 23) (go_iconst dX5_isOf_22 ic_0) ?_
      exact Cv.ret dX5_isOf_23 rfl
    · refine Cv.go (pc' := 18) (go_icmp_gt_f 22 dX5_isOf_15 rfl h4) ?_
      refine Cv.go (pc' := 19) (go_iconst dX5_isOf_18 ic_1) ?_
      refine Cv.go (pc' := 23) (go_goto (tgt := 23) dX5_isOf_19 rfl) ?_
      exact Cv.ret dX5_isOf_23 rfl
theorem kc_X5_coin (m : Mem) (a1 : Int32) (a2 : Int32) (a3 : Int32) (hS : ShX m) : ∀ v mE, F_X5_coin m a1 a2 a3 = some (v, mE) → Con true kX5_coin 1 [.ref 0, .int a1, .int a2, .int a3] m (eI v) mE := by
  refine Con.of (ini := false) (ls0 := [.ref 0, .int a1, .int a2, .int a3]) (ri := .ireturn) (by decide) (by intro z; cases z) rfl (Nat.le_of_ble_eq_true rfl) (fun v mE _ => RetTy.i) ?_
  show Cv true (cX5_coin, 4, RX5, 1, ((false, none) : IK)) .ireturn eI (F_X5_coin m a1 a2 a3) m 0 [.ref 0, .int a1, .int a2, .int a3] []
  unfold F_X5_coin
  refine Cv.go (pc' := 2) (go_bipush dX5_coin_0 ib_6) ?_
  refine Cv.go (pc' := 3) (go_iload_n (i := 1) (x := a1) dX5_coin_2 rfl rfl) ?_
  refine Cv.bnd fun v1 m2 e3 => ?_
  have C4 := kc_X5_isOf m (6 : Int32) a1 v1 m2 e3
  refine Cv.go (pc' := 6) (st' := [.int (bz v1)]) (go_callS (As := [.int (6 : Int32), .int a1]) (st := []) C4 (by decide) ok_X5_isOf lt_X5_isOf lm_X5_99 rfl rfl (Nat.le_of_ble_eq_true rfl) dX5_coin_3) ?_
  have zm2 := C4.1.2.2 rfl
  have hS := hS.sh zm2
  refine Cv.ite (fun h5 => ?_) (fun h5 => ?_)
  · refine Cv.go (pc' := 25) (go_if_eq_t (tgt := 25) dX5_coin_6 rfl h5) ?_
    refine Cv.go (pc' := 27) (go_bipush dX5_coin_25 ib_n2) ?_
    exact Cv.ret dX5_coin_27 rfl
  · refine Cv.go (pc' := 9) (go_if_eq_f 25 dX5_coin_6 rfl h5) ?_
    refine Cv.go (pc' := 10) (go_iconst dX5_coin_9 ic_1) ?_
    refine Cv.go (pc' := 11) (go_iload_n (i := 2) (x := a2) dX5_coin_10 rfl rfl) ?_
    refine Cv.bnd fun v6 m7 e8 => ?_
    have C9 := kc_X5_isOf m2 (1 : Int32) a2 v6 m7 e8
    refine Cv.go (pc' := 14) (st' := [.int (bz v6)]) (go_callS (As := [.int (1 : Int32), .int a2]) (st := []) C9 (by decide) ok_X5_isOf lt_X5_isOf lm_X5_99 rfl rfl (Nat.le_of_ble_eq_true rfl) dX5_coin_11) ?_
    have zm7 := C9.1.2.2 rfl
    have hS := hS.sh zm7
    refine Cv.ite (fun h10 => ?_) (fun h10 => ?_)
    · refine Cv.go (pc' := 25) (go_if_eq_t (tgt := 25) dX5_coin_14 rfl h10) ?_
      refine Cv.go (pc' := 27) (go_bipush dX5_coin_25 ib_n2) ?_
      exact Cv.ret dX5_coin_27 rfl
    · refine Cv.go (pc' := 17) (go_if_eq_f 25 dX5_coin_14 rfl h10) ?_
      refine Cv.go (pc' := 18) (go_iconst dX5_coin_17 ic_2) ?_
      refine Cv.go (pc' := 19) (go_iload_n (i := 3) (x := a3) dX5_coin_18 rfl rfl) ?_
      refine Cv.bnd fun v11 m12 e13 => ?_
      have C14 := kc_X5_isOf m7 (2 : Int32) a3 v11 m12 e13
      refine Cv.go (pc' := 22) (st' := [.int (bz v11)]) (go_callS (As := [.int (2 : Int32), .int a3]) (st := []) C14 (by decide) ok_X5_isOf lt_X5_isOf lm_X5_99 rfl rfl (Nat.le_of_ble_eq_true rfl) dX5_coin_19) ?_
      have zm12 := C14.1.2.2 rfl
      have hS := hS.sh zm12
      refine Cv.ite (fun h15 => ?_) (fun h15 => ?_)
      · refine Cv.go (pc' := 25) (go_if_ne_f 28 dX5_coin_22 rfl h15) ?_
        refine Cv.go (pc' := 27) (go_bipush dX5_coin_25 ib_n2) ?_
        exact Cv.ret dX5_coin_27 rfl
      · refine Cv.go (pc' := 28) (go_if_ne_t (tgt := 28) dX5_coin_22 rfl h15) ?_
        refine Cv.go (pc' := 29) (go_aload_n (i := 0) (x := 0) dX5_coin_28 rfl rfl) ?_
        refine Cv.go (pc' := 32) (go_getI (i := 2) cls5 (sx_k0 hS) (by decide) rfl lf_X5_103 (by decide) dX5_coin_29) ?_
        refine Cv.go (pc' := 33) (go_aload_n (i := 0) (x := 0) dX5_coin_32 rfl rfl) ?_
        refine Cv.go (pc' := 36) (go_getR (i := 1) cls5 (sx_k0 hS) (by decide) rfl lf_X5_11 (Or.inr ⟨_, rfl⟩) (sx_r0_1 hS) dX5_coin_33) ?_
        refine Cv.go (pc' := 37) (go_alen (t := 9) (t0 := 2) (sx_k1 hS) (by decide) (fun _ => rfl) dX5_coin_36) ?_
        refine Cv.ite (fun h16 => ?_) (fun h16 => ?_)
        · refine Cv.go (pc' := 43) (go_icmp_lt_t (tgt := 43) dX5_coin_37 rfl h16) ?_
          refine Cv.go (pc' := 44) (go_aload_n (i := 0) (x := 0) dX5_coin_43 rfl rfl) ?_
          refine Cv.go (pc' := 47) (go_getR (i := 1) cls5 (sx_k0 hS) (by decide) rfl lf_X5_11 (Or.inr ⟨_, rfl⟩) (sx_r0_1 hS) dX5_coin_44) ?_
          refine Cv.go (pc' := 48) (go_aload_n (i := 0) (x := 0) dX5_coin_47 rfl rfl) ?_
          refine Cv.go (pc' := 51) (go_getI (i := 2) cls5 (sx_k0 hS) (by decide) rfl lf_X5_103 (by decide) dX5_coin_48) ?_
          refine Cv.gif fun g17 => ?_
          refine Cv.go (pc' := 52) (go_aaload (t := 9) (t0 := 2) (sx_k1 hS) (by decide) (fun _ => rfl) g17 (sx_e1 hS (vp_lt g17)).1 dX5_coin_51) ?_
          have hf18 := (sx_e1 hS (vp_lt g17)).2
          refine Cv.go (pc' := 53) (go_iload_n (i := 1) (x := a1) dX5_coin_52 rfl rfl) ?_
          refine Cv.go (pc' := 54) (go_iload_n (i := 2) (x := a2) dX5_coin_53 rfl rfl) ?_
          refine Cv.go (pc' := 55) (go_iload_n (i := 3) (x := a3) dX5_coin_54 rfl rfl) ?_
          refine Cv.bnd fun v19 m20 e21 => ?_
          have C22 := kc_X0_come m12 (20 + (mD m12 0 2).toNatClampNeg) a1 a2 a3 hf18 v19 m20 e21
          refine Cv.go (pc' := 58) (st' := []) (go_callV (As := [.int a1, .int a2, .int a3]) (st := []) C22 (by decide) ok_X0_come li_X0_come ls_X0_come lm_X5_106 cls0 hf18 rfl rfl (Nat.le_of_ble_eq_true rfl) dX5_coin_55) ?_
          have zm20 := C22.1.2.2 rfl
          have hS := hS.sh zm20
          have hf18 := sk zm20 hf18
          refine Cv.go (pc' := 59) (go_aload_n (i := 0) (x := 0) dX5_coin_58 rfl rfl) ?_
          refine Cv.go (pc' := 60) (go_dup_a dX5_coin_59) ?_
          refine Cv.go (pc' := 63) (go_getI (i := 2) cls5 (sx_k0 hS) (by decide) rfl lf_X5_103 (by decide) dX5_coin_60) ?_
          refine Cv.go (pc' := 64) (go_iconst dX5_coin_63 ic_1) ?_
          refine Cv.go (pc' := 65) (go_iadd dX5_coin_64) ?_
          refine Cv.go (pc' := 68) (go_putI (i := 2) cls5 (sx_k0 hS) (by decide) rfl lf_X5_103 (by decide) rfl rfl rfl dX5_coin_65) ?_
          refine Cv.namM fun m23 em23 => ?_
          have zm23 : SameSh m20 m23 := em23 ▸ SameSh.d
          have hS := hS.sh zm23
          have hf18 := sk zm23 hf18
          refine Cv.go (pc' := 69) (go_aload_n (i := 0) (x := 0) dX5_coin_68 rfl rfl) ?_
          refine Cv.go (pc' := 72) (go_getI (i := 2) cls5 (sx_k0 hS) (by decide) rfl lf_X5_103 (by decide) dX5_coin_69) ?_
          refine Cv.go (pc' := 73) (go_iconst dX5_coin_72 ic_1) ?_
          refine Cv.go (pc' := 74) (go_isub dX5_coin_73) ?_
          exact Cv.ret dX5_coin_74 rfl
        · refine Cv.go (pc' := 40) (go_icmp_lt_f 43 dX5_coin_37 rfl h16) ?_
          refine Cv.go (pc' := 42) (go_bipush dX5_coin_40 ib_n4) ?_
          exact Cv.ret dX5_coin_42 rfl
theorem kc_X5_theRule (m : Mem) (hS : ShX m) : ∀ v mE, F_X5_theRule m = some (v, mE) → Con true kX5_theRule 0 [.ref 0] m (eR v) mE := by
  refine Con.of (ini := false) (ls0 := [.ref 0]) (ri := .areturn) (by decide) (by intro z; cases z) rfl (Nat.le_of_ble_eq_true rfl) (fun v mE _ => RetTy.o) ?_
  show Cv true (cX5_theRule, 1, RX5, 0, ((false, none) : IK)) .areturn eR (F_X5_theRule m) m 0 [.ref 0] []
  unfold F_X5_theRule
  refine Cv.go (pc' := 1) (go_aload_n (i := 0) (x := 0) dX5_theRule_0 rfl rfl) ?_
  refine Cv.go (pc' := 4) (go_getR (i := 4) cls5 (sx_k0 hS) (by decide) rfl lf_X5_24 (Or.inr ⟨_, rfl⟩) (sx_r0_4 hS) dX5_theRule_1) ?_
  refine Cv.go (pc' := 5) (go_aload_n (i := 0) (x := 0) dX5_theRule_4 rfl rfl) ?_
  refine Cv.go (pc' := 8) (go_getI (i := 6) cls5 (sx_k0 hS) (by decide) rfl lf_X5_142 (by decide) dX5_theRule_5) ?_
  refine Cv.gif fun g1 => ?_
  refine Cv.gref fun r3 e4 => ?_
  refine Cv.go (pc' := 9) (go_aaload (t := 11) (t0 := 4) (sx_k6 hS) (by decide) (fun _ => rfl) g1 e4 dX5_theRule_8) ?_
  have hf2 := sx_e6 hS e4
  exact Cv.ret dX5_theRule_9 rfl
theorem kc_X5_isWholeBehind (m : Mem) (c1 : Nat) (a2 : Int32) (hS : ShX m) (hp1 : mK m c1 = (0, 0)) : ∀ v mE, F_X5_isWholeBehind m c1 a2 = some (v, mE) → Con true kX5_isWholeBehind 3 [.ref 0, .ref c1, .int a2] m (eZ v) mE := by
  refine Con.of (ini := false) (ls0 := [.ref 0, .ref c1, .int a2, .null]) (ri := .ireturn) (by decide) (by intro z; cases z) rfl (Nat.le_of_ble_eq_true rfl) (fun v mE _ => RetTy.z) ?_
  show Cv true (cX5_isWholeBehind, 4, RX5, 3, ((false, none) : IK)) .ireturn eZ (F_X5_isWholeBehind m c1 a2) m 0 [.ref 0, .ref c1, .int a2, .null] []
  unfold F_X5_isWholeBehind
  refine Cv.go (pc' := 1) (go_aload_n (i := 1) (x := c1) dX5_isWholeBehind_0 rfl rfl) ?_
  refine Cv.go (pc' := 2) (go_iload_n (i := 2) (x := a2) dX5_isWholeBehind_1 rfl rfl) ?_
  refine Cv.bnd fun v1 m2 e3 => ?_
  have C4 := kc_X0_ageBehind m c1 a2 hp1 v1 m2 e3
  refine Cv.go (pc' := 5) (st' := [.int v1]) (go_callV (As := [.int a2]) (st := []) C4 (by decide) ok_X0_ageBehind li_X0_ageBehind ls_X0_ageBehind lm_X5_145 cls0 hp1 rfl rfl (Nat.le_of_ble_eq_true rfl) dX5_isWholeBehind_2) ?_
  have zm2 := C4.1.2.2 rfl
  have hS := hS.sh zm2
  have hp1 := sk zm2 hp1
  refine Cv.go (pc' := 6) (ls' := [.ref 0, .ref c1, .int a2, .int v1]) (go_istore_n dX5_isWholeBehind_5 rfl (by decide) rfl) ?_
  refine Cv.go (pc' := 7) (go_iload_n (i := 3) (x := v1) dX5_isWholeBehind_6 rfl rfl) ?_
  refine Cv.go (pc' := 8) (go_aload_n (i := 0) (x := 0) dX5_isWholeBehind_7 rfl rfl) ?_
  refine Cv.bnd fun v5 m6 e7 => ?_
  have C8 := kc_X5_theRule m2 hS v5 m6 e7
  refine Cv.go (pc' := 11) (st' := [.ref v5, .int v1]) (go_callV (As := []) (st := [.int v1]) C8 (by decide) ok_X5_theRule li_X5_theRule ls_X5_theRule lm_X5_111 cls5 (sx_k0 hS) rfl rfl (Nat.le_of_ble_eq_true rfl) dX5_isWholeBehind_8) ?_
  have zm6 := C8.1.2.2 rfl
  have hS := hS.sh zm6
  have hp1 := sk zm6 hp1
  have hf9 := theRule_isT (zm6) e7 hS
  refine Cv.go (pc' := 12) (go_aload_n (i := 1) (x := c1) dX5_isWholeBehind_11 rfl rfl) ?_
  refine Cv.go (pc' := 13) (go_iload_n (i := 3) (x := v1) dX5_isWholeBehind_12 rfl rfl) ?_
  refine Cv.go (pc' := 14) (go_aload_n (i := 0) (x := 0) dX5_isWholeBehind_13 rfl rfl) ?_
  refine Cv.go (pc' := 17) (go_getI (i := 0) cls5 (sx_k0 hS) (by decide) rfl lf_X5_83 (by decide) dX5_isWholeBehind_14) ?_
  refine Cv.go (pc' := 18) (go_iload_n (i := 2) (x := a2) dX5_isWholeBehind_17 rfl rfl) ?_
  refine Cv.go (pc' := 19) (go_iadd dX5_isWholeBehind_18) ?_
  refine Cv.bnd fun v10 m11 e12 => ?_
  have C13 := kc_X4_turnsOf m6 v5 c1 v1 ((mD m6 0 0) + a2) hf9 hp1 v10 m11 e12
  refine Cv.go (pc' := 22) (st' := [.int v10, .int v1]) (go_callV (As := [.ref c1, .int v1, .int ((mD m6 0 0) + a2)]) (st := [.int v1]) C13 (by decide) ok_X4_turnsOf li_X4_turnsOf ls_X4_turnsOf lm_X5_118 cls4 hf9.1 rfl rfl (Nat.le_of_ble_eq_true rfl) dX5_isWholeBehind_19) ?_
  have zm11 := C13.1.2.2 rfl
  have hS := hS.sh zm11
  have hp1 := sk zm11 hp1
  have hf9 := hf9.sh zm11
  refine Cv.ite (fun h14 => ?_) (fun h14 => ?_)
  · refine Cv.go (pc' := 29) (go_icmp_ge_t (tgt := 29) dX5_isWholeBehind_22 rfl h14) ?_
    refine Cv.go (pc' := 30) (go_iconst dX5_isWholeBehind_29 ic_0) ?_
    exact Cv.ret dX5_isWholeBehind_30 rfl
  · refine Cv.go (pc' := 25) (go_icmp_ge_f 29 dX5_isWholeBehind_22 rfl h14) ?_
    refine Cv.go (pc' := 26) (go_iconst dX5_isWholeBehind_25 ic_1) ?_
    refine Cv.go (pc' := 30) (go_goto (tgt := 30) dX5_isWholeBehind_26 rfl) ?_
    exact Cv.ret dX5_isWholeBehind_30 rfl
theorem kc_X5_worthBehind (m : Mem) (c1 : Nat) (a2 : Int32) (hS : ShX m) (hp1 : mK m c1 = (0, 0)) : ∀ v mE, F_X5_worthBehind m c1 a2 = some (v, mE) → Con true kX5_worthBehind 4 [.ref 0, .ref c1, .int a2] m (eI v) mE := by
  refine Con.of (ini := false) (ls0 := [.ref 0, .ref c1, .int a2]) (ri := .ireturn) (by decide) (by intro z; cases z) rfl (Nat.le_of_ble_eq_true rfl) (fun v mE _ => RetTy.i) ?_
  show Cv true (cX5_worthBehind, 3, RX5, 4, ((false, none) : IK)) .ireturn eI (F_X5_worthBehind m c1 a2) m 0 [.ref 0, .ref c1, .int a2] []
  unfold F_X5_worthBehind
  refine Cv.go (pc' := 1) (go_aload_n (i := 0) (x := 0) dX5_worthBehind_0 rfl rfl) ?_
  refine Cv.bnd fun v1 m2 e3 => ?_
  have C4 := kc_X5_theRule m hS v1 m2 e3
  refine Cv.go (pc' := 4) (st' := [.ref v1]) (go_callV (As := []) (st := []) C4 (by decide) ok_X5_theRule li_X5_theRule ls_X5_theRule lm_X5_111 cls5 (sx_k0 hS) rfl rfl (Nat.le_of_ble_eq_true rfl) dX5_worthBehind_1) ?_
  have zm2 := C4.1.2.2 rfl
  have hS := hS.sh zm2
  have hp1 := sk zm2 hp1
  have hf5 := theRule_isT (zm2) e3 hS
  refine Cv.go (pc' := 5) (go_aload_n (i := 1) (x := c1) dX5_worthBehind_4 rfl rfl) ?_
  refine Cv.go (pc' := 6) (go_aload_n (i := 1) (x := c1) dX5_worthBehind_5 rfl rfl) ?_
  refine Cv.go (pc' := 7) (go_iload_n (i := 2) (x := a2) dX5_worthBehind_6 rfl rfl) ?_
  refine Cv.bnd fun v6 m7 e8 => ?_
  have C9 := kc_X0_ageBehind m2 c1 a2 hp1 v6 m7 e8
  refine Cv.go (pc' := 10) (st' := [.int v6, .ref c1, .ref v1]) (go_callV (As := [.int a2]) (st := [.ref c1, .ref v1]) C9 (by decide) ok_X0_ageBehind li_X0_ageBehind ls_X0_ageBehind lm_X5_145 cls0 hp1 rfl rfl (Nat.le_of_ble_eq_true rfl) dX5_worthBehind_7) ?_
  have zm7 := C9.1.2.2 rfl
  have hS := hS.sh zm7
  have hp1 := sk zm7 hp1
  have hf5 := hf5.sh zm7
  refine Cv.go (pc' := 11) (go_aload_n (i := 0) (x := 0) dX5_worthBehind_10 rfl rfl) ?_
  refine Cv.go (pc' := 14) (go_getI (i := 0) cls5 (sx_k0 hS) (by decide) rfl lf_X5_83 (by decide) dX5_worthBehind_11) ?_
  refine Cv.go (pc' := 15) (go_iload_n (i := 2) (x := a2) dX5_worthBehind_14 rfl rfl) ?_
  refine Cv.go (pc' := 16) (go_iadd dX5_worthBehind_15) ?_
  refine Cv.bnd fun v10 m11 e12 => ?_
  have C13 := kc_X4_worthOf m7 v1 c1 v6 ((mD m7 0 0) + a2) hf5 hp1 v10 m11 e12
  refine Cv.go (pc' := 19) (st' := [.int v10]) (go_callV (As := [.ref c1, .int v6, .int ((mD m7 0 0) + a2)]) (st := []) C13 (by decide) ok_X4_worthOf li_X4_worthOf ls_X4_worthOf lm_X5_250 cls4 hf5.1 rfl rfl (Nat.le_of_ble_eq_true rfl) dX5_worthBehind_16) ?_
  have zm11 := C13.1.2.2 rfl
  have hS := hS.sh zm11
  have hp1 := sk zm11 hp1
  have hf5 := hf5.sh zm11
  exact Cv.ret dX5_worthBehind_19 rfl
theorem kc_X5_told (m : Mem) (a1 : Int32) (a2 : Int32) (hS : ShX m) : ∀ v mE, F_X5_told m a1 a2 = some (v, mE) → Con true kX5_told 5 [.ref 0, .int a1, .int a2] m (eI v) mE := by
  refine Con.of (ini := false) (ls0 := [.ref 0, .int a1, .int a2, .null]) (ri := .ireturn) (by decide) (by intro z; cases z) rfl (Nat.le_of_ble_eq_true rfl) (fun v mE _ => RetTy.i) ?_
  show Cv true (cX5_told, 4, RX5, 5, ((false, none) : IK)) .ireturn eI (F_X5_told m a1 a2) m 0 [.ref 0, .int a1, .int a2, .null] []
  unfold F_X5_told
  refine Cv.go (pc' := 1) (go_iload_n (i := 2) (x := a2) dX5_told_0 rfl rfl) ?_
  refine Cv.ite (fun h1 => ?_) (fun h1 => ?_)
  · refine Cv.go (pc' := 4) (go_if_ne_f 9 dX5_told_1 rfl h1) ?_
    refine Cv.go (pc' := 5) (go_aload_n (i := 0) (x := 0) dX5_told_4 rfl rfl) ?_
    refine Cv.go (pc' := 8) (go_getI (i := 0) cls5 (sx_k0 hS) (by decide) rfl lf_X5_83 (by decide) dX5_told_5) ?_
    exact Cv.ret dX5_told_8 rfl
  · refine Cv.go (pc' := 9) (go_if_ne_t (tgt := 9) dX5_told_1 rfl h1) ?_
    refine Cv.go (pc' := 10) (go_aload_n (i := 0) (x := 0) dX5_told_9 rfl rfl) ?_
    refine Cv.go (pc' := 11) (go_iload_n (i := 1) (x := a1) dX5_told_10 rfl rfl) ?_
    refine Cv.bnd fun v2 m3 e4 => ?_
    have C5 := kc_X5_isCoin m a1 hS v2 m3 e4
    refine Cv.go (pc' := 14) (st' := [.int (bz v2)]) (go_callV (As := [.int a1]) (st := []) C5 (by decide) ok_X5_isCoin li_X5_isCoin ls_X5_isCoin lm_X5_87 cls5 (sx_k0 hS) rfl rfl (Nat.le_of_ble_eq_true rfl) dX5_told_11) ?_
    have zm3 := C5.1.2.2 rfl
    have hS := hS.sh zm3
    refine Cv.ite (fun h6 => ?_) (fun h6 => ?_)
    · refine Cv.go (pc' := 17) (go_if_ne_f 20 dX5_told_14 rfl h6) ?_
      refine Cv.go (pc' := 19) (go_ldc dX5_told_17 lc_X5_110) ?_
      exact Cv.ret dX5_told_19 rfl
    · refine Cv.go (pc' := 20) (go_if_ne_t (tgt := 20) dX5_told_14 rfl h6) ?_
      refine Cv.go (pc' := 21) (go_aload_n (i := 0) (x := 0) dX5_told_20 rfl rfl) ?_
      refine Cv.go (pc' := 24) (go_getR (i := 1) cls5 (sx_k0 hS) (by decide) rfl lf_X5_11 (Or.inr ⟨_, rfl⟩) (sx_r0_1 hS) dX5_told_21) ?_
      refine Cv.go (pc' := 25) (go_iload_n (i := 1) (x := a1) dX5_told_24 rfl rfl) ?_
      refine Cv.gif fun g7 => ?_
      refine Cv.go (pc' := 26) (go_aaload (t := 9) (t0 := 2) (sx_k1 hS) (by decide) (fun _ => rfl) g7 (sx_e1 hS (vp_lt g7)).1 dX5_told_25) ?_
      have hf8 := (sx_e1 hS (vp_lt g7)).2
      refine Cv.go (pc' := 27) (ls' := [.ref 0, .int a1, .int a2, .ref (20 + a1.toNatClampNeg)]) (go_astore_n dX5_told_26 rfl (by decide) rfl) ?_
      refine Cv.go (pc' := 28) (go_iload_n (i := 2) (x := a2) dX5_told_27 rfl rfl) ?_
      refine Cv.ite (fun h9 => ?_) (fun h9 => ?_)
      · refine Cv.go (pc' := 64) (go_tsIn (off := 36) (tgt := 64) dX5_told_28 (by rw [h9]; decide) (by rw [h9]; decide) (by rw [h9]; rfl) rfl) ?_
        refine Cv.go (pc' := 65) (go_aload_n (i := 0) (x := 0) dX5_told_64 rfl rfl) ?_
        refine Cv.bnd fun v10 m11 e12 => ?_
        have C13 := kc_X5_theRule m3 hS v10 m11 e12
        refine Cv.go (pc' := 68) (st' := [.ref v10]) (go_callV (As := []) (st := []) C13 (by decide) ok_X5_theRule li_X5_theRule ls_X5_theRule lm_X5_111 cls5 (sx_k0 hS) rfl rfl (Nat.le_of_ble_eq_true rfl) dX5_told_65) ?_
        have zm11 := C13.1.2.2 rfl
        have hS := hS.sh zm11
        have hf8 := sk zm11 hf8
        have hf14 := theRule_isT (zm11) e12 hS
        refine Cv.go (pc' := 69) (go_aload_n (i := 3) (x := 20 + a1.toNatClampNeg) dX5_told_68 rfl rfl) ?_
        refine Cv.go (pc' := 70) (go_aload_n (i := 3) (x := 20 + a1.toNatClampNeg) dX5_told_69 rfl rfl) ?_
        refine Cv.go (pc' := 73) (go_getI (i := 4) cls0 hf8 (by decide) rfl lf_X5_115 (by decide) dX5_told_70) ?_
        refine Cv.go (pc' := 74) (go_aload_n (i := 0) (x := 0) dX5_told_73 rfl rfl) ?_
        refine Cv.go (pc' := 77) (go_getI (i := 0) cls5 (sx_k0 hS) (by decide) rfl lf_X5_83 (by decide) dX5_told_74) ?_
        refine Cv.bnd fun v15 m16 e17 => ?_
        have C18 := kc_X4_turnsOf m11 v10 (20 + a1.toNatClampNeg) (mD m11 (20 + a1.toNatClampNeg) 4) (mD m11 0 0) hf14 hf8 v15 m16 e17
        refine Cv.go (pc' := 80) (st' := [.int v15]) (go_callV (As := [.ref (20 + a1.toNatClampNeg), .int (mD m11 (20 + a1.toNatClampNeg) 4), .int (mD m11 0 0)]) (st := []) C18 (by decide) ok_X4_turnsOf li_X4_turnsOf ls_X4_turnsOf lm_X5_118 cls4 hf14.1 rfl rfl (Nat.le_of_ble_eq_true rfl) dX5_told_77) ?_
        have zm16 := C18.1.2.2 rfl
        have hS := hS.sh zm16
        have hf8 := sk zm16 hf8
        have hf14 := hf14.sh zm16
        exact Cv.ret dX5_told_80 rfl
      · refine Cv.ite (fun h19 => ?_) (fun h19 => ?_)
        · refine Cv.go (pc' := 81) (go_tsIn (off := 53) (tgt := 81) dX5_told_28 (by rw [h19]; decide) (by rw [h19]; decide) (by rw [h19]; rfl) rfl) ?_
          refine Cv.go (pc' := 82) (go_aload_n (i := 0) (x := 0) dX5_told_81 rfl rfl) ?_
          refine Cv.bnd fun v20 m21 e22 => ?_
          have C23 := kc_X5_theRule m3 hS v20 m21 e22
          refine Cv.go (pc' := 85) (st' := [.ref v20]) (go_callV (As := []) (st := []) C23 (by decide) ok_X5_theRule li_X5_theRule ls_X5_theRule lm_X5_111 cls5 (sx_k0 hS) rfl rfl (Nat.le_of_ble_eq_true rfl) dX5_told_82) ?_
          have zm21 := C23.1.2.2 rfl
          have hS := hS.sh zm21
          have hf8 := sk zm21 hf8
          have hf24 := theRule_isT (zm21) e22 hS
          refine Cv.go (pc' := 86) (go_aload_n (i := 3) (x := 20 + a1.toNatClampNeg) dX5_told_85 rfl rfl) ?_
          refine Cv.go (pc' := 87) (go_aload_n (i := 3) (x := 20 + a1.toNatClampNeg) dX5_told_86 rfl rfl) ?_
          refine Cv.go (pc' := 90) (go_getI (i := 4) cls0 hf8 (by decide) rfl lf_X5_115 (by decide) dX5_told_87) ?_
          refine Cv.go (pc' := 91) (go_aload_n (i := 0) (x := 0) dX5_told_90 rfl rfl) ?_
          refine Cv.go (pc' := 94) (go_getI (i := 0) cls5 (sx_k0 hS) (by decide) rfl lf_X5_83 (by decide) dX5_told_91) ?_
          refine Cv.bnd fun v25 m26 e27 => ?_
          have C28 := kc_X4_givesOf m21 v20 (20 + a1.toNatClampNeg) (mD m21 (20 + a1.toNatClampNeg) 4) (mD m21 0 0) hf24 hf8 v25 m26 e27
          refine Cv.go (pc' := 97) (st' := [.int v25]) (go_callV (As := [.ref (20 + a1.toNatClampNeg), .int (mD m21 (20 + a1.toNatClampNeg) 4), .int (mD m21 0 0)]) (st := []) C28 (by decide) ok_X4_givesOf li_X4_givesOf ls_X4_givesOf lm_X5_122 cls4 hf24.1 rfl rfl (Nat.le_of_ble_eq_true rfl) dX5_told_94) ?_
          have zm26 := C28.1.2.2 rfl
          have hS := hS.sh zm26
          have hf8 := sk zm26 hf8
          have hf24 := hf24.sh zm26
          exact Cv.ret dX5_told_97 rfl
        · refine Cv.ite (fun h29 => ?_) (fun h29 => ?_)
          · refine Cv.go (pc' := 98) (go_tsIn (off := 70) (tgt := 98) dX5_told_28 (by rw [h29]; decide) (by rw [h29]; decide) (by rw [h29]; rfl) rfl) ?_
            refine Cv.go (pc' := 99) (go_aload_n (i := 0) (x := 0) dX5_told_98 rfl rfl) ?_
            refine Cv.bnd fun v30 m31 e32 => ?_
            have C33 := kc_X5_theRule m3 hS v30 m31 e32
            refine Cv.go (pc' := 102) (st' := [.ref v30]) (go_callV (As := []) (st := []) C33 (by decide) ok_X5_theRule li_X5_theRule ls_X5_theRule lm_X5_111 cls5 (sx_k0 hS) rfl rfl (Nat.le_of_ble_eq_true rfl) dX5_told_99) ?_
            have zm31 := C33.1.2.2 rfl
            have hS := hS.sh zm31
            have hf8 := sk zm31 hf8
            have hf34 := theRule_isT (zm31) e32 hS
            refine Cv.go (pc' := 103) (go_aload_n (i := 3) (x := 20 + a1.toNatClampNeg) dX5_told_102 rfl rfl) ?_
            refine Cv.go (pc' := 104) (go_aload_n (i := 3) (x := 20 + a1.toNatClampNeg) dX5_told_103 rfl rfl) ?_
            refine Cv.go (pc' := 107) (go_getI (i := 4) cls0 hf8 (by decide) rfl lf_X5_115 (by decide) dX5_told_104) ?_
            refine Cv.go (pc' := 108) (go_aload_n (i := 0) (x := 0) dX5_told_107 rfl rfl) ?_
            refine Cv.go (pc' := 111) (go_getI (i := 0) cls5 (sx_k0 hS) (by decide) rfl lf_X5_83 (by decide) dX5_told_108) ?_
            refine Cv.bnd fun v35 m36 e37 => ?_
            have C38 := kc_X4_goesOffOf m31 v30 (20 + a1.toNatClampNeg) (mD m31 (20 + a1.toNatClampNeg) 4) (mD m31 0 0) hf34 hf8 v35 m36 e37
            refine Cv.go (pc' := 114) (st' := [.int v35]) (go_callV (As := [.ref (20 + a1.toNatClampNeg), .int (mD m31 (20 + a1.toNatClampNeg) 4), .int (mD m31 0 0)]) (st := []) C38 (by decide) ok_X4_goesOffOf li_X4_goesOffOf ls_X4_goesOffOf lm_X5_125 cls4 hf34.1 rfl rfl (Nat.le_of_ble_eq_true rfl) dX5_told_111) ?_
            have zm36 := C38.1.2.2 rfl
            have hS := hS.sh zm36
            have hf8 := sk zm36 hf8
            have hf34 := hf34.sh zm36
            exact Cv.ret dX5_told_114 rfl
          · refine Cv.ite (fun h39 => ?_) (fun h39 => ?_)
            · refine Cv.go (pc' := 115) (go_tsIn (off := 87) (tgt := 115) dX5_told_28 (by rw [h39]; decide) (by rw [h39]; decide) (by rw [h39]; rfl) rfl) ?_
              refine Cv.go (pc' := 116) (go_aload_n (i := 0) (x := 0) dX5_told_115 rfl rfl) ?_
              refine Cv.go (pc' := 117) (go_aload_n (i := 3) (x := 20 + a1.toNatClampNeg) dX5_told_116 rfl rfl) ?_
              refine Cv.go (pc' := 118) (go_iconst dX5_told_117 ic_0) ?_
              refine Cv.bnd fun v40 m41 e42 => ?_
              have C43 := kc_X5_isWholeBehind m3 (20 + a1.toNatClampNeg) (0 : Int32) hS hf8 v40 m41 e42
              refine Cv.go (pc' := 121) (st' := [.int (bz v40)]) (go_callV (As := [.ref (20 + a1.toNatClampNeg), .int (0 : Int32)]) (st := []) C43 (by decide) ok_X5_isWholeBehind li_X5_isWholeBehind ls_X5_isWholeBehind lm_X5_128 cls5 (sx_k0 hS) rfl rfl (Nat.le_of_ble_eq_true rfl) dX5_told_118) ?_
              have zm41 := C43.1.2.2 rfl
              have hS := hS.sh zm41
              have hf8 := sk zm41 hf8
              refine Cv.ite (fun h44 => ?_) (fun h44 => ?_)
              · refine Cv.go (pc' := 128) (go_if_eq_t (tgt := 128) dX5_told_121 rfl h44) ?_
                refine Cv.go (pc' := 129) (go_iconst dX5_told_128 ic_0) ?_
                exact Cv.ret dX5_told_129 rfl
              · refine Cv.go (pc' := 124) (go_if_eq_f 128 dX5_told_121 rfl h44) ?_
                refine Cv.go (pc' := 125) (go_iconst dX5_told_124 ic_1) ?_
                refine Cv.go (pc' := 129) (go_goto (tgt := 129) dX5_told_125 rfl) ?_
                exact Cv.ret dX5_told_129 rfl
            · refine Cv.ite (fun h45 => ?_) (fun h45 => ?_)
              · refine Cv.go (pc' := 130) (go_tsIn (off := 102) (tgt := 130) dX5_told_28 (by rw [h45]; decide) (by rw [h45]; decide) (by rw [h45]; rfl) rfl) ?_
                refine Cv.go (pc' := 131) (go_aload_n (i := 0) (x := 0) dX5_told_130 rfl rfl) ?_
                refine Cv.go (pc' := 132) (go_aload_n (i := 3) (x := 20 + a1.toNatClampNeg) dX5_told_131 rfl rfl) ?_
                refine Cv.go (pc' := 133) (go_iconst dX5_told_132 ic_0) ?_
                refine Cv.bnd fun v46 m47 e48 => ?_
                have C49 := kc_X5_worthBehind m3 (20 + a1.toNatClampNeg) (0 : Int32) hS hf8 v46 m47 e48
                refine Cv.go (pc' := 136) (st' := [.int v46]) (go_callV (As := [.ref (20 + a1.toNatClampNeg), .int (0 : Int32)]) (st := []) C49 (by decide) ok_X5_worthBehind li_X5_worthBehind ls_X5_worthBehind lm_X5_132 cls5 (sx_k0 hS) rfl rfl (Nat.le_of_ble_eq_true rfl) dX5_told_133) ?_
                have zm47 := C49.1.2.2 rfl
                have hS := hS.sh zm47
                have hf8 := sk zm47 hf8
                exact Cv.ret dX5_told_136 rfl
              · refine Cv.go (pc' := 137) (go_tsOut (tgt := 137) dX5_told_28 (by have n0 : (a2).toInt ≠ 7 := fun z => h9 (Int32.toInt_inj.mp (z.trans (by decide))); have n1 : (a2).toInt ≠ 8 := fun z => h19 (Int32.toInt_inj.mp (z.trans (by decide))); have n2 : (a2).toInt ≠ 9 := fun z => h29 (Int32.toInt_inj.mp (z.trans (by decide))); have n3 : (a2).toInt ≠ 10 := fun z => h39 (Int32.toInt_inj.mp (z.trans (by decide))); have n4 : (a2).toInt ≠ 11 := fun z => h45 (Int32.toInt_inj.mp (z.trans (by decide))); omega) rfl) ?_
                refine Cv.go (pc' := 138) (go_iload_n (i := 2) (x := a2) dX5_told_137 rfl rfl) ?_
                refine Cv.go (pc' := 139) (go_iconst dX5_told_138 ic_1) ?_
                refine Cv.go (pc' := 141) (go_bipush dX5_told_139 ib_6) ?_
                refine Cv.bnd fun v50 m51 e52 => ?_
                have C53 := kc_X5_isBetween m3 a2 (1 : Int32) (6 : Int32) v50 m51 e52
                refine Cv.go (pc' := 144) (st' := [.int (bz v50)]) (go_callS (As := [.int a2, .int (1 : Int32), .int (6 : Int32)]) (st := []) C53 (by decide) ok_X5_isBetween lt_X5_isBetween lm_X5_73 rfl rfl (Nat.le_of_ble_eq_true rfl) dX5_told_141) ?_
                have zm51 := C53.1.2.2 rfl
                have hS := hS.sh zm51
                have hf8 := sk zm51 hf8
                refine Cv.ite (fun h54 => ?_) (fun h54 => ?_)
                · refine Cv.go (pc' := 155) (go_if_eq_t (tgt := 155) dX5_told_144 rfl h54) ?_
                  refine Cv.go (pc' := 157) (go_ldc dX5_told_155 lc_X5_110) ?_
                  exact Cv.ret dX5_told_157 rfl
                · refine Cv.go (pc' := 147) (go_if_eq_f 155 dX5_told_144 rfl h54) ?_
                  refine Cv.go (pc' := 148) (go_aload_n (i := 3) (x := 20 + a1.toNatClampNeg) dX5_told_147 rfl rfl) ?_
                  refine Cv.go (pc' := 149) (go_iload_n (i := 2) (x := a2) dX5_told_148 rfl rfl) ?_
                  refine Cv.bnd fun v55 m56 e57 => ?_
                  have C58 := kc_X0_part m51 (20 + a1.toNatClampNeg) a2 hf8 v55 m56 e57
                  refine Cv.go (pc' := 152) (st' := [.int v55]) (go_callV (As := [.int a2]) (st := []) C58 (by decide) ok_X0_part li_X0_part ls_X0_part lm_X5_91 cls0 hf8 rfl rfl (Nat.le_of_ble_eq_true rfl) dX5_told_149) ?_
                  have zm56 := C58.1.2.2 rfl
                  have hS := hS.sh zm56
                  have hf8 := sk zm56 hf8
                  refine Cv.go (pc' := 157) (go_goto (tgt := 157) dX5_told_152 rfl) ?_
                  exact Cv.ret dX5_told_157 rfl
theorem kc_X5_feed (m : Mem) (a1 : Int32) (hS : ShX m) : ∀ v mE, F_X5_feed m a1 = some (v, mE) → Con true kX5_feed 1 [.ref 0, .int a1] m (eI v) mE := by
  refine Con.of (ini := false) (ls0 := [.ref 0, .int a1]) (ri := .ireturn) (by decide) (by intro z; cases z) rfl (Nat.le_of_ble_eq_true rfl) (fun v mE _ => RetTy.i) ?_
  show Cv true (cX5_feed, 2, RX5, 1, ((false, none) : IK)) .ireturn eI (F_X5_feed m a1) m 0 [.ref 0, .int a1] []
  unfold F_X5_feed
  refine Cv.go (pc' := 1) (go_iload_n (i := 1) (x := a1) dX5_feed_0 rfl rfl) ?_
  refine Cv.go (pc' := 2) (go_iconst dX5_feed_1 ic_0) ?_
  refine Cv.go (pc' := 5) (go_sipush dX5_feed_2 is_255) ?_
  refine Cv.bnd fun v1 m2 e3 => ?_
  have C4 := kc_X5_isBetween m a1 (0 : Int32) (255 : Int32) v1 m2 e3
  refine Cv.go (pc' := 8) (st' := [.int (bz v1)]) (go_callS (As := [.int a1, .int (0 : Int32), .int (255 : Int32)]) (st := []) C4 (by decide) ok_X5_isBetween lt_X5_isBetween lm_X5_73 rfl rfl (Nat.le_of_ble_eq_true rfl) dX5_feed_5) ?_
  have zm2 := C4.1.2.2 rfl
  have hS := hS.sh zm2
  refine Cv.ite (fun h5 => ?_) (fun h5 => ?_)
  · refine Cv.go (pc' := 11) (go_if_ne_f 14 dX5_feed_8 rfl h5) ?_
    refine Cv.go (pc' := 13) (go_bipush dX5_feed_11 ib_n2) ?_
    exact Cv.ret dX5_feed_13 rfl
  · refine Cv.go (pc' := 14) (go_if_ne_t (tgt := 14) dX5_feed_8 rfl h5) ?_
    refine Cv.go (pc' := 15) (go_aload_n (i := 0) (x := 0) dX5_feed_14 rfl rfl) ?_
    refine Cv.go (pc' := 18) (go_getR (i := 3) cls5 (sx_k0 hS) (by decide) rfl lf_X5_18 (Or.inl ⟨_, rfl⟩) (sx_r0_3 hS) dX5_feed_15) ?_
    refine Cv.go (pc' := 21) (go_getI (i := 1) cls3 (sx_k2 hS) (by decide) rfl lf_X5_136 (by decide) dX5_feed_18) ?_
    refine Cv.go (pc' := 24) (go_sipush dX5_feed_21 is_160) ?_
    refine Cv.ite (fun h6 => ?_) (fun h6 => ?_)
    · refine Cv.go (pc' := 30) (go_icmp_lt_t (tgt := 30) dX5_feed_24 rfl h6) ?_
      refine Cv.go (pc' := 31) (go_aload_n (i := 0) (x := 0) dX5_feed_30 rfl rfl) ?_
      refine Cv.go (pc' := 34) (go_getR (i := 3) cls5 (sx_k0 hS) (by decide) rfl lf_X5_18 (Or.inl ⟨_, rfl⟩) (sx_r0_3 hS) dX5_feed_31) ?_
      refine Cv.go (pc' := 35) (go_iload_n (i := 1) (x := a1) dX5_feed_34 rfl rfl) ?_
      refine Cv.bnd fun v7 m8 e9 => ?_
      have C10 := kc_X3_add m2 a1 hS v7 m8 e9
      refine Cv.go (pc' := 38) (st' := []) (go_callV (As := [.int a1]) (st := []) C10 (by decide) ok_X3_add li_X3_add ls_X3_add lm_X5_63 cls3 (sx_k2 hS) rfl rfl (Nat.le_of_ble_eq_true rfl) dX5_feed_35) ?_
      have zm8 := C10.1.2.2 rfl
      have hS := hS.sh zm8
      refine Cv.go (pc' := 39) (go_aload_n (i := 0) (x := 0) dX5_feed_38 rfl rfl) ?_
      refine Cv.go (pc' := 42) (go_getR (i := 3) cls5 (sx_k0 hS) (by decide) rfl lf_X5_18 (Or.inl ⟨_, rfl⟩) (sx_r0_3 hS) dX5_feed_39) ?_
      refine Cv.go (pc' := 45) (go_getI (i := 1) cls3 (sx_k2 hS) (by decide) rfl lf_X5_136 (by decide) dX5_feed_42) ?_
      exact Cv.ret dX5_feed_45 rfl
    · refine Cv.go (pc' := 27) (go_icmp_lt_f 30 dX5_feed_24 rfl h6) ?_
      refine Cv.go (pc' := 29) (go_bipush dX5_feed_27 ib_n4) ?_
      exact Cv.ret dX5_feed_29 rfl
theorem kc_X5_text (m : Mem) (c0 : Nat) : ∀ v mE, F_X5_text m c0 = some (v, mE) → Con false kX5_text 87 [.ref c0] m (eI v) mE := by
  refine Con.of (ini := false) (ls0 := [.ref c0, .null]) (ri := .ireturn) (by decide) (by intro z; cases z) rfl (Nat.le_of_ble_eq_true rfl) (fun v mE _ => RetTy.i) ?_
  show Cv false (cX5_text, 2, RX5, 87, ((false, none) : IK)) .ireturn eI (F_X5_text m c0) m 0 [.ref c0, .null] []
  unfold F_X5_text
  refine Cv.go (pc' := 1) (go_aload_n (i := 0) (x := c0) dX5_text_0 rfl rfl) ?_
  refine Cv.gif fun g1 => ?_
  refine Cv.go (pc' := 4) (go_getI (i := 5) cls5 g1 (by decide) rfl lf_X5_139 (by decide) dX5_text_1) ?_
  refine Cv.go (pc' := 5) (go_aload_n (i := 0) (x := c0) dX5_text_4 rfl rfl) ?_
  refine Cv.gif fun g2 => ?_
  refine Cv.gref fun r3 e4 => ?_
  refine Cv.go (pc' := 8) (go_getR (i := 4) cls5 g2 (by decide) rfl lf_X5_24 (Or.inr ⟨_, rfl⟩) e4 dX5_text_5) ?_
  refine Cv.gif fun g5 => ?_
  refine Cv.go (pc' := 9) (go_alen (t := 11) (t0 := 4) (kA g5) (by decide) (fun _ => rfl) dX5_text_8) ?_
  refine Cv.ite (fun h6 => ?_) (fun h6 => ?_)
  · refine Cv.go (pc' := 15) (go_icmp_lt_t (tgt := 15) dX5_text_9 rfl h6) ?_
    refine Cv.go (pc' := 16) (go_aload_n (i := 0) (x := c0) dX5_text_15 rfl rfl) ?_
    refine Cv.gif fun g7 => ?_
    refine Cv.gref fun r8 e9 => ?_
    refine Cv.go (pc' := 19) (go_getR (i := 3) cls5 g7 (by decide) rfl lf_X5_18 (Or.inl ⟨_, rfl⟩) e9 dX5_text_16) ?_
    refine Cv.gif fun g10 => ?_
    obtain ⟨zg10, hS⟩ := g10
    subst zg10
    refine Cv.bnd fun v11 m12 e13 => ?_
    have C14 := kc_X3_read m hS v11 m12 e13
    have C14 := C14.wk (sp' := false) (fun z => by cases z)
    refine Cv.go (pc' := 22) (st' := [.int v11]) (go_callV (As := []) (st := []) C14 (by decide) ok_X3_read li_X3_read ls_X3_read lm_X5_67 cls3 (sx_k2 hS) rfl rfl (Nat.le_of_ble_eq_true rfl) dX5_text_19) ?_
    have zm12 : SameSh m m12 := (kc_X3_read m hS v11 m12 e13).1.2.2 rfl
    have hS := hS.sh zm12
    refine Cv.go (pc' := 23) (ls' := [.ref c0, .int v11]) (go_istore_n dX5_text_22 rfl (by decide) rfl) ?_
    refine Cv.go (pc' := 24) (go_iload_n (i := 1) (x := v11) dX5_text_23 rfl rfl) ?_
    refine Cv.go (pc' := 25) (go_iconst dX5_text_24 ic_n1) ?_
    refine Cv.ite (fun h15 => ?_) (fun h15 => ?_)
    · refine Cv.go (pc' := 41) (go_icmp_eq_t (tgt := 41) dX5_text_25 rfl h15) ?_
      refine Cv.go (pc' := 42) (go_aload_n (i := 0) (x := c0) dX5_text_41 rfl rfl) ?_
      refine Cv.gif fun g16 => ?_
      refine Cv.bnd fun v17 m18 e19 => ?_
      have C20 := kc_X5_keepText m12 c0 v17 m18 e19
      refine Cv.go (pc' := 45) (st' := []) (go_callV (As := []) (st := []) C20 (by decide) ok_X5_keepText li_X5_keepText ls_X5_keepText lm_X5_70 cls5 g16 rfl rfl (Nat.le_of_ble_eq_true rfl) dX5_text_42) ?_
      refine Cv.go (pc' := 46) (go_aload_n (i := 0) (x := c0) dX5_text_45 rfl rfl) ?_
      refine Cv.gif fun g21 => ?_
      refine Cv.go (pc' := 49) (go_getI (i := 5) cls5 g21 (by decide) rfl lf_X5_139 (by decide) dX5_text_46) ?_
      refine Cv.go (pc' := 50) (go_iconst dX5_text_49 ic_1) ?_
      refine Cv.go (pc' := 51) (go_isub dX5_text_50) ?_
      exact Cv.ret dX5_text_51 rfl
    · refine Cv.go (pc' := 28) (go_icmp_eq_f 41 dX5_text_25 rfl h15) ?_
      refine Cv.go (pc' := 29) (go_aload_n (i := 0) (x := c0) dX5_text_28 rfl rfl) ?_
      refine Cv.gif fun g22 => ?_
      refine Cv.gref fun r23 e24 => ?_
      refine Cv.go (pc' := 32) (go_getR (i := 3) cls5 g22 (by decide) rfl lf_X5_18 (Or.inl ⟨_, rfl⟩) e24 dX5_text_29) ?_
      refine Cv.go (pc' := 33) (go_iconst dX5_text_32 ic_0) ?_
      refine Cv.gif fun g25 => ?_
      refine Cv.go (pc' := 36) (go_putI (i := 1) cls3 g25 (by decide) rfl lf_X5_136 (by decide) rfl rfl rfl dX5_text_33) ?_
      refine Cv.namM fun m26 em26 => ?_
      have zm26 : SameSh m12 m26 := em26 ▸ SameSh.d
      have hS := hS.sh zm26
      refine Cv.go (pc' := 38) (go_bipush dX5_text_36 ib_n100) ?_
      refine Cv.go (pc' := 39) (go_iload_n (i := 1) (x := v11) dX5_text_38 rfl rfl) ?_
      refine Cv.go (pc' := 40) (go_isub dX5_text_39) ?_
      exact Cv.ret dX5_text_40 rfl
  · refine Cv.go (pc' := 12) (go_icmp_lt_f 15 dX5_text_9 rfl h6) ?_
    refine Cv.go (pc' := 14) (go_bipush dX5_text_12 ib_n4) ?_
    exact Cv.ret dX5_text_14 rfl
theorem kc_X5_force (m : Mem) (a1 : Int32) (hS : ShX m) : ∀ v mE, F_X5_force m a1 = some (v, mE) → Con true kX5_force 1 [.ref 0, .int a1] m (eI v) mE := by
  refine Con.of (ini := false) (ls0 := [.ref 0, .int a1, .null]) (ri := .ireturn) (by decide) (by intro z; cases z) rfl (Nat.le_of_ble_eq_true rfl) (fun v mE _ => RetTy.i) ?_
  show Cv true (cX5_force, 3, RX5, 1, ((false, none) : IK)) .ireturn eI (F_X5_force m a1) m 0 [.ref 0, .int a1, .null] []
  unfold F_X5_force
  refine Cv.go (pc' := 1) (go_iload_n (i := 1) (x := a1) dX5_force_0 rfl rfl) ?_
  refine Cv.go (pc' := 2) (go_iconst dX5_force_1 ic_0) ?_
  refine Cv.go (pc' := 3) (go_aload_n (i := 0) (x := 0) dX5_force_2 rfl rfl) ?_
  refine Cv.go (pc' := 6) (go_getI (i := 5) cls5 (sx_k0 hS) (by decide) rfl lf_X5_139 (by decide) dX5_force_3) ?_
  refine Cv.go (pc' := 7) (go_iconst dX5_force_6 ic_1) ?_
  refine Cv.go (pc' := 8) (go_isub dX5_force_7) ?_
  refine Cv.bnd fun v1 m2 e3 => ?_
  have C4 := kc_X5_isBetween m a1 (0 : Int32) ((mD m 0 5) - (1 : Int32)) v1 m2 e3
  refine Cv.go (pc' := 11) (st' := [.int (bz v1)]) (go_callS (As := [.int a1, .int (0 : Int32), .int ((mD m 0 5) - (1 : Int32))]) (st := []) C4 (by decide) ok_X5_isBetween lt_X5_isBetween lm_X5_73 rfl rfl (Nat.le_of_ble_eq_true rfl) dX5_force_8) ?_
  have zm2 := C4.1.2.2 rfl
  have hS := hS.sh zm2
  refine Cv.ite (fun h5 => ?_) (fun h5 => ?_)
  · refine Cv.go (pc' := 14) (go_if_ne_f 17 dX5_force_11 rfl h5) ?_
    refine Cv.go (pc' := 16) (go_bipush dX5_force_14 ib_n2) ?_
    exact Cv.ret dX5_force_16 rfl
  · refine Cv.go (pc' := 17) (go_if_ne_t (tgt := 17) dX5_force_11 rfl h5) ?_
    refine Cv.go (pc' := 18) (go_aload_n (i := 0) (x := 0) dX5_force_17 rfl rfl) ?_
    refine Cv.go (pc' := 21) (go_getI (i := 6) cls5 (sx_k0 hS) (by decide) rfl lf_X5_142 (by decide) dX5_force_18) ?_
    refine Cv.namI fun x6 ex6 => ?_
    refine Cv.go (pc' := 22) (ls' := [.ref 0, .int a1, .int x6]) (go_istore_n dX5_force_21 rfl (by decide) rfl) ?_
    refine Cv.go (pc' := 23) (go_aload_n (i := 0) (x := 0) dX5_force_22 rfl rfl) ?_
    refine Cv.go (pc' := 24) (go_iload_n (i := 1) (x := a1) dX5_force_23 rfl rfl) ?_
    refine Cv.go (pc' := 27) (go_putI (i := 6) cls5 (sx_k0 hS) (by decide) rfl lf_X5_142 (by decide) rfl rfl rfl dX5_force_24) ?_
    refine Cv.namM fun m7 em7 => ?_
    have zm7 : SameSh m2 m7 := em7 ▸ SameSh.d
    have hS := hS.sh zm7
    refine Cv.go (pc' := 28) (go_iload_n (i := 2) (x := x6) dX5_force_27 rfl rfl) ?_
    exact Cv.ret dX5_force_28 rfl
theorem c_X5_day_56 (K17 : Mem → Int32 → Int32 → Option (Int32 × Mem)) (hK17 : ∀ (m : Mem) (a1 : Int32) (a2 : Int32) (hS : ShX m), Cv true (cX5_day, 3, RX5, 4, ((false, none) : IK)) .ireturn eI (K17 m a1 a2) m 17 [.ref 0, .int a1, .int a2] []) : ∀ (m : Mem) (a1 : Int32) (a2 : Int32) (hS : ShX m), Cv true (cX5_day, 3, RX5, 4, ((false, none) : IK)) .ireturn eI (F_X5_day_56 K17 m a1 a2) m 56 [.ref 0, .int a1, .int a2] [] := by
  intro m a1 a2 hS
  unfold F_X5_day_56
  refine Cv.go (pc' := 59) (ls' := [.ref 0, .int a1, .int (a2 + (1 : Int32))]) (go_iinc (x := a2) (v := a2 + (1 : Int32)) dX5_day_56 rfl rfl (by decide) rfl) ?_
  refine Cv.go (pc' := 17) (go_goto (tgt := 17) dX5_day_59 rfl) ?_
  exact hK17 m a1 (a2 + (1 : Int32)) hS
theorem c_X5_day_64 : ∀ n, ∀ (m : Mem) (a1 : Int32) (a2 : Int32) (hS : ShX m), Cv true (cX5_day, 3, RX5, 4, ((false, none) : IK)) .ireturn eI (F_X5_day_64 n m a1 a2) m 64 [.ref 0, .int a1, .int a2] [] := by
  intro n
  induction n with
  | zero => intro m a1 a2 hS; exact Cv.no
  | succ n ih =>
    intro m a1 a2 hS
    unfold F_X5_day_64
    refine Cv.go (pc' := 65) (go_iload_n (i := 2) (x := a2) dX5_day_64 rfl rfl) ?_
    refine Cv.go (pc' := 66) (go_aload_n (i := 0) (x := 0) dX5_day_65 rfl rfl) ?_
    refine Cv.go (pc' := 69) (go_getI (i := 2) cls5 (sx_k0 hS) (by decide) rfl lf_X5_103 (by decide) dX5_day_66) ?_
    refine Cv.ite (fun h17 => ?_) (fun h17 => ?_)
    · refine Cv.go (pc' := 97) (go_icmp_ge_t (tgt := 97) dX5_day_69 rfl h17) ?_
      refine Cv.go (pc' := 98) (go_aload_n (i := 0) (x := 0) dX5_day_97 rfl rfl) ?_
      refine Cv.go (pc' := 99) (go_dup_a dX5_day_98) ?_
      refine Cv.go (pc' := 102) (go_getI (i := 0) cls5 (sx_k0 hS) (by decide) rfl lf_X5_83 (by decide) dX5_day_99) ?_
      refine Cv.go (pc' := 103) (go_iconst dX5_day_102 ic_1) ?_
      refine Cv.go (pc' := 104) (go_iadd dX5_day_103) ?_
      refine Cv.go (pc' := 107) (go_putI (i := 0) cls5 (sx_k0 hS) (by decide) rfl lf_X5_83 (by decide) rfl rfl rfl dX5_day_104) ?_
      refine Cv.namM fun m18 em18 => ?_
      have zm18 : SameSh m m18 := em18 ▸ SameSh.d
      have hS := hS.sh zm18
      refine Cv.go (pc' := 108) (go_iload_n (i := 1) (x := a1) dX5_day_107 rfl rfl) ?_
      exact Cv.ret dX5_day_108 rfl
    · refine Cv.go (pc' := 72) (go_icmp_ge_f 97 dX5_day_69 rfl h17) ?_
      refine Cv.go (pc' := 73) (go_aload_n (i := 0) (x := 0) dX5_day_72 rfl rfl) ?_
      refine Cv.go (pc' := 76) (go_getR (i := 1) cls5 (sx_k0 hS) (by decide) rfl lf_X5_11 (Or.inr ⟨_, rfl⟩) (sx_r0_1 hS) dX5_day_73) ?_
      refine Cv.go (pc' := 77) (go_iload_n (i := 2) (x := a2) dX5_day_76 rfl rfl) ?_
      refine Cv.gif fun g19 => ?_
      refine Cv.go (pc' := 78) (go_aaload (t := 9) (t0 := 2) (sx_k1 hS) (by decide) (fun _ => rfl) g19 (sx_e1 hS (vp_lt g19)).1 dX5_day_77) ?_
      have hf20 := (sx_e1 hS (vp_lt g19)).2
      refine Cv.go (pc' := 79) (go_aload_n (i := 0) (x := 0) dX5_day_78 rfl rfl) ?_
      refine Cv.go (pc' := 82) (go_getR (i := 1) cls5 (sx_k0 hS) (by decide) rfl lf_X5_11 (Or.inr ⟨_, rfl⟩) (sx_r0_1 hS) dX5_day_79) ?_
      refine Cv.go (pc' := 83) (go_iload_n (i := 2) (x := a2) dX5_day_82 rfl rfl) ?_
      refine Cv.gif fun g21 => ?_
      refine Cv.go (pc' := 84) (go_aaload (t := 9) (t0 := 2) (sx_k1 hS) (by decide) (fun _ => rfl) g21 (sx_e1 hS (vp_lt g21)).1 dX5_day_83) ?_
      have hf22 := (sx_e1 hS (vp_lt g21)).2
      refine Cv.go (pc' := 85) (go_iconst dX5_day_84 ic_1) ?_
      refine Cv.bnd fun v23 m24 e25 => ?_
      have C26 := kc_X0_ageBehind m (20 + a2.toNatClampNeg) (1 : Int32) hf22 v23 m24 e25
      refine Cv.go (pc' := 88) (st' := [.int v23, .ref (20 + a2.toNatClampNeg)]) (go_callV (As := [.int (1 : Int32)]) (st := [.ref (20 + a2.toNatClampNeg)]) C26 (by decide) ok_X0_ageBehind li_X0_ageBehind ls_X0_ageBehind lm_X5_145 cls0 hf22 rfl rfl (Nat.le_of_ble_eq_true rfl) dX5_day_85) ?_
      have zm24 := C26.1.2.2 rfl
      have hS := hS.sh zm24
      have hf20 := sk zm24 hf20
      have hf22 := sk zm24 hf22
      refine Cv.go (pc' := 91) (go_putI (i := 4) cls0 hf20 (by decide) rfl lf_X5_115 (by decide) rfl rfl rfl dX5_day_88) ?_
      refine Cv.namM fun m27 em27 => ?_
      have zm27 : SameSh m24 m27 := em27 ▸ SameSh.d
      have hS := hS.sh zm27
      have hf20 := sk zm27 hf20
      have hf22 := sk zm27 hf22
      refine Cv.go (pc' := 94) (ls' := [.ref 0, .int a1, .int (a2 + (1 : Int32))]) (go_iinc (x := a2) (v := a2 + (1 : Int32)) dX5_day_91 rfl rfl (by decide) rfl) ?_
      refine Cv.go (pc' := 64) (go_goto (tgt := 64) dX5_day_94 rfl) ?_
      exact ih m27 a1 (a2 + (1 : Int32)) hS
theorem c_X5_day_17 : ∀ n, ∀ (m : Mem) (a1 : Int32) (a2 : Int32) (hS : ShX m), Cv true (cX5_day, 3, RX5, 4, ((false, none) : IK)) .ireturn eI (F_X5_day_17 n m a1 a2) m 17 [.ref 0, .int a1, .int a2] [] := by
  intro n
  induction n with
  | zero => intro m a1 a2 hS; exact Cv.no
  | succ n ih =>
    intro m a1 a2 hS
    unfold F_X5_day_17
    refine Cv.go (pc' := 18) (go_iload_n (i := 2) (x := a2) dX5_day_17 rfl rfl) ?_
    refine Cv.go (pc' := 19) (go_aload_n (i := 0) (x := 0) dX5_day_18 rfl rfl) ?_
    refine Cv.go (pc' := 22) (go_getI (i := 2) cls5 (sx_k0 hS) (by decide) rfl lf_X5_103 (by decide) dX5_day_19) ?_
    refine Cv.ite (fun h2 => ?_) (fun h2 => ?_)
    · refine Cv.go (pc' := 62) (go_icmp_ge_t (tgt := 62) dX5_day_22 rfl h2) ?_
      refine Cv.go (pc' := 63) (go_iconst dX5_day_62 ic_0) ?_
      refine Cv.go (pc' := 64) (ls' := [.ref 0, .int a1, .int (0 : Int32)]) (go_istore_n dX5_day_63 rfl (by decide) rfl) ?_
      exact c_X5_day_64 FU m a1 (0 : Int32) hS
    · refine Cv.go (pc' := 25) (go_icmp_ge_f 62 dX5_day_22 rfl h2) ?_
      refine Cv.go (pc' := 26) (go_aload_n (i := 0) (x := 0) dX5_day_25 rfl rfl) ?_
      refine Cv.go (pc' := 27) (go_aload_n (i := 0) (x := 0) dX5_day_26 rfl rfl) ?_
      refine Cv.go (pc' := 30) (go_getR (i := 1) cls5 (sx_k0 hS) (by decide) rfl lf_X5_11 (Or.inr ⟨_, rfl⟩) (sx_r0_1 hS) dX5_day_27) ?_
      refine Cv.go (pc' := 31) (go_iload_n (i := 2) (x := a2) dX5_day_30 rfl rfl) ?_
      refine Cv.gif fun g3 => ?_
      refine Cv.go (pc' := 32) (go_aaload (t := 9) (t0 := 2) (sx_k1 hS) (by decide) (fun _ => rfl) g3 (sx_e1 hS (vp_lt g3)).1 dX5_day_31) ?_
      have hf4 := (sx_e1 hS (vp_lt g3)).2
      refine Cv.go (pc' := 33) (go_iconst dX5_day_32 ic_0) ?_
      refine Cv.bnd fun v5 m6 e7 => ?_
      have C8 := kc_X5_isWholeBehind m (20 + a2.toNatClampNeg) (0 : Int32) hS hf4 v5 m6 e7
      refine Cv.go (pc' := 36) (st' := [.int (bz v5)]) (go_callV (As := [.ref (20 + a2.toNatClampNeg), .int (0 : Int32)]) (st := []) C8 (by decide) ok_X5_isWholeBehind li_X5_isWholeBehind ls_X5_isWholeBehind lm_X5_128 cls5 (sx_k0 hS) rfl rfl (Nat.le_of_ble_eq_true rfl) dX5_day_33) ?_
      have zm6 := C8.1.2.2 rfl
      have hS := hS.sh zm6
      have hf4 := sk zm6 hf4
      refine Cv.ite (fun h9 => ?_) (fun h9 => ?_)
      · refine Cv.go (pc' := 56) (go_if_eq_t (tgt := 56) dX5_day_36 rfl h9) ?_
        exact c_X5_day_56 (F_X5_day_17 n) ih m6 a1 a2 hS
      · refine Cv.go (pc' := 39) (go_if_eq_f 56 dX5_day_36 rfl h9) ?_
        refine Cv.go (pc' := 40) (go_aload_n (i := 0) (x := 0) dX5_day_39 rfl rfl) ?_
        refine Cv.go (pc' := 41) (go_aload_n (i := 0) (x := 0) dX5_day_40 rfl rfl) ?_
        refine Cv.go (pc' := 44) (go_getR (i := 1) cls5 (sx_k0 hS) (by decide) rfl lf_X5_11 (Or.inr ⟨_, rfl⟩) (sx_r0_1 hS) dX5_day_41) ?_
        refine Cv.go (pc' := 45) (go_iload_n (i := 2) (x := a2) dX5_day_44 rfl rfl) ?_
        refine Cv.gif fun g10 => ?_
        refine Cv.go (pc' := 46) (go_aaload (t := 9) (t0 := 2) (sx_k1 hS) (by decide) (fun _ => rfl) g10 (sx_e1 hS (vp_lt g10)).1 dX5_day_45) ?_
        have hf11 := (sx_e1 hS (vp_lt g10)).2
        refine Cv.go (pc' := 47) (go_iconst dX5_day_46 ic_1) ?_
        refine Cv.bnd fun v12 m13 e14 => ?_
        have C15 := kc_X5_isWholeBehind m6 (20 + a2.toNatClampNeg) (1 : Int32) hS hf11 v12 m13 e14
        refine Cv.go (pc' := 50) (st' := [.int (bz v12)]) (go_callV (As := [.ref (20 + a2.toNatClampNeg), .int (1 : Int32)]) (st := []) C15 (by decide) ok_X5_isWholeBehind li_X5_isWholeBehind ls_X5_isWholeBehind lm_X5_128 cls5 (sx_k0 hS) rfl rfl (Nat.le_of_ble_eq_true rfl) dX5_day_47) ?_
        have zm13 := C15.1.2.2 rfl
        have hS := hS.sh zm13
        have hf4 := sk zm13 hf4
        have hf11 := sk zm13 hf11
        refine Cv.ite (fun h16 => ?_) (fun h16 => ?_)
        · refine Cv.go (pc' := 53) (go_if_ne_f 56 dX5_day_50 rfl h16) ?_
          refine Cv.go (pc' := 56) (ls' := [.ref 0, .int (a1 + (1 : Int32)), .int a2]) (go_iinc (x := a1) (v := a1 + (1 : Int32)) dX5_day_53 rfl rfl (by decide) rfl) ?_
          exact c_X5_day_56 (F_X5_day_17 n) ih m13 (a1 + (1 : Int32)) a2 hS
        · refine Cv.go (pc' := 56) (go_if_ne_t (tgt := 56) dX5_day_50 rfl h16) ?_
          exact c_X5_day_56 (F_X5_day_17 n) ih m13 a1 a2 hS
theorem kc_X5_day (m : Mem) (hS : ShX m) : ∀ v mE, F_X5_day m = some (v, mE) → Con true kX5_day 4 [.ref 0] m (eI v) mE := by
  refine Con.of (ini := false) (ls0 := [.ref 0, .null, .null]) (ri := .ireturn) (by decide) (by intro z; cases z) rfl (Nat.le_of_ble_eq_true rfl) (fun v mE _ => RetTy.i) ?_
  show Cv true (cX5_day, 3, RX5, 4, ((false, none) : IK)) .ireturn eI (F_X5_day m) m 0 [.ref 0, .null, .null] []
  unfold F_X5_day
  refine Cv.go (pc' := 1) (go_aload_n (i := 0) (x := 0) dX5_day_0 rfl rfl) ?_
  refine Cv.go (pc' := 4) (go_getI (i := 0) cls5 (sx_k0 hS) (by decide) rfl lf_X5_83 (by decide) dX5_day_1) ?_
  refine Cv.go (pc' := 7) (go_sipush dX5_day_4 is_999) ?_
  refine Cv.ite (fun h1 => ?_) (fun h1 => ?_)
  · refine Cv.go (pc' := 13) (go_icmp_lt_t (tgt := 13) dX5_day_7 rfl h1) ?_
    refine Cv.go (pc' := 14) (go_iconst dX5_day_13 ic_0) ?_
    refine Cv.go (pc' := 15) (ls' := [.ref 0, .int (0 : Int32), .null]) (go_istore_n dX5_day_14 rfl (by decide) rfl) ?_
    refine Cv.go (pc' := 16) (go_iconst dX5_day_15 ic_0) ?_
    refine Cv.go (pc' := 17) (ls' := [.ref 0, .int (0 : Int32), .int (0 : Int32)]) (go_istore_n dX5_day_16 rfl (by decide) rfl) ?_
    exact c_X5_day_17 FU m (0 : Int32) (0 : Int32) hS
  · refine Cv.go (pc' := 10) (go_icmp_lt_f 13 dX5_day_7 rfl h1) ?_
    refine Cv.go (pc' := 12) (go_bipush dX5_day_10 ib_n3) ?_
    exact Cv.ret dX5_day_12 rfl
