theorem c_X6_turnedOf_35 (K4 : Mem → Int32 → Int32 → Int32 → Option (Int32 × Mem)) (hK4 : ∀ (m : Mem) (a1 : Int32) (a2 : Int32) (a3 : Int32) (hS : ShM m), Cv true (cX6_turnedOf, 4, RX6, 45, ((false, none) : IK)) .ireturn eI (K4 m a1 a2 a3) m 4 [.ref 40, .int a1, .int a2, .int a3] []) : ∀ (m : Mem) (a1 : Int32) (a3 : Int32) (s0 : Int32) (s1 : Int32) (hS : ShM m), Cv true (cX6_turnedOf, 4, RX6, 45, ((false, none) : IK)) .ireturn eI (F_X6_turnedOf_35 K4 m a1 a3 s0 s1) m 35 [.ref 40, .int a1, .null, .int a3] [.int s0, .int s1] := by
  intro m a1 a3 s0 s1 hS
  unfold F_X6_turnedOf_35
  refine Cv.go (pc' := 36) (go_iload_n (i := 3) (x := a3) dX6_turnedOf_35 rfl rfl) ?_
  refine Cv.go (pc' := 37) (go_ishl dX6_turnedOf_36) ?_
  refine Cv.go (pc' := 38) (go_ior dX6_turnedOf_37) ?_
  refine Cv.namI fun x12 ex12 => ?_
  refine Cv.go (pc' := 39) (ls' := [.ref 40, .int a1, .int x12, .int a3]) (go_istore_n dX6_turnedOf_38 rfl (by decide) rfl) ?_
  refine Cv.go (pc' := 42) (ls' := [.ref 40, .int a1, .int x12, .int (a3 + (1 : Int32))]) (go_iinc (x := a3) (v := a3 + (1 : Int32)) dX6_turnedOf_39 rfl rfl (by decide) rfl) ?_
  refine Cv.go (pc' := 4) (go_goto (tgt := 4) dX6_turnedOf_42 rfl) ?_
  exact hK4 m a1 x12 (a3 + (1 : Int32)) hS
theorem c_X6_turnedOf_34 (K4 : Mem → Int32 → Int32 → Int32 → Option (Int32 × Mem)) (hK4 : ∀ (m : Mem) (a1 : Int32) (a2 : Int32) (a3 : Int32) (hS : ShM m), Cv true (cX6_turnedOf, 4, RX6, 45, ((false, none) : IK)) .ireturn eI (K4 m a1 a2 a3) m 4 [.ref 40, .int a1, .int a2, .int a3] []) : ∀ (m : Mem) (a1 : Int32) (a3 : Int32) (s0 : Int32) (hS : ShM m), Cv true (cX6_turnedOf, 4, RX6, 45, ((false, none) : IK)) .ireturn eI (F_X6_turnedOf_34 K4 m a1 a3 s0) m 34 [.ref 40, .int a1, .null, .int a3] [.int s0] := by
  intro m a1 a3 s0 hS
  unfold F_X6_turnedOf_34
  refine Cv.go (pc' := 35) (go_iconst dX6_turnedOf_34 ic_0) ?_
  exact c_X6_turnedOf_35 K4 hK4 m a1 a3 (0 : Int32) s0 hS
theorem c_X6_turnedOf_4 : ∀ n, ∀ (m : Mem) (a1 : Int32) (a2 : Int32) (a3 : Int32) (hS : ShM m), Cv true (cX6_turnedOf, 4, RX6, 45, ((false, none) : IK)) .ireturn eI (F_X6_turnedOf_4 n m a1 a2 a3) m 4 [.ref 40, .int a1, .int a2, .int a3] [] := by
  intro n
  induction n with
  | zero => intro m a1 a2 a3 hS; exact Cv.no
  | succ n ih =>
    intro m a1 a2 a3 hS
    unfold F_X6_turnedOf_4
    refine Cv.go (pc' := 5) (go_iload_n (i := 3) (x := a3) dX6_turnedOf_4 rfl rfl) ?_
    refine Cv.go (pc' := 6) (go_aload_n (i := 0) (x := 40) dX6_turnedOf_5 rfl rfl) ?_
    refine Cv.go (pc' := 9) (go_getI (i := 10) cls6 (sx_k40 hS) (by decide) rfl lf_X6_64 (by decide) dX6_turnedOf_6) ?_
    refine Cv.ite (fun h1 => ?_) (fun h1 => ?_)
    · refine Cv.go (pc' := 45) (go_icmp_ge_t (tgt := 45) dX6_turnedOf_9 rfl h1) ?_
      refine Cv.go (pc' := 46) (go_iload_n (i := 2) (x := a2) dX6_turnedOf_45 rfl rfl) ?_
      exact Cv.ret dX6_turnedOf_46 rfl
    · refine Cv.go (pc' := 12) (go_icmp_ge_f 45 dX6_turnedOf_9 rfl h1) ?_
      refine Cv.go (pc' := 13) (go_iload_n (i := 2) (x := a2) dX6_turnedOf_12 rfl rfl) ?_
      refine Cv.go (pc' := 14) (go_aload_n (i := 0) (x := 40) dX6_turnedOf_13 rfl rfl) ?_
      refine Cv.go (pc' := 15) (go_iload_n (i := 3) (x := a3) dX6_turnedOf_14 rfl rfl) ?_
      refine Cv.go (pc' := 16) (go_iload_n (i := 1) (x := a1) dX6_turnedOf_15 rfl rfl) ?_
      refine Cv.bnd fun v2 m3 e4 => ?_
      have C5 := kc_X6_isOf m a3 a1 hS v2 m3 e4
      refine Cv.go (pc' := 19) (st' := [.int (bz v2), .int a2]) (go_callV (As := [.int a3, .int a1]) (st := [.int a2]) C5 (by decide) ok_X6_isOf li_X6_isOf ls_X6_isOf lm_X6_335 cls6 (sx_k40 hS) rfl rfl (Nat.le_of_ble_eq_true rfl) dX6_turnedOf_16) ?_
      have zm3 := C5.1.2.2 rfl
      have hS := hS.sh zm3
      refine Cv.ite (fun h6 => ?_) (fun h6 => ?_)
      · refine Cv.go (pc' := 34) (go_if_eq_t (tgt := 34) dX6_turnedOf_19 rfl h6) ?_
        refine Cv.weak (ls' := [.ref 40, .int a1, .null, .int a3]) (⟨Or.inr rfl, ⟨Or.inr rfl, ⟨Or.inl rfl, ⟨Or.inr rfl, True.intro⟩⟩⟩⟩) ?_
        exact c_X6_turnedOf_34 (F_X6_turnedOf_4 n) ih m3 a1 a3 a2 hS
      · refine Cv.go (pc' := 22) (go_if_eq_f 34 dX6_turnedOf_19 rfl h6) ?_
        refine Cv.go (pc' := 23) (go_aload_n (i := 0) (x := 40) dX6_turnedOf_22 rfl rfl) ?_
        refine Cv.go (pc' := 24) (go_iload_n (i := 3) (x := a3) dX6_turnedOf_23 rfl rfl) ?_
        refine Cv.bnd fun v7 m8 e9 => ?_
        have C10 := kc_X6_isWhole m3 a3 hS v7 m8 e9
        refine Cv.go (pc' := 27) (st' := [.int (bz v7), .int a2]) (go_callV (As := [.int a3]) (st := [.int a2]) C10 (by decide) ok_X6_isWhole li_X6_isWhole ls_X6_isWhole lm_X6_113 cls6 (sx_k40 hS) rfl rfl (Nat.le_of_ble_eq_true rfl) dX6_turnedOf_24) ?_
        have zm8 := C10.1.2.2 rfl
        have hS := hS.sh zm8
        refine Cv.ite (fun h11 => ?_) (fun h11 => ?_)
        · refine Cv.go (pc' := 30) (go_if_ne_f 34 dX6_turnedOf_27 rfl h11) ?_
          refine Cv.go (pc' := 31) (go_iconst dX6_turnedOf_30 ic_1) ?_
          refine Cv.go (pc' := 35) (go_goto (tgt := 35) dX6_turnedOf_31 rfl) ?_
          refine Cv.weak (ls' := [.ref 40, .int a1, .null, .int a3]) (⟨Or.inr rfl, ⟨Or.inr rfl, ⟨Or.inl rfl, ⟨Or.inr rfl, True.intro⟩⟩⟩⟩) ?_
          exact c_X6_turnedOf_35 (F_X6_turnedOf_4 n) ih m8 a1 a3 (1 : Int32) a2 hS
        · refine Cv.go (pc' := 34) (go_if_ne_t (tgt := 34) dX6_turnedOf_27 rfl h11) ?_
          refine Cv.weak (ls' := [.ref 40, .int a1, .null, .int a3]) (⟨Or.inr rfl, ⟨Or.inr rfl, ⟨Or.inl rfl, ⟨Or.inr rfl, True.intro⟩⟩⟩⟩) ?_
          exact c_X6_turnedOf_34 (F_X6_turnedOf_4 n) ih m8 a1 a3 a2 hS
theorem kc_X6_turnedOf (m : Mem) (a1 : Int32) (hS : ShM m) : ∀ v mE, F_X6_turnedOf m a1 = some (v, mE) → Con true kX6_turnedOf 45 [.ref 40, .int a1] m (eI v) mE := by
  refine Con.of (ini := false) (ls0 := [.ref 40, .int a1, .null, .null]) (ri := .ireturn) (by decide) (by intro z; cases z) rfl (Nat.le_of_ble_eq_true rfl) (fun v mE _ => RetTy.i) ?_
  show Cv true (cX6_turnedOf, 4, RX6, 45, ((false, none) : IK)) .ireturn eI (F_X6_turnedOf m a1) m 0 [.ref 40, .int a1, .null, .null] []
  unfold F_X6_turnedOf
  refine Cv.go (pc' := 1) (go_iconst dX6_turnedOf_0 ic_0) ?_
  refine Cv.go (pc' := 2) (ls' := [.ref 40, .int a1, .int (0 : Int32), .null]) (go_istore_n dX6_turnedOf_1 rfl (by decide) rfl) ?_
  refine Cv.go (pc' := 3) (go_iconst dX6_turnedOf_2 ic_0) ?_
  refine Cv.go (pc' := 4) (ls' := [.ref 40, .int a1, .int (0 : Int32), .int (0 : Int32)]) (go_istore_n dX6_turnedOf_3 rfl (by decide) rfl) ?_
  exact c_X6_turnedOf_4 FU m a1 (0 : Int32) (0 : Int32) hS
theorem c_X6_has_19 : ∀ (m : Mem) (hS : ShM m), Cv true (cX6_has, 3, RX6, 47, ((false, none) : IK)) .ireturn eI (F_X6_has_19 m) m 19 [.null, .null, .null] [] := by
  intro m hS
  unfold F_X6_has_19
  refine Cv.go (pc' := 21) (go_ldc dX6_has_19 lc_X6_103) ?_
  exact Cv.ret dX6_has_21 rfl
theorem kc_X6_has (m : Mem) (a1 : Int32) (a2 : Int32) (hS : ShM m) : ∀ v mE, F_X6_has m a1 a2 = some (v, mE) → Con true kX6_has 47 [.ref 40, .int a1, .int a2] m (eI v) mE := by
  refine Con.of (ini := false) (ls0 := [.ref 40, .int a1, .int a2]) (ri := .ireturn) (by decide) (by intro z; cases z) rfl (Nat.le_of_ble_eq_true rfl) (fun v mE _ => RetTy.i) ?_
  show Cv true (cX6_has, 3, RX6, 47, ((false, none) : IK)) .ireturn eI (F_X6_has m a1 a2) m 0 [.ref 40, .int a1, .int a2] []
  unfold F_X6_has
  refine Cv.go (pc' := 1) (go_iload_n (i := 1) (x := a1) dX6_has_0 rfl rfl) ?_
  refine Cv.bnd fun v1 m2 e3 => ?_
  have C4 := kc_X6_isOwner m a1 v1 m2 e3
  refine Cv.go (pc' := 4) (st' := [.int (bz v1)]) (go_callS (As := [.int a1]) (st := []) C4 (by decide) ok_X6_isOwner lt_X6_isOwner lm_X6_344 rfl rfl (Nat.le_of_ble_eq_true rfl) dX6_has_1) ?_
  have zm2 := C4.1.2.2 rfl
  have hS := hS.sh zm2
  refine Cv.ite (fun h5 => ?_) (fun h5 => ?_)
  · refine Cv.go (pc' := 19) (go_if_eq_t (tgt := 19) dX6_has_4 rfl h5) ?_
    refine Cv.weak (ls' := [.null, .null, .null]) (⟨Or.inl rfl, ⟨Or.inl rfl, ⟨Or.inl rfl, True.intro⟩⟩⟩) ?_
    exact c_X6_has_19 m2 hS
  · refine Cv.go (pc' := 7) (go_if_eq_f 19 dX6_has_4 rfl h5) ?_
    refine Cv.go (pc' := 8) (go_iload_n (i := 2) (x := a2) dX6_has_7 rfl rfl) ?_
    refine Cv.go (pc' := 9) (go_i2l dX6_has_8) ?_
    refine Cv.go (pc' := 10) (go_lconst (v := 0) dX6_has_9 (by decide)) ?_
    refine Cv.go (pc' := 13) (go_ldc2 dX6_has_10 ll_X6_368) ?_
    refine Cv.bnd fun v6 m7 e8 => ?_
    have C9 := kc_X6_in m2 a2.toInt64 (0 : Int64) (6 : Int64) v6 m7 e8
    refine Cv.go (pc' := 16) (st' := [.int (bz v6)]) (go_callS (As := [.long a2.toInt64, .long (0 : Int64), .long (6 : Int64)]) (st := []) C9 (by decide) ok_X6_in lt_X6_in lm_X6_67 rfl rfl (Nat.le_of_ble_eq_true rfl) dX6_has_13) ?_
    have zm7 := C9.1.2.2 rfl
    have hS := hS.sh zm7
    refine Cv.ite (fun h10 => ?_) (fun h10 => ?_)
    · refine Cv.go (pc' := 19) (go_if_ne_f 22 dX6_has_16 rfl h10) ?_
      refine Cv.weak (ls' := [.null, .null, .null]) (⟨Or.inl rfl, ⟨Or.inl rfl, ⟨Or.inl rfl, True.intro⟩⟩⟩) ?_
      exact c_X6_has_19 m7 hS
    · refine Cv.go (pc' := 22) (go_if_ne_t (tgt := 22) dX6_has_16 rfl h10) ?_
      refine Cv.go (pc' := 23) (go_iload_n (i := 2) (x := a2) dX6_has_22 rfl rfl) ?_
      refine Cv.go (pc' := 24) (go_iconst dX6_has_23 ic_3) ?_
      refine Cv.ite (fun h11 => ?_) (fun h11 => ?_)
      · refine Cv.go (pc' := 62) (go_icmp_ge_t (tgt := 62) dX6_has_24 rfl h11) ?_
        refine Cv.go (pc' := 63) (go_iload_n (i := 2) (x := a2) dX6_has_62 rfl rfl) ?_
        refine Cv.go (pc' := 64) (go_iconst dX6_has_63 ic_3) ?_
        refine Cv.ite (fun h12 => ?_) (fun h12 => ?_)
        · refine Cv.go (pc' := 67) (go_icmp_ne_f 75 dX6_has_64 rfl h12) ?_
          refine Cv.go (pc' := 68) (go_aload_n (i := 0) (x := 40) dX6_has_67 rfl rfl) ?_
          refine Cv.go (pc' := 69) (go_iload_n (i := 1) (x := a1) dX6_has_68 rfl rfl) ?_
          refine Cv.bnd fun v27 m28 e29 => ?_
          have C30 := kc_X6_turnedOf m7 a1 hS v27 m28 e29
          refine Cv.go (pc' := 72) (st' := [.int v27]) (go_callV (As := [.int a1]) (st := []) C30 (by decide) ok_X6_turnedOf li_X6_turnedOf ls_X6_turnedOf lm_X6_376 cls6 (sx_k40 hS) rfl rfl (Nat.le_of_ble_eq_true rfl) dX6_has_69) ?_
          have zm28 := C30.1.2.2 rfl
          have hS := hS.sh zm28
          refine Cv.go (pc' := 106) (go_goto (tgt := 106) dX6_has_72 rfl) ?_
          exact Cv.ret dX6_has_106 rfl
        · refine Cv.go (pc' := 75) (go_icmp_ne_t (tgt := 75) dX6_has_64 rfl h12) ?_
          refine Cv.go (pc' := 76) (go_iload_n (i := 2) (x := a2) dX6_has_75 rfl rfl) ?_
          refine Cv.go (pc' := 77) (go_iconst dX6_has_76 ic_4) ?_
          refine Cv.ite (fun h13 => ?_) (fun h13 => ?_)
          · refine Cv.go (pc' := 80) (go_icmp_ne_f 88 dX6_has_77 rfl h13) ?_
            refine Cv.go (pc' := 81) (go_aload_n (i := 0) (x := 40) dX6_has_80 rfl rfl) ?_
            refine Cv.go (pc' := 82) (go_iload_n (i := 1) (x := a1) dX6_has_81 rfl rfl) ?_
            refine Cv.bnd fun v23 m24 e25 => ?_
            have C26 := kc_X6_spendOf m7 a1 hS v23 m24 e25
            refine Cv.go (pc' := 85) (st' := [.int v23]) (go_callV (As := [.int a1]) (st := []) C26 (by decide) ok_X6_spendOf li_X6_spendOf ls_X6_spendOf lm_X6_379 cls6 (sx_k40 hS) rfl rfl (Nat.le_of_ble_eq_true rfl) dX6_has_82) ?_
            have zm24 := C26.1.2.2 rfl
            have hS := hS.sh zm24
            refine Cv.go (pc' := 106) (go_goto (tgt := 106) dX6_has_85 rfl) ?_
            exact Cv.ret dX6_has_106 rfl
          · refine Cv.go (pc' := 88) (go_icmp_ne_t (tgt := 88) dX6_has_77 rfl h13) ?_
            refine Cv.go (pc' := 89) (go_iload_n (i := 2) (x := a2) dX6_has_88 rfl rfl) ?_
            refine Cv.go (pc' := 90) (go_iconst dX6_has_89 ic_5) ?_
            refine Cv.ite (fun h14 => ?_) (fun h14 => ?_)
            · refine Cv.go (pc' := 93) (go_icmp_ne_f 101 dX6_has_90 rfl h14) ?_
              refine Cv.go (pc' := 94) (go_aload_n (i := 0) (x := 40) dX6_has_93 rfl rfl) ?_
              refine Cv.go (pc' := 95) (go_iload_n (i := 1) (x := a1) dX6_has_94 rfl rfl) ?_
              refine Cv.bnd fun v19 m20 e21 => ?_
              have C22 := kc_X6_goneOf m7 a1 hS v19 m20 e21
              refine Cv.go (pc' := 98) (st' := [.int v19]) (go_callV (As := [.int a1]) (st := []) C22 (by decide) ok_X6_goneOf li_X6_goneOf ls_X6_goneOf lm_X6_382 cls6 (sx_k40 hS) rfl rfl (Nat.le_of_ble_eq_true rfl) dX6_has_95) ?_
              have zm20 := C22.1.2.2 rfl
              have hS := hS.sh zm20
              refine Cv.go (pc' := 106) (go_goto (tgt := 106) dX6_has_98 rfl) ?_
              exact Cv.ret dX6_has_106 rfl
            · refine Cv.go (pc' := 101) (go_icmp_ne_t (tgt := 101) dX6_has_90 rfl h14) ?_
              refine Cv.go (pc' := 102) (go_aload_n (i := 0) (x := 40) dX6_has_101 rfl rfl) ?_
              refine Cv.go (pc' := 103) (go_iload_n (i := 1) (x := a1) dX6_has_102 rfl rfl) ?_
              refine Cv.bnd fun v15 m16 e17 => ?_
              have C18 := kc_X6_taxOf m7 a1 hS v15 m16 e17
              refine Cv.go (pc' := 106) (st' := [.int v15]) (go_callV (As := [.int a1]) (st := []) C18 (by decide) ok_X6_taxOf li_X6_taxOf ls_X6_taxOf lm_X6_385 cls6 (sx_k40 hS) rfl rfl (Nat.le_of_ble_eq_true rfl) dX6_has_103) ?_
              have zm16 := C18.1.2.2 rfl
              have hS := hS.sh zm16
              exact Cv.ret dX6_has_106 rfl
      · refine Cv.go (pc' := 27) (go_icmp_ge_f 62 dX6_has_24 rfl h11) ?_
        refine Cv.go (pc' := 28) (go_iload_n (i := 2) (x := a2) dX6_has_27 rfl rfl) ?_
        refine Cv.ite (fun h31 => ?_) (fun h31 => ?_)
        · refine Cv.go (pc' := 31) (go_if_ne_f 39 dX6_has_28 rfl h31) ?_
          refine Cv.go (pc' := 32) (go_aload_n (i := 0) (x := 40) dX6_has_31 rfl rfl) ?_
          refine Cv.go (pc' := 33) (go_iload_n (i := 1) (x := a1) dX6_has_32 rfl rfl) ?_
          refine Cv.bnd fun v45 m46 e47 => ?_
          have C48 := kc_X6_richOf m7 a1 hS v45 m46 e47
          refine Cv.go (pc' := 36) (st' := [.int v45]) (go_callV (As := [.int a1]) (st := []) C48 (by decide) ok_X6_richOf li_X6_richOf ls_X6_richOf lm_X6_370 cls6 (sx_k40 hS) rfl rfl (Nat.le_of_ble_eq_true rfl) dX6_has_33) ?_
          have zm46 := C48.1.2.2 rfl
          have hS := hS.sh zm46
          refine Cv.go (pc' := 61) (go_goto (tgt := 61) dX6_has_36 rfl) ?_
          exact Cv.ret dX6_has_61 rfl
        · refine Cv.go (pc' := 39) (go_if_ne_t (tgt := 39) dX6_has_28 rfl h31) ?_
          refine Cv.go (pc' := 40) (go_iload_n (i := 2) (x := a2) dX6_has_39 rfl rfl) ?_
          refine Cv.go (pc' := 41) (go_iconst dX6_has_40 ic_1) ?_
          refine Cv.ite (fun h32 => ?_) (fun h32 => ?_)
          · refine Cv.go (pc' := 44) (go_icmp_ne_f 52 dX6_has_41 rfl h32) ?_
            refine Cv.go (pc' := 45) (go_aload_n (i := 0) (x := 40) dX6_has_44 rfl rfl) ?_
            refine Cv.go (pc' := 46) (go_iload_n (i := 1) (x := a1) dX6_has_45 rfl rfl) ?_
            refine Cv.bnd fun v41 m42 e43 => ?_
            have C44 := kc_X6_purseOf m7 a1 hS v41 m42 e43
            refine Cv.go (pc' := 49) (st' := [.int v41]) (go_callV (As := [.int a1]) (st := []) C44 (by decide) ok_X6_purseOf li_X6_purseOf ls_X6_purseOf lm_X6_359 cls6 (sx_k40 hS) rfl rfl (Nat.le_of_ble_eq_true rfl) dX6_has_46) ?_
            have zm42 := C44.1.2.2 rfl
            have hS := hS.sh zm42
            refine Cv.go (pc' := 61) (go_goto (tgt := 61) dX6_has_49 rfl) ?_
            exact Cv.ret dX6_has_61 rfl
          · refine Cv.go (pc' := 52) (go_icmp_ne_t (tgt := 52) dX6_has_41 rfl h32) ?_
            refine Cv.go (pc' := 53) (go_aload_n (i := 0) (x := 40) dX6_has_52 rfl rfl) ?_
            refine Cv.go (pc' := 54) (go_aload_n (i := 0) (x := 40) dX6_has_53 rfl rfl) ?_
            refine Cv.go (pc' := 55) (go_iload_n (i := 1) (x := a1) dX6_has_54 rfl rfl) ?_
            refine Cv.bnd fun v33 m34 e35 => ?_
            have C36 := kc_X6_purseOf m7 a1 hS v33 m34 e35
            refine Cv.go (pc' := 58) (st' := [.int v33, .ref 40]) (go_callV (As := [.int a1]) (st := [.ref 40]) C36 (by decide) ok_X6_purseOf li_X6_purseOf ls_X6_purseOf lm_X6_359 cls6 (sx_k40 hS) rfl rfl (Nat.le_of_ble_eq_true rfl) dX6_has_55) ?_
            have zm34 := C36.1.2.2 rfl
            have hS := hS.sh zm34
            refine Cv.bnd fun v37 m38 e39 => ?_
            have C40 := kc_X6_valuesOf m34 v33 hS v37 m38 e39
            refine Cv.go (pc' := 61) (st' := [.int v37]) (go_callV (As := [.int v33]) (st := []) C40 (by decide) ok_X6_valuesOf li_X6_valuesOf ls_X6_valuesOf lm_X6_373 cls6 (sx_k40 hS) rfl rfl (Nat.le_of_ble_eq_true rfl) dX6_has_58) ?_
            have zm38 := C40.1.2.2 rfl
            have hS := hS.sh zm38
            exact Cv.ret dX6_has_61 rfl
theorem c_X6_run_76 : ∀ (m : Mem) (s0 : Int32) (hS : ShM m), Cv true (cX6_run, 5, RX6, 46, ((false, none) : IK)) .ireturn eI (F_X6_run_76 m s0) m 76 [.ref 40, .null, .null, .null, .null] [.int s0] := by
  intro m s0 hS
  unfold F_X6_run_76
  refine Cv.go (pc' := 78) (ls' := [.ref 40, .null, .null, .null, .int s0]) (go_istore dX6_run_76 (by decide) rfl) ?_
  refine Cv.go (pc' := 79) (go_aload_n (i := 0) (x := 40) dX6_run_78 rfl rfl) ?_
  refine Cv.bnd fun v38 m39 e40 => ?_
  have C41 := kc_X6_laysBack m hS v38 m39 e40
  refine Cv.go (pc' := 82) (st' := []) (go_callV (As := []) (st := []) C41 (by decide) ok_X6_laysBack li_X6_laysBack ls_X6_laysBack lm_X6_365 cls6 (sx_k40 hS) rfl rfl (Nat.le_of_ble_eq_true rfl) dX6_run_79) ?_
  have zm39 := C41.1.2.2 rfl
  have hS := hS.sh zm39
  refine Cv.go (pc' := 84) (go_iload (i := 4) (x := s0) dX6_run_82 rfl) ?_
  exact Cv.ret dX6_run_84 rfl
theorem c_X6_run_29 : ∀ (m : Mem) (hS : ShM m), Cv true (cX6_run, 5, RX6, 46, ((false, none) : IK)) .ireturn eI (F_X6_run_29 m) m 29 [.null, .null, .null, .null, .null] [] := by
  intro m hS
  unfold F_X6_run_29
  refine Cv.go (pc' := 31) (go_ldc dX6_run_29 lc_X6_103) ?_
  exact Cv.ret dX6_run_31 rfl
theorem c_X6_run_39 : ∀ n, ∀ (m : Mem) (a1 : Int32) (a2 : Int32) (a3 : Int32) (a4 : Int32) (hS : ShM m), Cv true (cX6_run, 5, RX6, 46, ((false, none) : IK)) .ireturn eI (F_X6_run_39 n m a1 a2 a3 a4) m 39 [.ref 40, .int a1, .int a2, .int a3, .int a4] [] := by
  intro n
  induction n with
  | zero => intro m a1 a2 a3 a4 hS; exact Cv.no
  | succ n ih =>
    intro m a1 a2 a3 a4 hS
    unfold F_X6_run_39
    refine Cv.go (pc' := 41) (go_iload (i := 4) (x := a4) dX6_run_39 rfl) ?_
    refine Cv.go (pc' := 42) (go_iload_n (i := 2) (x := a2) dX6_run_41 rfl rfl) ?_
    refine Cv.ite (fun h20 => ?_) (fun h20 => ?_)
    · refine Cv.go (pc' := 56) (go_icmp_ge_t (tgt := 56) dX6_run_42 rfl h20) ?_
      refine Cv.go (pc' := 57) (go_iload_n (i := 3) (x := a3) dX6_run_56 rfl rfl) ?_
      refine Cv.ite (fun h21 => ?_) (fun h21 => ?_)
      · refine Cv.go (pc' := 60) (go_if_ne_f 68 dX6_run_57 rfl h21) ?_
        refine Cv.go (pc' := 61) (go_aload_n (i := 0) (x := 40) dX6_run_60 rfl rfl) ?_
        refine Cv.go (pc' := 62) (go_iload_n (i := 1) (x := a1) dX6_run_61 rfl rfl) ?_
        refine Cv.bnd fun v30 m31 e32 => ?_
        have C33 := kc_X6_richOf m a1 hS v30 m31 e32
        refine Cv.go (pc' := 65) (st' := [.int v30]) (go_callV (As := [.int a1]) (st := []) C33 (by decide) ok_X6_richOf li_X6_richOf ls_X6_richOf lm_X6_370 cls6 (sx_k40 hS) rfl rfl (Nat.le_of_ble_eq_true rfl) dX6_run_62) ?_
        have zm31 := C33.1.2.2 rfl
        have hS := hS.sh zm31
        refine Cv.go (pc' := 76) (go_goto (tgt := 76) dX6_run_65 rfl) ?_
        refine Cv.weak (ls' := [.ref 40, .null, .null, .null, .null]) (⟨Or.inr rfl, ⟨Or.inl rfl, ⟨Or.inl rfl, ⟨Or.inl rfl, ⟨Or.inl rfl, True.intro⟩⟩⟩⟩⟩) ?_
        exact c_X6_run_76 m31 v30 hS
      · refine Cv.go (pc' := 68) (go_if_ne_t (tgt := 68) dX6_run_57 rfl h21) ?_
        refine Cv.go (pc' := 69) (go_aload_n (i := 0) (x := 40) dX6_run_68 rfl rfl) ?_
        refine Cv.go (pc' := 70) (go_iload_n (i := 1) (x := a1) dX6_run_69 rfl rfl) ?_
        refine Cv.bnd fun v22 m23 e24 => ?_
        have C25 := kc_X6_purseOf m a1 hS v22 m23 e24
        refine Cv.go (pc' := 73) (st' := [.int v22]) (go_callV (As := [.int a1]) (st := []) C25 (by decide) ok_X6_purseOf li_X6_purseOf ls_X6_purseOf lm_X6_359 cls6 (sx_k40 hS) rfl rfl (Nat.le_of_ble_eq_true rfl) dX6_run_70) ?_
        have zm23 := C25.1.2.2 rfl
        have hS := hS.sh zm23
        refine Cv.bnd fun v26 m27 e28 => ?_
        have C29 := kc_X6_bitsOf m23 v22 v26 m27 e28
        refine Cv.go (pc' := 76) (st' := [.int v26]) (go_callS (As := [.int v22]) (st := []) C29 (by decide) ok_X6_bitsOf lt_X6_bitsOf lm_X6_338 rfl rfl (Nat.le_of_ble_eq_true rfl) dX6_run_73) ?_
        have zm27 := C29.1.2.2 rfl
        have hS := hS.sh zm27
        refine Cv.weak (ls' := [.ref 40, .null, .null, .null, .null]) (⟨Or.inr rfl, ⟨Or.inl rfl, ⟨Or.inl rfl, ⟨Or.inl rfl, ⟨Or.inl rfl, True.intro⟩⟩⟩⟩⟩) ?_
        exact c_X6_run_76 m27 v26 hS
    · refine Cv.go (pc' := 45) (go_icmp_ge_f 56 dX6_run_42 rfl h20) ?_
      refine Cv.go (pc' := 46) (go_aload_n (i := 0) (x := 40) dX6_run_45 rfl rfl) ?_
      refine Cv.bnd fun v34 m35 e36 => ?_
      have C37 := kc_X6_passes m hS v34 m35 e36
      refine Cv.go (pc' := 49) (st' := [.int v34]) (go_callV (As := []) (st := []) C37 (by decide) ok_X6_passes li_X6_passes ls_X6_passes lm_X6_341 cls6 (sx_k40 hS) rfl rfl (Nat.le_of_ble_eq_true rfl) dX6_run_46) ?_
      have zm35 := C37.1.2.2 rfl
      have hS := hS.sh zm35
      refine Cv.go (pc' := 50) (go_pop_i dX6_run_49) ?_
      refine Cv.go (pc' := 53) (ls' := [.ref 40, .int a1, .int a2, .int a3, .int (a4 + (1 : Int32))]) (go_iinc (x := a4) (v := a4 + (1 : Int32)) dX6_run_50 rfl rfl (by decide) rfl) ?_
      refine Cv.go (pc' := 39) (go_goto (tgt := 39) dX6_run_53 rfl) ?_
      exact ih m35 a1 a2 a3 (a4 + (1 : Int32)) hS
theorem kc_X6_run (m : Mem) (a1 : Int32) (a2 : Int32) (a3 : Int32) (hS : ShM m) : ∀ v mE, F_X6_run m a1 a2 a3 = some (v, mE) → Con true kX6_run 46 [.ref 40, .int a1, .int a2, .int a3] m (eI v) mE := by
  refine Con.of (ini := false) (ls0 := [.ref 40, .int a1, .int a2, .int a3, .null]) (ri := .ireturn) (by decide) (by intro z; cases z) rfl (Nat.le_of_ble_eq_true rfl) (fun v mE _ => RetTy.i) ?_
  show Cv true (cX6_run, 5, RX6, 46, ((false, none) : IK)) .ireturn eI (F_X6_run m a1 a2 a3) m 0 [.ref 40, .int a1, .int a2, .int a3, .null] []
  unfold F_X6_run
  refine Cv.go (pc' := 1) (go_iload_n (i := 1) (x := a1) dX6_run_0 rfl rfl) ?_
  refine Cv.bnd fun v1 m2 e3 => ?_
  have C4 := kc_X6_isOwner m a1 v1 m2 e3
  refine Cv.go (pc' := 4) (st' := [.int (bz v1)]) (go_callS (As := [.int a1]) (st := []) C4 (by decide) ok_X6_isOwner lt_X6_isOwner lm_X6_344 rfl rfl (Nat.le_of_ble_eq_true rfl) dX6_run_1) ?_
  have zm2 := C4.1.2.2 rfl
  have hS := hS.sh zm2
  refine Cv.ite (fun h5 => ?_) (fun h5 => ?_)
  · refine Cv.go (pc' := 29) (go_if_eq_t (tgt := 29) dX6_run_4 rfl h5) ?_
    refine Cv.weak (ls' := [.null, .null, .null, .null, .null]) (⟨Or.inl rfl, ⟨Or.inl rfl, ⟨Or.inl rfl, ⟨Or.inl rfl, ⟨Or.inr rfl, True.intro⟩⟩⟩⟩⟩) ?_
    exact c_X6_run_29 m2 hS
  · refine Cv.go (pc' := 7) (go_if_eq_f 29 dX6_run_4 rfl h5) ?_
    refine Cv.go (pc' := 8) (go_iload_n (i := 2) (x := a2) dX6_run_7 rfl rfl) ?_
    refine Cv.go (pc' := 9) (go_i2l dX6_run_8) ?_
    refine Cv.go (pc' := 10) (go_lconst (v := 0) dX6_run_9 (by decide)) ?_
    refine Cv.go (pc' := 13) (go_ldc2 dX6_run_10 ll_X6_388) ?_
    refine Cv.bnd fun v6 m7 e8 => ?_
    have C9 := kc_X6_in m2 a2.toInt64 (0 : Int64) (40 : Int64) v6 m7 e8
    refine Cv.go (pc' := 16) (st' := [.int (bz v6)]) (go_callS (As := [.long a2.toInt64, .long (0 : Int64), .long (40 : Int64)]) (st := []) C9 (by decide) ok_X6_in lt_X6_in lm_X6_67 rfl rfl (Nat.le_of_ble_eq_true rfl) dX6_run_13) ?_
    have zm7 := C9.1.2.2 rfl
    have hS := hS.sh zm7
    refine Cv.ite (fun h10 => ?_) (fun h10 => ?_)
    · refine Cv.go (pc' := 29) (go_if_eq_t (tgt := 29) dX6_run_16 rfl h10) ?_
      refine Cv.weak (ls' := [.null, .null, .null, .null, .null]) (⟨Or.inl rfl, ⟨Or.inl rfl, ⟨Or.inl rfl, ⟨Or.inl rfl, ⟨Or.inr rfl, True.intro⟩⟩⟩⟩⟩) ?_
      exact c_X6_run_29 m7 hS
    · refine Cv.go (pc' := 19) (go_if_eq_f 29 dX6_run_16 rfl h10) ?_
      refine Cv.go (pc' := 20) (go_iload_n (i := 3) (x := a3) dX6_run_19 rfl rfl) ?_
      refine Cv.go (pc' := 21) (go_i2l dX6_run_20) ?_
      refine Cv.go (pc' := 22) (go_lconst (v := 0) dX6_run_21 (by decide)) ?_
      refine Cv.go (pc' := 23) (go_lconst (v := 1) dX6_run_22 (by decide)) ?_
      refine Cv.bnd fun v11 m12 e13 => ?_
      have C14 := kc_X6_in m7 a3.toInt64 (0 : Int64) (1 : Int64) v11 m12 e13
      refine Cv.go (pc' := 26) (st' := [.int (bz v11)]) (go_callS (As := [.long a3.toInt64, .long (0 : Int64), .long (1 : Int64)]) (st := []) C14 (by decide) ok_X6_in lt_X6_in lm_X6_67 rfl rfl (Nat.le_of_ble_eq_true rfl) dX6_run_23) ?_
      have zm12 := C14.1.2.2 rfl
      have hS := hS.sh zm12
      refine Cv.ite (fun h15 => ?_) (fun h15 => ?_)
      · refine Cv.go (pc' := 29) (go_if_ne_f 32 dX6_run_26 rfl h15) ?_
        refine Cv.weak (ls' := [.null, .null, .null, .null, .null]) (⟨Or.inl rfl, ⟨Or.inl rfl, ⟨Or.inl rfl, ⟨Or.inl rfl, ⟨Or.inr rfl, True.intro⟩⟩⟩⟩⟩) ?_
        exact c_X6_run_29 m12 hS
      · refine Cv.go (pc' := 32) (go_if_ne_t (tgt := 32) dX6_run_26 rfl h15) ?_
        refine Cv.go (pc' := 33) (go_aload_n (i := 0) (x := 40) dX6_run_32 rfl rfl) ?_
        refine Cv.bnd fun v16 m17 e18 => ?_
        have C19 := kc_X6_laysAside m12 hS v16 m17 e18
        refine Cv.go (pc' := 36) (st' := []) (go_callV (As := []) (st := []) C19 (by decide) ok_X6_laysAside li_X6_laysAside ls_X6_laysAside lm_X6_362 cls6 (sx_k40 hS) rfl rfl (Nat.le_of_ble_eq_true rfl) dX6_run_33) ?_
        have zm17 := C19.1.2.2 rfl
        have hS := hS.sh zm17
        refine Cv.go (pc' := 37) (go_iconst dX6_run_36 ic_0) ?_
        refine Cv.go (pc' := 39) (ls' := [.ref 40, .int a1, .int a2, .int a3, .int (0 : Int32)]) (go_istore dX6_run_37 (by decide) rfl) ?_
        exact c_X6_run_39 FU m17 a1 a2 a3 (0 : Int32) hS
theorem c_X6_overOf_102 (K15 : Mem → Int32 → Int32 → Int32 → Int32 → Int32 → Option (Int32 × Mem)) (hK15 : ∀ (m : Mem) (a2 : Int32) (a3 : Int32) (a4 : Int32) (a5 : Int32) (a6 : Int32) (hS : ShM m), Cv true (cX6_overOf, 9, RX6, 46, ((false, none) : IK)) .ireturn eI (K15 m a2 a3 a4 a5 a6) m 15 [.ref 40, .null, .int a2, .int a3, .int a4, .int a5, .int a6, .null, .null] []) : ∀ (m : Mem) (a2 : Int32) (a3 : Int32) (a4 : Int32) (a5 : Int32) (a6 : Int32) (hS : ShM m), Cv true (cX6_overOf, 9, RX6, 46, ((false, none) : IK)) .ireturn eI (F_X6_overOf_102 K15 m a2 a3 a4 a5 a6) m 102 [.ref 40, .null, .int a2, .int a3, .int a4, .int a5, .int a6, .null, .null] [] := by
  intro m a2 a3 a4 a5 a6 hS
  unfold F_X6_overOf_102
  refine Cv.go (pc' := 105) (ls' := [.ref 40, .null, .int a2, .int a3, .int a4, .int a5, .int (a6 + (1 : Int32)), .null, .null]) (go_iinc (x := a6) (v := a6 + (1 : Int32)) dX6_overOf_102 rfl rfl (by decide) rfl) ?_
  refine Cv.go (pc' := 15) (go_goto (tgt := 15) dX6_overOf_105 rfl) ?_
  exact hK15 m a2 a3 a4 a5 (a6 + (1 : Int32)) hS
theorem c_X6_overOf_94 (K15 : Mem → Int32 → Int32 → Int32 → Int32 → Int32 → Option (Int32 × Mem)) (hK15 : ∀ (m : Mem) (a2 : Int32) (a3 : Int32) (a4 : Int32) (a5 : Int32) (a6 : Int32) (hS : ShM m), Cv true (cX6_overOf, 9, RX6, 46, ((false, none) : IK)) .ireturn eI (K15 m a2 a3 a4 a5 a6) m 15 [.ref 40, .null, .int a2, .int a3, .int a4, .int a5, .int a6, .null, .null] []) : ∀ (m : Mem) (a2 : Int32) (a3 : Int32) (a6 : Int32) (a7 : Int32) (hS : ShM m), Cv true (cX6_overOf, 9, RX6, 46, ((false, none) : IK)) .ireturn eI (F_X6_overOf_94 K15 m a2 a3 a6 a7) m 94 [.ref 40, .null, .int a2, .int a3, .null, .null, .int a6, .int a7, .null] [] := by
  intro m a2 a3 a6 a7 hS
  unfold F_X6_overOf_94
  refine Cv.go (pc' := 96) (go_iload (i := 6) (x := a6) dX6_overOf_94 rfl) ?_
  refine Cv.go (pc' := 98) (ls' := [.ref 40, .null, .int a2, .int a3, .int a6, .null, .int a6, .int a7, .null]) (go_istore dX6_overOf_96 (by decide) rfl) ?_
  refine Cv.go (pc' := 100) (go_iload (i := 7) (x := a7) dX6_overOf_98 rfl) ?_
  refine Cv.go (pc' := 102) (ls' := [.ref 40, .null, .int a2, .int a3, .int a6, .int a7, .int a6, .int a7, .null]) (go_istore dX6_overOf_100 (by decide) rfl) ?_
  refine Cv.weak (ls' := [.ref 40, .null, .int a2, .int a3, .int a6, .int a7, .int a6, .null, .null]) (⟨Or.inr rfl, ⟨Or.inr rfl, ⟨Or.inr rfl, ⟨Or.inr rfl, ⟨Or.inr rfl, ⟨Or.inr rfl, ⟨Or.inr rfl, ⟨Or.inl rfl, ⟨Or.inr rfl, True.intro⟩⟩⟩⟩⟩⟩⟩⟩⟩) ?_
  exact c_X6_overOf_102 K15 hK15 m a2 a3 a6 a7 a6 hS
theorem c_X6_overOf_54 (K15 : Mem → Int32 → Int32 → Int32 → Int32 → Int32 → Option (Int32 × Mem)) (hK15 : ∀ (m : Mem) (a2 : Int32) (a3 : Int32) (a4 : Int32) (a5 : Int32) (a6 : Int32) (hS : ShM m), Cv true (cX6_overOf, 9, RX6, 46, ((false, none) : IK)) .ireturn eI (K15 m a2 a3 a4 a5 a6) m 15 [.ref 40, .null, .int a2, .int a3, .int a4, .int a5, .int a6, .null, .null] []) : ∀ (m : Mem) (a2 : Int32) (a3 : Int32) (a4 : Int32) (a5 : Int32) (a6 : Int32) (a7 : Int32) (s0 : Int32) (hS : ShM m), Cv true (cX6_overOf, 9, RX6, 46, ((false, none) : IK)) .ireturn eI (F_X6_overOf_54 K15 m a2 a3 a4 a5 a6 a7 s0) m 54 [.ref 40, .null, .int a2, .int a3, .int a4, .int a5, .int a6, .int a7, .null] [.int s0] := by
  intro m a2 a3 a4 a5 a6 a7 s0 hS
  unfold F_X6_overOf_54
  refine Cv.go (pc' := 56) (ls' := [.ref 40, .null, .int a2, .int a3, .int a4, .int a5, .int a6, .int a7, .int s0]) (go_istore dX6_overOf_54 (by decide) rfl) ?_
  refine Cv.go (pc' := 58) (go_iload (i := 8) (x := s0) dX6_overOf_56 rfl) ?_
  refine Cv.ite (fun h12 => ?_) (fun h12 => ?_)
  · refine Cv.go (pc' := 102) (go_if_eq_t (tgt := 102) dX6_overOf_58 rfl h12) ?_
    refine Cv.weak (ls' := [.ref 40, .null, .int a2, .int a3, .int a4, .int a5, .int a6, .null, .null]) (⟨Or.inr rfl, ⟨Or.inr rfl, ⟨Or.inr rfl, ⟨Or.inr rfl, ⟨Or.inr rfl, ⟨Or.inr rfl, ⟨Or.inr rfl, ⟨Or.inl rfl, ⟨Or.inl rfl, True.intro⟩⟩⟩⟩⟩⟩⟩⟩⟩) ?_
    exact c_X6_overOf_102 K15 hK15 m a2 a3 a4 a5 a6 hS
  · refine Cv.go (pc' := 61) (go_if_eq_f 102 dX6_overOf_58 rfl h12) ?_
    refine Cv.go (pc' := 63) (go_iload (i := 4) (x := a4) dX6_overOf_61 rfl) ?_
    refine Cv.go (pc' := 64) (go_iconst dX6_overOf_63 ic_n1) ?_
    refine Cv.ite (fun h13 => ?_) (fun h13 => ?_)
    · refine Cv.go (pc' := 94) (go_icmp_eq_t (tgt := 94) dX6_overOf_64 rfl h13) ?_
      refine Cv.weak (ls' := [.ref 40, .null, .int a2, .int a3, .null, .null, .int a6, .int a7, .null]) (⟨Or.inr rfl, ⟨Or.inr rfl, ⟨Or.inr rfl, ⟨Or.inr rfl, ⟨Or.inl rfl, ⟨Or.inl rfl, ⟨Or.inr rfl, ⟨Or.inr rfl, ⟨Or.inl rfl, True.intro⟩⟩⟩⟩⟩⟩⟩⟩⟩) ?_
      exact c_X6_overOf_94 K15 hK15 m a2 a3 a6 a7 hS
    · refine Cv.go (pc' := 67) (go_icmp_eq_f 94 dX6_overOf_64 rfl h13) ?_
      refine Cv.go (pc' := 69) (go_iload (i := 7) (x := a7) dX6_overOf_67 rfl) ?_
      refine Cv.go (pc' := 71) (go_iload (i := 5) (x := a5) dX6_overOf_69 rfl) ?_
      refine Cv.ite (fun h14 => ?_) (fun h14 => ?_)
      · refine Cv.go (pc' := 94) (go_icmp_lt_t (tgt := 94) dX6_overOf_71 rfl h14) ?_
        refine Cv.weak (ls' := [.ref 40, .null, .int a2, .int a3, .null, .null, .int a6, .int a7, .null]) (⟨Or.inr rfl, ⟨Or.inr rfl, ⟨Or.inr rfl, ⟨Or.inr rfl, ⟨Or.inl rfl, ⟨Or.inl rfl, ⟨Or.inr rfl, ⟨Or.inr rfl, ⟨Or.inl rfl, True.intro⟩⟩⟩⟩⟩⟩⟩⟩⟩) ?_
        exact c_X6_overOf_94 K15 hK15 m a2 a3 a6 a7 hS
      · refine Cv.go (pc' := 74) (go_icmp_lt_f 94 dX6_overOf_71 rfl h14) ?_
        refine Cv.go (pc' := 76) (go_iload (i := 7) (x := a7) dX6_overOf_74 rfl) ?_
        refine Cv.go (pc' := 78) (go_iload (i := 5) (x := a5) dX6_overOf_76 rfl) ?_
        refine Cv.ite (fun h15 => ?_) (fun h15 => ?_)
        · refine Cv.go (pc' := 81) (go_icmp_ne_f 102 dX6_overOf_78 rfl h15) ?_
          refine Cv.go (pc' := 83) (go_iload (i := 6) (x := a6) dX6_overOf_81 rfl) ?_
          refine Cv.bnd fun v16 m17 e18 => ?_
          have C19 := kc_X6_bitsOf m a6 v16 m17 e18
          refine Cv.go (pc' := 86) (st' := [.int v16]) (go_callS (As := [.int a6]) (st := []) C19 (by decide) ok_X6_bitsOf lt_X6_bitsOf lm_X6_338 rfl rfl (Nat.le_of_ble_eq_true rfl) dX6_overOf_83) ?_
          have zm17 := C19.1.2.2 rfl
          have hS := hS.sh zm17
          refine Cv.go (pc' := 88) (go_iload (i := 4) (x := a4) dX6_overOf_86 rfl) ?_
          refine Cv.bnd fun v20 m21 e22 => ?_
          have C23 := kc_X6_bitsOf m17 a4 v20 m21 e22
          refine Cv.go (pc' := 91) (st' := [.int v20, .int v16]) (go_callS (As := [.int a4]) (st := [.int v16]) C23 (by decide) ok_X6_bitsOf lt_X6_bitsOf lm_X6_338 rfl rfl (Nat.le_of_ble_eq_true rfl) dX6_overOf_88) ?_
          have zm21 := C23.1.2.2 rfl
          have hS := hS.sh zm21
          refine Cv.ite (fun h24 => ?_) (fun h24 => ?_)
          · refine Cv.go (pc' := 102) (go_icmp_ge_t (tgt := 102) dX6_overOf_91 rfl h24) ?_
            refine Cv.weak (ls' := [.ref 40, .null, .int a2, .int a3, .int a4, .int a5, .int a6, .null, .null]) (⟨Or.inr rfl, ⟨Or.inr rfl, ⟨Or.inr rfl, ⟨Or.inr rfl, ⟨Or.inr rfl, ⟨Or.inr rfl, ⟨Or.inr rfl, ⟨Or.inl rfl, ⟨Or.inl rfl, True.intro⟩⟩⟩⟩⟩⟩⟩⟩⟩) ?_
            exact c_X6_overOf_102 K15 hK15 m21 a2 a3 a4 a5 a6 hS
          · refine Cv.go (pc' := 94) (go_icmp_ge_f 102 dX6_overOf_91 rfl h24) ?_
            refine Cv.weak (ls' := [.ref 40, .null, .int a2, .int a3, .null, .null, .int a6, .int a7, .null]) (⟨Or.inr rfl, ⟨Or.inr rfl, ⟨Or.inr rfl, ⟨Or.inr rfl, ⟨Or.inl rfl, ⟨Or.inl rfl, ⟨Or.inr rfl, ⟨Or.inr rfl, ⟨Or.inl rfl, True.intro⟩⟩⟩⟩⟩⟩⟩⟩⟩) ?_
            exact c_X6_overOf_94 K15 hK15 m21 a2 a3 a6 a7 hS
        · refine Cv.go (pc' := 102) (go_icmp_ne_t (tgt := 102) dX6_overOf_78 rfl h15) ?_
          refine Cv.weak (ls' := [.ref 40, .null, .int a2, .int a3, .int a4, .int a5, .int a6, .null, .null]) (⟨Or.inr rfl, ⟨Or.inr rfl, ⟨Or.inr rfl, ⟨Or.inr rfl, ⟨Or.inr rfl, ⟨Or.inr rfl, ⟨Or.inr rfl, ⟨Or.inl rfl, ⟨Or.inl rfl, True.intro⟩⟩⟩⟩⟩⟩⟩⟩⟩) ?_
          exact c_X6_overOf_102 K15 hK15 m a2 a3 a4 a5 a6 hS
theorem c_X6_overOf_53 (K15 : Mem → Int32 → Int32 → Int32 → Int32 → Int32 → Option (Int32 × Mem)) (hK15 : ∀ (m : Mem) (a2 : Int32) (a3 : Int32) (a4 : Int32) (a5 : Int32) (a6 : Int32) (hS : ShM m), Cv true (cX6_overOf, 9, RX6, 46, ((false, none) : IK)) .ireturn eI (K15 m a2 a3 a4 a5 a6) m 15 [.ref 40, .null, .int a2, .int a3, .int a4, .int a5, .int a6, .null, .null] []) : ∀ (m : Mem) (a2 : Int32) (a3 : Int32) (a4 : Int32) (a5 : Int32) (a6 : Int32) (a7 : Int32) (hS : ShM m), Cv true (cX6_overOf, 9, RX6, 46, ((false, none) : IK)) .ireturn eI (F_X6_overOf_53 K15 m a2 a3 a4 a5 a6 a7) m 53 [.ref 40, .null, .int a2, .int a3, .int a4, .int a5, .int a6, .int a7, .null] [] := by
  intro m a2 a3 a4 a5 a6 a7 hS
  unfold F_X6_overOf_53
  refine Cv.go (pc' := 54) (go_iconst dX6_overOf_53 ic_0) ?_
  exact c_X6_overOf_54 K15 hK15 m a2 a3 a4 a5 a6 a7 (0 : Int32) hS
theorem c_X6_overOf_15 : ∀ n, ∀ (m : Mem) (a2 : Int32) (a3 : Int32) (a4 : Int32) (a5 : Int32) (a6 : Int32) (hS : ShM m), Cv true (cX6_overOf, 9, RX6, 46, ((false, none) : IK)) .ireturn eI (F_X6_overOf_15 n m a2 a3 a4 a5 a6) m 15 [.ref 40, .null, .int a2, .int a3, .int a4, .int a5, .int a6, .null, .null] [] := by
  intro n
  induction n with
  | zero => intro m a2 a3 a4 a5 a6 hS; exact Cv.no
  | succ n ih =>
    intro m a2 a3 a4 a5 a6 hS
    unfold F_X6_overOf_15
    refine Cv.go (pc' := 17) (go_iload (i := 6) (x := a6) dX6_overOf_15 rfl) ?_
    refine Cv.go (pc' := 18) (go_iconst dX6_overOf_17 ic_1) ?_
    refine Cv.go (pc' := 19) (go_aload_n (i := 0) (x := 40) dX6_overOf_18 rfl rfl) ?_
    refine Cv.go (pc' := 22) (go_getI (i := 10) cls6 (sx_k40 hS) (by decide) rfl lf_X6_64 (by decide) dX6_overOf_19) ?_
    refine Cv.go (pc' := 23) (go_ishl dX6_overOf_22) ?_
    refine Cv.ite (fun h5 => ?_) (fun h5 => ?_)
    · refine Cv.go (pc' := 108) (go_icmp_ge_t (tgt := 108) dX6_overOf_23 rfl h5) ?_
      refine Cv.go (pc' := 110) (go_iload (i := 4) (x := a4) dX6_overOf_108 rfl) ?_
      exact Cv.ret dX6_overOf_110 rfl
    · refine Cv.go (pc' := 26) (go_icmp_ge_f 108 dX6_overOf_23 rfl h5) ?_
      refine Cv.go (pc' := 27) (go_aload_n (i := 0) (x := 40) dX6_overOf_26 rfl rfl) ?_
      refine Cv.go (pc' := 29) (go_iload (i := 6) (x := a6) dX6_overOf_27 rfl) ?_
      refine Cv.bnd fun v6 m7 e8 => ?_
      have C9 := kc_X6_valuesOf m a6 hS v6 m7 e8
      refine Cv.go (pc' := 32) (st' := [.int v6]) (go_callV (As := [.int a6]) (st := []) C9 (by decide) ok_X6_valuesOf li_X6_valuesOf ls_X6_valuesOf lm_X6_373 cls6 (sx_k40 hS) rfl rfl (Nat.le_of_ble_eq_true rfl) dX6_overOf_29) ?_
      have zm7 := C9.1.2.2 rfl
      have hS := hS.sh zm7
      refine Cv.go (pc' := 34) (ls' := [.ref 40, .null, .int a2, .int a3, .int a4, .int a5, .int a6, .int v6, .null]) (go_istore dX6_overOf_32 (by decide) rfl) ?_
      refine Cv.go (pc' := 36) (go_iload (i := 6) (x := a6) dX6_overOf_34 rfl) ?_
      refine Cv.go (pc' := 37) (go_iload_n (i := 3) (x := a3) dX6_overOf_36 rfl rfl) ?_
      refine Cv.go (pc' := 38) (go_iconst dX6_overOf_37 ic_n1) ?_
      refine Cv.go (pc' := 39) (go_ixor dX6_overOf_38) ?_
      refine Cv.go (pc' := 40) (go_iand dX6_overOf_39) ?_
      refine Cv.ite (fun h10 => ?_) (fun h10 => ?_)
      · refine Cv.go (pc' := 43) (go_if_ne_f 53 dX6_overOf_40 rfl h10) ?_
        refine Cv.go (pc' := 45) (go_iload (i := 7) (x := v6) dX6_overOf_43 rfl) ?_
        refine Cv.go (pc' := 46) (go_iload_n (i := 2) (x := a2) dX6_overOf_45 rfl rfl) ?_
        refine Cv.ite (fun h11 => ?_) (fun h11 => ?_)
        · refine Cv.go (pc' := 53) (go_icmp_lt_t (tgt := 53) dX6_overOf_46 rfl h11) ?_
          exact c_X6_overOf_53 (F_X6_overOf_15 n) ih m7 a2 a3 a4 a5 a6 v6 hS
        · refine Cv.go (pc' := 49) (go_icmp_lt_f 53 dX6_overOf_46 rfl h11) ?_
          refine Cv.go (pc' := 50) (go_iconst dX6_overOf_49 ic_1) ?_
          refine Cv.go (pc' := 54) (go_goto (tgt := 54) dX6_overOf_50 rfl) ?_
          exact c_X6_overOf_54 (F_X6_overOf_15 n) ih m7 a2 a3 a4 a5 a6 v6 (1 : Int32) hS
      · refine Cv.go (pc' := 53) (go_if_ne_t (tgt := 53) dX6_overOf_40 rfl h10) ?_
        exact c_X6_overOf_53 (F_X6_overOf_15 n) ih m7 a2 a3 a4 a5 a6 v6 hS
theorem kc_X6_overOf (m : Mem) (a1 : Int32) (a2 : Int32) (hS : ShM m) : ∀ v mE, F_X6_overOf m a1 a2 = some (v, mE) → Con true kX6_overOf 46 [.ref 40, .int a1, .int a2] m (eI v) mE := by
  refine Con.of (ini := false) (ls0 := [.ref 40, .int a1, .int a2, .null, .null, .null, .null, .null, .null]) (ri := .ireturn) (by decide) (by intro z; cases z) rfl (Nat.le_of_ble_eq_true rfl) (fun v mE _ => RetTy.i) ?_
  show Cv true (cX6_overOf, 9, RX6, 46, ((false, none) : IK)) .ireturn eI (F_X6_overOf m a1 a2) m 0 [.ref 40, .int a1, .int a2, .null, .null, .null, .null, .null, .null] []
  unfold F_X6_overOf
  refine Cv.go (pc' := 1) (go_aload_n (i := 0) (x := 40) dX6_overOf_0 rfl rfl) ?_
  refine Cv.go (pc' := 2) (go_iload_n (i := 1) (x := a1) dX6_overOf_1 rfl rfl) ?_
  refine Cv.bnd fun v1 m2 e3 => ?_
  have C4 := kc_X6_purseOf m a1 hS v1 m2 e3
  refine Cv.go (pc' := 5) (st' := [.int v1]) (go_callV (As := [.int a1]) (st := []) C4 (by decide) ok_X6_purseOf li_X6_purseOf ls_X6_purseOf lm_X6_359 cls6 (sx_k40 hS) rfl rfl (Nat.le_of_ble_eq_true rfl) dX6_overOf_2) ?_
  have zm2 := C4.1.2.2 rfl
  have hS := hS.sh zm2
  refine Cv.go (pc' := 6) (ls' := [.ref 40, .int a1, .int a2, .int v1, .null, .null, .null, .null, .null]) (go_istore_n dX6_overOf_5 rfl (by decide) rfl) ?_
  refine Cv.go (pc' := 7) (go_iconst dX6_overOf_6 ic_n1) ?_
  refine Cv.go (pc' := 9) (ls' := [.ref 40, .int a1, .int a2, .int v1, .int (-1 : Int32), .null, .null, .null, .null]) (go_istore dX6_overOf_7 (by decide) rfl) ?_
  refine Cv.go (pc' := 10) (go_iconst dX6_overOf_9 ic_0) ?_
  refine Cv.go (pc' := 12) (ls' := [.ref 40, .int a1, .int a2, .int v1, .int (-1 : Int32), .int (0 : Int32), .null, .null, .null]) (go_istore dX6_overOf_10 (by decide) rfl) ?_
  refine Cv.go (pc' := 13) (go_iconst dX6_overOf_12 ic_0) ?_
  refine Cv.go (pc' := 15) (ls' := [.ref 40, .int a1, .int a2, .int v1, .int (-1 : Int32), .int (0 : Int32), .int (0 : Int32), .null, .null]) (go_istore dX6_overOf_13 (by decide) rfl) ?_
  refine Cv.weak (ls' := [.ref 40, .null, .int a2, .int v1, .int (-1 : Int32), .int (0 : Int32), .int (0 : Int32), .null, .null]) (⟨Or.inr rfl, ⟨Or.inl rfl, ⟨Or.inr rfl, ⟨Or.inr rfl, ⟨Or.inr rfl, ⟨Or.inr rfl, ⟨Or.inr rfl, ⟨Or.inr rfl, ⟨Or.inr rfl, True.intro⟩⟩⟩⟩⟩⟩⟩⟩⟩) ?_
  exact c_X6_overOf_15 FU m2 a2 v1 (-1 : Int32) (0 : Int32) (0 : Int32) hS
theorem c_X6_exact_54 : ∀ (m : Mem) (a3 : Int32) (s0 : Int32) (hS : ShM m), Cv true (cX6_exact, 5, RX6, 47, ((false, none) : IK)) .ireturn eI (F_X6_exact_54 m a3 s0) m 54 [.ref 40, .null, .null, .int a3, .null] [.int s0] := by
  intro m a3 s0 hS
  unfold F_X6_exact_54
  refine Cv.go (pc' := 56) (ls' := [.ref 40, .null, .null, .int a3, .int s0]) (go_istore dX6_exact_54 (by decide) rfl) ?_
  refine Cv.go (pc' := 58) (go_iload (i := 4) (x := s0) dX6_exact_56 rfl) ?_
  refine Cv.go (pc' := 59) (go_iconst dX6_exact_58 ic_n1) ?_
  refine Cv.ite (fun h25 => ?_) (fun h25 => ?_)
  · refine Cv.go (pc' := 71) (go_icmp_eq_t (tgt := 71) dX6_exact_59 rfl h25) ?_
    refine Cv.go (pc' := 73) (go_iload (i := 4) (x := s0) dX6_exact_71 rfl) ?_
    refine Cv.go (pc' := 95) (go_goto (tgt := 95) dX6_exact_73 rfl) ?_
    exact Cv.ret dX6_exact_95 rfl
  · refine Cv.go (pc' := 62) (go_icmp_eq_f 71 dX6_exact_59 rfl h25) ?_
    refine Cv.go (pc' := 63) (go_iload_n (i := 3) (x := a3) dX6_exact_62 rfl rfl) ?_
    refine Cv.ite (fun h26 => ?_) (fun h26 => ?_)
    · refine Cv.go (pc' := 71) (go_if_eq_t (tgt := 71) dX6_exact_63 rfl h26) ?_
      refine Cv.go (pc' := 73) (go_iload (i := 4) (x := s0) dX6_exact_71 rfl) ?_
      refine Cv.go (pc' := 95) (go_goto (tgt := 95) dX6_exact_73 rfl) ?_
      exact Cv.ret dX6_exact_95 rfl
    · refine Cv.go (pc' := 66) (go_if_eq_f 71 dX6_exact_63 rfl h26) ?_
      refine Cv.go (pc' := 67) (go_iload_n (i := 3) (x := a3) dX6_exact_66 rfl rfl) ?_
      refine Cv.go (pc' := 68) (go_iconst dX6_exact_67 ic_2) ?_
      refine Cv.ite (fun h27 => ?_) (fun h27 => ?_)
      · refine Cv.go (pc' := 71) (go_icmp_ne_f 76 dX6_exact_68 rfl h27) ?_
        refine Cv.go (pc' := 73) (go_iload (i := 4) (x := s0) dX6_exact_71 rfl) ?_
        refine Cv.go (pc' := 95) (go_goto (tgt := 95) dX6_exact_73 rfl) ?_
        exact Cv.ret dX6_exact_95 rfl
      · refine Cv.go (pc' := 76) (go_icmp_ne_t (tgt := 76) dX6_exact_68 rfl h27) ?_
        refine Cv.go (pc' := 77) (go_iload_n (i := 3) (x := a3) dX6_exact_76 rfl rfl) ?_
        refine Cv.go (pc' := 78) (go_iconst dX6_exact_77 ic_1) ?_
        refine Cv.ite (fun h28 => ?_) (fun h28 => ?_)
        · refine Cv.go (pc' := 81) (go_icmp_ne_f 89 dX6_exact_78 rfl h28) ?_
          refine Cv.go (pc' := 83) (go_iload (i := 4) (x := s0) dX6_exact_81 rfl) ?_
          refine Cv.bnd fun v33 m34 e35 => ?_
          have C36 := kc_X6_bitsOf m s0 v33 m34 e35
          refine Cv.go (pc' := 86) (st' := [.int v33]) (go_callS (As := [.int s0]) (st := []) C36 (by decide) ok_X6_bitsOf lt_X6_bitsOf lm_X6_338 rfl rfl (Nat.le_of_ble_eq_true rfl) dX6_exact_83) ?_
          have zm34 := C36.1.2.2 rfl
          have hS := hS.sh zm34
          refine Cv.go (pc' := 95) (go_goto (tgt := 95) dX6_exact_86 rfl) ?_
          exact Cv.ret dX6_exact_95 rfl
        · refine Cv.go (pc' := 89) (go_icmp_ne_t (tgt := 89) dX6_exact_78 rfl h28) ?_
          refine Cv.go (pc' := 90) (go_aload_n (i := 0) (x := 40) dX6_exact_89 rfl rfl) ?_
          refine Cv.go (pc' := 92) (go_iload (i := 4) (x := s0) dX6_exact_90 rfl) ?_
          refine Cv.bnd fun v29 m30 e31 => ?_
          have C32 := kc_X6_valuesOf m s0 hS v29 m30 e31
          refine Cv.go (pc' := 95) (st' := [.int v29]) (go_callV (As := [.int s0]) (st := []) C32 (by decide) ok_X6_valuesOf li_X6_valuesOf ls_X6_valuesOf lm_X6_373 cls6 (sx_k40 hS) rfl rfl (Nat.le_of_ble_eq_true rfl) dX6_exact_92) ?_
          have zm30 := C32.1.2.2 rfl
          have hS := hS.sh zm30
          exact Cv.ret dX6_exact_95 rfl
theorem kc_X6_exact (m : Mem) (a1 : Int32) (a2 : Int32) (a3 : Int32) (hS : ShM m) : ∀ v mE, F_X6_exact m a1 a2 a3 = some (v, mE) → Con true kX6_exact 47 [.ref 40, .int a1, .int a2, .int a3] m (eI v) mE := by
  refine Con.of (ini := false) (ls0 := [.ref 40, .int a1, .int a2, .int a3, .null]) (ri := .ireturn) (by decide) (by intro z; cases z) rfl (Nat.le_of_ble_eq_true rfl) (fun v mE _ => RetTy.i) ?_
  show Cv true (cX6_exact, 5, RX6, 47, ((false, none) : IK)) .ireturn eI (F_X6_exact m a1 a2 a3) m 0 [.ref 40, .int a1, .int a2, .int a3, .null] []
  unfold F_X6_exact
  refine Cv.go (pc' := 1) (go_iload_n (i := 1) (x := a1) dX6_exact_0 rfl rfl) ?_
  refine Cv.bnd fun v1 m2 e3 => ?_
  have C4 := kc_X6_isOwner m a1 v1 m2 e3
  refine Cv.go (pc' := 4) (st' := [.int (bz v1)]) (go_callS (As := [.int a1]) (st := []) C4 (by decide) ok_X6_isOwner lt_X6_isOwner lm_X6_344 rfl rfl (Nat.le_of_ble_eq_true rfl) dX6_exact_1) ?_
  have zm2 := C4.1.2.2 rfl
  have hS := hS.sh zm2
  refine Cv.ite (fun h5 => ?_) (fun h5 => ?_)
  · refine Cv.go (pc' := 31) (go_if_eq_t (tgt := 31) dX6_exact_4 rfl h5) ?_
    refine Cv.go (pc' := 33) (go_bipush dX6_exact_31 ib_n2) ?_
    exact Cv.ret dX6_exact_33 rfl
  · refine Cv.go (pc' := 7) (go_if_eq_f 31 dX6_exact_4 rfl h5) ?_
    refine Cv.go (pc' := 8) (go_iload_n (i := 2) (x := a2) dX6_exact_7 rfl rfl) ?_
    refine Cv.go (pc' := 9) (go_i2l dX6_exact_8) ?_
    refine Cv.go (pc' := 10) (go_lconst (v := 0) dX6_exact_9 (by decide)) ?_
    refine Cv.go (pc' := 13) (go_ldc2 dX6_exact_10 ll_X6_351) ?_
    refine Cv.bnd fun v6 m7 e8 => ?_
    have C9 := kc_X6_in m2 a2.toInt64 (0 : Int64) (999 : Int64) v6 m7 e8
    refine Cv.go (pc' := 16) (st' := [.int (bz v6)]) (go_callS (As := [.long a2.toInt64, .long (0 : Int64), .long (999 : Int64)]) (st := []) C9 (by decide) ok_X6_in lt_X6_in lm_X6_67 rfl rfl (Nat.le_of_ble_eq_true rfl) dX6_exact_13) ?_
    have zm7 := C9.1.2.2 rfl
    have hS := hS.sh zm7
    refine Cv.ite (fun h10 => ?_) (fun h10 => ?_)
    · refine Cv.go (pc' := 31) (go_if_eq_t (tgt := 31) dX6_exact_16 rfl h10) ?_
      refine Cv.go (pc' := 33) (go_bipush dX6_exact_31 ib_n2) ?_
      exact Cv.ret dX6_exact_33 rfl
    · refine Cv.go (pc' := 19) (go_if_eq_f 31 dX6_exact_16 rfl h10) ?_
      refine Cv.go (pc' := 20) (go_iload_n (i := 3) (x := a3) dX6_exact_19 rfl rfl) ?_
      refine Cv.go (pc' := 21) (go_i2l dX6_exact_20) ?_
      refine Cv.go (pc' := 22) (go_lconst (v := 0) dX6_exact_21 (by decide)) ?_
      refine Cv.go (pc' := 25) (go_ldc2 dX6_exact_22 ll_X6_71) ?_
      refine Cv.bnd fun v11 m12 e13 => ?_
      have C14 := kc_X6_in m7 a3.toInt64 (0 : Int64) (3 : Int64) v11 m12 e13
      refine Cv.go (pc' := 28) (st' := [.int (bz v11)]) (go_callS (As := [.long a3.toInt64, .long (0 : Int64), .long (3 : Int64)]) (st := []) C14 (by decide) ok_X6_in lt_X6_in lm_X6_67 rfl rfl (Nat.le_of_ble_eq_true rfl) dX6_exact_25) ?_
      have zm12 := C14.1.2.2 rfl
      have hS := hS.sh zm12
      refine Cv.ite (fun h15 => ?_) (fun h15 => ?_)
      · refine Cv.go (pc' := 31) (go_if_ne_f 34 dX6_exact_28 rfl h15) ?_
        refine Cv.go (pc' := 33) (go_bipush dX6_exact_31 ib_n2) ?_
        exact Cv.ret dX6_exact_33 rfl
      · refine Cv.go (pc' := 34) (go_if_ne_t (tgt := 34) dX6_exact_28 rfl h15) ?_
        refine Cv.go (pc' := 35) (go_iload_n (i := 3) (x := a3) dX6_exact_34 rfl rfl) ?_
        refine Cv.go (pc' := 36) (go_iconst dX6_exact_35 ic_2) ?_
        refine Cv.ite (fun h16 => ?_) (fun h16 => ?_)
        · refine Cv.go (pc' := 48) (go_icmp_ge_t (tgt := 48) dX6_exact_36 rfl h16) ?_
          refine Cv.go (pc' := 49) (go_aload_n (i := 0) (x := 40) dX6_exact_48 rfl rfl) ?_
          refine Cv.go (pc' := 50) (go_iload_n (i := 1) (x := a1) dX6_exact_49 rfl rfl) ?_
          refine Cv.go (pc' := 51) (go_iload_n (i := 2) (x := a2) dX6_exact_50 rfl rfl) ?_
          refine Cv.bnd fun v17 m18 e19 => ?_
          have C20 := kc_X6_overOf m12 a1 a2 hS v17 m18 e19
          refine Cv.go (pc' := 54) (st' := [.int v17]) (go_callV (As := [.int a1, .int a2]) (st := []) C20 (by decide) ok_X6_overOf li_X6_overOf ls_X6_overOf lm_X6_390 cls6 (sx_k40 hS) rfl rfl (Nat.le_of_ble_eq_true rfl) dX6_exact_51) ?_
          have zm18 := C20.1.2.2 rfl
          have hS := hS.sh zm18
          refine Cv.weak (ls' := [.ref 40, .null, .null, .int a3, .null]) (⟨Or.inr rfl, ⟨Or.inl rfl, ⟨Or.inl rfl, ⟨Or.inr rfl, ⟨Or.inr rfl, True.intro⟩⟩⟩⟩⟩) ?_
          exact c_X6_exact_54 m18 a3 v17 hS
        · refine Cv.go (pc' := 39) (go_icmp_ge_f 48 dX6_exact_36 rfl h16) ?_
          refine Cv.go (pc' := 40) (go_aload_n (i := 0) (x := 40) dX6_exact_39 rfl rfl) ?_
          refine Cv.go (pc' := 41) (go_iload_n (i := 1) (x := a1) dX6_exact_40 rfl rfl) ?_
          refine Cv.go (pc' := 42) (go_iload_n (i := 2) (x := a2) dX6_exact_41 rfl rfl) ?_
          refine Cv.bnd fun v21 m22 e23 => ?_
          have C24 := kc_X6_exactOf m12 a1 a2 hS v21 m22 e23
          refine Cv.go (pc' := 45) (st' := [.int v21]) (go_callV (As := [.int a1, .int a2]) (st := []) C24 (by decide) ok_X6_exactOf li_X6_exactOf ls_X6_exactOf lm_X6_353 cls6 (sx_k40 hS) rfl rfl (Nat.le_of_ble_eq_true rfl) dX6_exact_42) ?_
          have zm22 := C24.1.2.2 rfl
          have hS := hS.sh zm22
          refine Cv.go (pc' := 54) (go_goto (tgt := 54) dX6_exact_45 rfl) ?_
          refine Cv.weak (ls' := [.ref 40, .null, .null, .int a3, .null]) (⟨Or.inr rfl, ⟨Or.inl rfl, ⟨Or.inl rfl, ⟨Or.inr rfl, ⟨Or.inr rfl, True.intro⟩⟩⟩⟩⟩) ?_
          exact c_X6_exact_54 m22 a3 v21 hS
theorem c_X6_wise_114 (K79 : Mem → Int32 → Int32 → Int32 → Int32 → Int32 → Option (Int32 × Mem)) (hK79 : ∀ (m : Mem) (a1 : Int32) (a2 : Int32) (a4 : Int32) (a5 : Int32) (a6 : Int32) (hS : ShM m), Cv true (cX6_wise, 11, RX6, 46, ((false, none) : IK)) .ireturn eI (K79 m a1 a2 a4 a5 a6) m 79 [.ref 40, .int a1, .int a2, .null, .int a4, .int a5, .int a6, .null, .null, .null, .null] []) : ∀ (m : Mem) (a1 : Int32) (a2 : Int32) (a4 : Int32) (a5 : Int32) (a6 : Int32) (s0 : Int32) (s1 : Int32) (hS : ShM m), Cv true (cX6_wise, 11, RX6, 46, ((false, none) : IK)) .ireturn eI (F_X6_wise_114 K79 m a1 a2 a4 a5 a6 s0 s1) m 114 [.ref 40, .int a1, .int a2, .null, .int a4, .int a5, .int a6, .null, .null, .null, .null] [.int s0, .int s1, .ref 48] := by
  intro m a1 a2 a4 a5 a6 s0 s1 hS
  unfold F_X6_wise_114
  refine Cv.gif fun g48 => ?_
  refine Cv.go (pc' := 115) (go_iastore (sx_k48 hS) g48 dX6_wise_114) ?_
  refine Cv.namM fun m49 em49 => ?_
  have zm49 : SameSh m m49 := em49 ▸ SameSh.d
  have hS := hS.sh zm49
  refine Cv.go (pc' := 118) (ls' := [.ref 40, .int a1, .int a2, .null, .int a4, .int a5, .int (a6 + (1 : Int32)), .null, .null, .null, .null]) (go_iinc (x := a6) (v := a6 + (1 : Int32)) dX6_wise_115 rfl rfl (by decide) rfl) ?_
  refine Cv.go (pc' := 79) (go_goto (tgt := 79) dX6_wise_118 rfl) ?_
  exact hK79 m49 a1 a2 a4 a5 (a6 + (1 : Int32)) hS
theorem c_X6_wise_185 (K135 : Mem → Int32 → Int32 → Int32 → Int32 → Int32 → Int32 → Option (Int32 × Mem)) (hK135 : ∀ (m : Mem) (a2 : Int32) (a4 : Int32) (a5 : Int32) (a6 : Int32) (a7 : Int32) (a8 : Int32) (hS : ShM m), Cv true (cX6_wise, 11, RX6, 46, ((false, none) : IK)) .ireturn eI (K135 m a2 a4 a5 a6 a7 a8) m 135 [.ref 40, .null, .int a2, .null, .int a4, .int a5, .int a6, .int a7, .int a8, .null, .null] []) (K152 : Mem → Int32 → Int32 → Int32 → Int32 → Int32 → Int32 → Int32 → Int32 → Option (Int32 × Mem)) (hK152 : ∀ (m : Mem) (a2 : Int32) (a4 : Int32) (a5 : Int32) (a6 : Int32) (a7 : Int32) (a8 : Int32) (a9 : Int32) (a10 : Int32) (hS : ShM m), Cv true (cX6_wise, 11, RX6, 46, ((false, none) : IK)) .ireturn eI (K152 m a2 a4 a5 a6 a7 a8 a9 a10) m 152 [.ref 40, .null, .int a2, .null, .int a4, .int a5, .int a6, .int a7, .int a8, .int a9, .int a10] []) : ∀ (m : Mem) (a2 : Int32) (a4 : Int32) (a5 : Int32) (a6 : Int32) (a7 : Int32) (a8 : Int32) (a10 : Int32) (s0 : Int32) (s1 : Int32) (hS : ShM m), Cv true (cX6_wise, 11, RX6, 46, ((false, none) : IK)) .ireturn eI (F_X6_wise_185 K135 K152 m a2 a4 a5 a6 a7 a8 a10 s0 s1) m 185 [.ref 40, .null, .int a2, .null, .int a4, .int a5, .int a6, .int a7, .int a8, .null, .int a10] [.int s0, .int s1] := by
  intro m a2 a4 a5 a6 a7 a8 a10 s0 s1 hS
  unfold F_X6_wise_185
  refine Cv.go (pc' := 186) (go_iadd dX6_wise_185) ?_
  refine Cv.namI fun x61 ex61 => ?_
  refine Cv.go (pc' := 188) (ls' := [.ref 40, .null, .int a2, .null, .int a4, .int a5, .int a6, .int a7, .int a8, .int x61, .int a10]) (go_istore dX6_wise_186 (by decide) rfl) ?_
  refine Cv.go (pc' := 191) (ls' := [.ref 40, .null, .int a2, .null, .int a4, .int a5, .int a6, .int a7, .int a8, .int x61, .int (a10 + (1 : Int32))]) (go_iinc (x := a10) (v := a10 + (1 : Int32)) dX6_wise_188 rfl rfl (by decide) rfl) ?_
  refine Cv.go (pc' := 152) (go_goto (tgt := 152) dX6_wise_191 rfl) ?_
  exact hK152 m a2 a4 a5 a6 a7 a8 x61 (a10 + (1 : Int32)) hS
theorem c_X6_wise_247 (K135 : Mem → Int32 → Int32 → Int32 → Int32 → Int32 → Int32 → Option (Int32 × Mem)) (hK135 : ∀ (m : Mem) (a2 : Int32) (a4 : Int32) (a5 : Int32) (a6 : Int32) (a7 : Int32) (a8 : Int32) (hS : ShM m), Cv true (cX6_wise, 11, RX6, 46, ((false, none) : IK)) .ireturn eI (K135 m a2 a4 a5 a6 a7 a8) m 135 [.ref 40, .null, .int a2, .null, .int a4, .int a5, .int a6, .int a7, .int a8, .null, .null] []) : ∀ (m : Mem) (a2 : Int32) (a4 : Int32) (a5 : Int32) (a6 : Int32) (a7 : Int32) (a8 : Int32) (hS : ShM m), Cv true (cX6_wise, 11, RX6, 46, ((false, none) : IK)) .ireturn eI (F_X6_wise_247 K135 m a2 a4 a5 a6 a7 a8) m 247 [.ref 40, .null, .int a2, .null, .int a4, .int a5, .int a6, .int a7, .int a8, .null, .null] [] := by
  intro m a2 a4 a5 a6 a7 a8 hS
  unfold F_X6_wise_247
  refine Cv.go (pc' := 250) (ls' := [.ref 40, .null, .int a2, .null, .int a4, .int a5, .int a6, .int a7, .int (a8 + (1 : Int32)), .null, .null]) (go_iinc (x := a8) (v := a8 + (1 : Int32)) dX6_wise_247 rfl rfl (by decide) rfl) ?_
  refine Cv.go (pc' := 135) (go_goto (tgt := 135) dX6_wise_250 rfl) ?_
  exact hK135 m a2 a4 a5 a6 a7 (a8 + (1 : Int32)) hS
theorem c_X6_wise_239 (K135 : Mem → Int32 → Int32 → Int32 → Int32 → Int32 → Int32 → Option (Int32 × Mem)) (hK135 : ∀ (m : Mem) (a2 : Int32) (a4 : Int32) (a5 : Int32) (a6 : Int32) (a7 : Int32) (a8 : Int32) (hS : ShM m), Cv true (cX6_wise, 11, RX6, 46, ((false, none) : IK)) .ireturn eI (K135 m a2 a4 a5 a6 a7 a8) m 135 [.ref 40, .null, .int a2, .null, .int a4, .int a5, .int a6, .int a7, .int a8, .null, .null] []) : ∀ (m : Mem) (a2 : Int32) (a4 : Int32) (a5 : Int32) (a8 : Int32) (a9 : Int32) (hS : ShM m), Cv true (cX6_wise, 11, RX6, 46, ((false, none) : IK)) .ireturn eI (F_X6_wise_239 K135 m a2 a4 a5 a8 a9) m 239 [.ref 40, .null, .int a2, .null, .int a4, .int a5, .null, .null, .int a8, .int a9, .null] [] := by
  intro m a2 a4 a5 a8 a9 hS
  unfold F_X6_wise_239
  refine Cv.go (pc' := 241) (go_iload (i := 8) (x := a8) dX6_wise_239 rfl) ?_
  refine Cv.go (pc' := 243) (ls' := [.ref 40, .null, .int a2, .null, .int a4, .int a5, .int a8, .null, .int a8, .int a9, .null]) (go_istore dX6_wise_241 (by decide) rfl) ?_
  refine Cv.go (pc' := 245) (go_iload (i := 9) (x := a9) dX6_wise_243 rfl) ?_
  refine Cv.go (pc' := 247) (ls' := [.ref 40, .null, .int a2, .null, .int a4, .int a5, .int a8, .int a9, .int a8, .int a9, .null]) (go_istore dX6_wise_245 (by decide) rfl) ?_
  refine Cv.weak (ls' := [.ref 40, .null, .int a2, .null, .int a4, .int a5, .int a8, .int a9, .int a8, .null, .null]) (⟨Or.inr rfl, ⟨Or.inr rfl, ⟨Or.inr rfl, ⟨Or.inr rfl, ⟨Or.inr rfl, ⟨Or.inr rfl, ⟨Or.inr rfl, ⟨Or.inr rfl, ⟨Or.inr rfl, ⟨Or.inl rfl, ⟨Or.inr rfl, True.intro⟩⟩⟩⟩⟩⟩⟩⟩⟩⟩⟩) ?_
  exact c_X6_wise_247 K135 hK135 m a2 a4 a5 a8 a9 a8 hS
theorem c_X6_wise_219 (K135 : Mem → Int32 → Int32 → Int32 → Int32 → Int32 → Int32 → Option (Int32 × Mem)) (hK135 : ∀ (m : Mem) (a2 : Int32) (a4 : Int32) (a5 : Int32) (a6 : Int32) (a7 : Int32) (a8 : Int32) (hS : ShM m), Cv true (cX6_wise, 11, RX6, 46, ((false, none) : IK)) .ireturn eI (K135 m a2 a4 a5 a6 a7 a8) m 135 [.ref 40, .null, .int a2, .null, .int a4, .int a5, .int a6, .int a7, .int a8, .null, .null] []) : ∀ (m : Mem) (a2 : Int32) (a4 : Int32) (a5 : Int32) (a6 : Int32) (a7 : Int32) (a8 : Int32) (a9 : Int32) (s0 : Int32) (hS : ShM m), Cv true (cX6_wise, 11, RX6, 46, ((false, none) : IK)) .ireturn eI (F_X6_wise_219 K135 m a2 a4 a5 a6 a7 a8 a9 s0) m 219 [.ref 40, .null, .int a2, .null, .int a4, .int a5, .int a6, .int a7, .int a8, .int a9, .null] [.int s0] := by
  intro m a2 a4 a5 a6 a7 a8 a9 s0 hS
  unfold F_X6_wise_219
  refine Cv.go (pc' := 221) (ls' := [.ref 40, .null, .int a2, .null, .int a4, .int a5, .int a6, .int a7, .int a8, .int a9, .int s0]) (go_istore dX6_wise_219 (by decide) rfl) ?_
  refine Cv.go (pc' := 223) (go_iload (i := 10) (x := s0) dX6_wise_221 rfl) ?_
  refine Cv.ite (fun h62 => ?_) (fun h62 => ?_)
  · refine Cv.go (pc' := 247) (go_if_eq_t (tgt := 247) dX6_wise_223 rfl h62) ?_
    refine Cv.weak (ls' := [.ref 40, .null, .int a2, .null, .int a4, .int a5, .int a6, .int a7, .int a8, .null, .null]) (⟨Or.inr rfl, ⟨Or.inr rfl, ⟨Or.inr rfl, ⟨Or.inr rfl, ⟨Or.inr rfl, ⟨Or.inr rfl, ⟨Or.inr rfl, ⟨Or.inr rfl, ⟨Or.inr rfl, ⟨Or.inl rfl, ⟨Or.inl rfl, True.intro⟩⟩⟩⟩⟩⟩⟩⟩⟩⟩⟩) ?_
    exact c_X6_wise_247 K135 hK135 m a2 a4 a5 a6 a7 a8 hS
  · refine Cv.go (pc' := 226) (go_if_eq_f 247 dX6_wise_223 rfl h62) ?_
    refine Cv.go (pc' := 228) (go_iload (i := 6) (x := a6) dX6_wise_226 rfl) ?_
    refine Cv.go (pc' := 229) (go_iconst dX6_wise_228 ic_n1) ?_
    refine Cv.ite (fun h63 => ?_) (fun h63 => ?_)
    · refine Cv.go (pc' := 239) (go_icmp_eq_t (tgt := 239) dX6_wise_229 rfl h63) ?_
      refine Cv.weak (ls' := [.ref 40, .null, .int a2, .null, .int a4, .int a5, .null, .null, .int a8, .int a9, .null]) (⟨Or.inr rfl, ⟨Or.inr rfl, ⟨Or.inr rfl, ⟨Or.inr rfl, ⟨Or.inr rfl, ⟨Or.inr rfl, ⟨Or.inl rfl, ⟨Or.inl rfl, ⟨Or.inr rfl, ⟨Or.inr rfl, ⟨Or.inl rfl, True.intro⟩⟩⟩⟩⟩⟩⟩⟩⟩⟩⟩) ?_
      exact c_X6_wise_239 K135 hK135 m a2 a4 a5 a8 a9 hS
    · refine Cv.go (pc' := 232) (go_icmp_eq_f 239 dX6_wise_229 rfl h63) ?_
      refine Cv.go (pc' := 234) (go_iload (i := 9) (x := a9) dX6_wise_232 rfl) ?_
      refine Cv.go (pc' := 236) (go_iload (i := 7) (x := a7) dX6_wise_234 rfl) ?_
      refine Cv.ite (fun h64 => ?_) (fun h64 => ?_)
      · refine Cv.go (pc' := 247) (go_icmp_le_t (tgt := 247) dX6_wise_236 rfl h64) ?_
        refine Cv.weak (ls' := [.ref 40, .null, .int a2, .null, .int a4, .int a5, .int a6, .int a7, .int a8, .null, .null]) (⟨Or.inr rfl, ⟨Or.inr rfl, ⟨Or.inr rfl, ⟨Or.inr rfl, ⟨Or.inr rfl, ⟨Or.inr rfl, ⟨Or.inr rfl, ⟨Or.inr rfl, ⟨Or.inr rfl, ⟨Or.inl rfl, ⟨Or.inl rfl, True.intro⟩⟩⟩⟩⟩⟩⟩⟩⟩⟩⟩) ?_
        exact c_X6_wise_247 K135 hK135 m a2 a4 a5 a6 a7 a8 hS
      · refine Cv.go (pc' := 239) (go_icmp_le_f 247 dX6_wise_236 rfl h64) ?_
        refine Cv.weak (ls' := [.ref 40, .null, .int a2, .null, .int a4, .int a5, .null, .null, .int a8, .int a9, .null]) (⟨Or.inr rfl, ⟨Or.inr rfl, ⟨Or.inr rfl, ⟨Or.inr rfl, ⟨Or.inr rfl, ⟨Or.inr rfl, ⟨Or.inl rfl, ⟨Or.inl rfl, ⟨Or.inr rfl, ⟨Or.inr rfl, ⟨Or.inl rfl, True.intro⟩⟩⟩⟩⟩⟩⟩⟩⟩⟩⟩) ?_
        exact c_X6_wise_239 K135 hK135 m a2 a4 a5 a8 a9 hS
theorem c_X6_wise_218 (K135 : Mem → Int32 → Int32 → Int32 → Int32 → Int32 → Int32 → Option (Int32 × Mem)) (hK135 : ∀ (m : Mem) (a2 : Int32) (a4 : Int32) (a5 : Int32) (a6 : Int32) (a7 : Int32) (a8 : Int32) (hS : ShM m), Cv true (cX6_wise, 11, RX6, 46, ((false, none) : IK)) .ireturn eI (K135 m a2 a4 a5 a6 a7 a8) m 135 [.ref 40, .null, .int a2, .null, .int a4, .int a5, .int a6, .int a7, .int a8, .null, .null] []) : ∀ (m : Mem) (a2 : Int32) (a4 : Int32) (a5 : Int32) (a6 : Int32) (a7 : Int32) (a8 : Int32) (a9 : Int32) (hS : ShM m), Cv true (cX6_wise, 11, RX6, 46, ((false, none) : IK)) .ireturn eI (F_X6_wise_218 K135 m a2 a4 a5 a6 a7 a8 a9) m 218 [.ref 40, .null, .int a2, .null, .int a4, .int a5, .int a6, .int a7, .int a8, .int a9, .null] [] := by
  intro m a2 a4 a5 a6 a7 a8 a9 hS
  unfold F_X6_wise_218
  refine Cv.go (pc' := 219) (go_iconst dX6_wise_218 ic_0) ?_
  exact c_X6_wise_219 K135 hK135 m a2 a4 a5 a6 a7 a8 a9 (0 : Int32) hS
theorem c_X6_wise_152 (K135 : Mem → Int32 → Int32 → Int32 → Int32 → Int32 → Int32 → Option (Int32 × Mem)) (hK135 : ∀ (m : Mem) (a2 : Int32) (a4 : Int32) (a5 : Int32) (a6 : Int32) (a7 : Int32) (a8 : Int32) (hS : ShM m), Cv true (cX6_wise, 11, RX6, 46, ((false, none) : IK)) .ireturn eI (K135 m a2 a4 a5 a6 a7 a8) m 135 [.ref 40, .null, .int a2, .null, .int a4, .int a5, .int a6, .int a7, .int a8, .null, .null] []) : ∀ n, ∀ (m : Mem) (a2 : Int32) (a4 : Int32) (a5 : Int32) (a6 : Int32) (a7 : Int32) (a8 : Int32) (a9 : Int32) (a10 : Int32) (hS : ShM m), Cv true (cX6_wise, 11, RX6, 46, ((false, none) : IK)) .ireturn eI (F_X6_wise_152 K135 n m a2 a4 a5 a6 a7 a8 a9 a10) m 152 [.ref 40, .null, .int a2, .null, .int a4, .int a5, .int a6, .int a7, .int a8, .int a9, .int a10] [] := by
  intro n
  induction n with
  | zero => intro m a2 a4 a5 a6 a7 a8 a9 a10 hS; exact Cv.no
  | succ n ih =>
    intro m a2 a4 a5 a6 a7 a8 a9 a10 hS
    unfold F_X6_wise_152
    refine Cv.go (pc' := 154) (go_iload (i := 10) (x := a10) dX6_wise_152 rfl) ?_
    refine Cv.go (pc' := 155) (go_aload_n (i := 0) (x := 40) dX6_wise_154 rfl rfl) ?_
    refine Cv.go (pc' := 158) (go_getI (i := 10) cls6 (sx_k40 hS) (by decide) rfl lf_X6_64 (by decide) dX6_wise_155) ?_
    refine Cv.ite (fun h52 => ?_) (fun h52 => ?_)
    · refine Cv.go (pc' := 194) (go_icmp_ge_t (tgt := 194) dX6_wise_158 rfl h52) ?_
      refine Cv.go (pc' := 196) (go_iload (i := 8) (x := a8) dX6_wise_194 rfl) ?_
      refine Cv.go (pc' := 198) (go_iload (i := 5) (x := a5) dX6_wise_196 rfl) ?_
      refine Cv.go (pc' := 199) (go_iconst dX6_wise_198 ic_n1) ?_
      refine Cv.go (pc' := 200) (go_ixor dX6_wise_199) ?_
      refine Cv.go (pc' := 201) (go_iand dX6_wise_200) ?_
      refine Cv.ite (fun h53 => ?_) (fun h53 => ?_)
      · refine Cv.go (pc' := 204) (go_if_ne_f 218 dX6_wise_201 rfl h53) ?_
        refine Cv.go (pc' := 205) (go_aload_n (i := 0) (x := 40) dX6_wise_204 rfl rfl) ?_
        refine Cv.go (pc' := 207) (go_iload (i := 8) (x := a8) dX6_wise_205 rfl) ?_
        refine Cv.bnd fun v54 m55 e56 => ?_
        have C57 := kc_X6_valuesOf m a8 hS v54 m55 e56
        refine Cv.go (pc' := 210) (st' := [.int v54]) (go_callV (As := [.int a8]) (st := []) C57 (by decide) ok_X6_valuesOf li_X6_valuesOf ls_X6_valuesOf lm_X6_373 cls6 (sx_k40 hS) rfl rfl (Nat.le_of_ble_eq_true rfl) dX6_wise_207) ?_
        have zm55 := C57.1.2.2 rfl
        have hS := hS.sh zm55
        refine Cv.go (pc' := 211) (go_iload_n (i := 2) (x := a2) dX6_wise_210 rfl rfl) ?_
        refine Cv.ite (fun h58 => ?_) (fun h58 => ?_)
        · refine Cv.go (pc' := 218) (go_icmp_lt_t (tgt := 218) dX6_wise_211 rfl h58) ?_
          refine Cv.weak (ls' := [.ref 40, .null, .int a2, .null, .int a4, .int a5, .int a6, .int a7, .int a8, .int a9, .null]) (⟨Or.inr rfl, ⟨Or.inr rfl, ⟨Or.inr rfl, ⟨Or.inr rfl, ⟨Or.inr rfl, ⟨Or.inr rfl, ⟨Or.inr rfl, ⟨Or.inr rfl, ⟨Or.inr rfl, ⟨Or.inr rfl, ⟨Or.inl rfl, True.intro⟩⟩⟩⟩⟩⟩⟩⟩⟩⟩⟩) ?_
          exact c_X6_wise_218 K135 hK135 m55 a2 a4 a5 a6 a7 a8 a9 hS
        · refine Cv.go (pc' := 214) (go_icmp_lt_f 218 dX6_wise_211 rfl h58) ?_
          refine Cv.go (pc' := 215) (go_iconst dX6_wise_214 ic_1) ?_
          refine Cv.go (pc' := 219) (go_goto (tgt := 219) dX6_wise_215 rfl) ?_
          refine Cv.weak (ls' := [.ref 40, .null, .int a2, .null, .int a4, .int a5, .int a6, .int a7, .int a8, .int a9, .null]) (⟨Or.inr rfl, ⟨Or.inr rfl, ⟨Or.inr rfl, ⟨Or.inr rfl, ⟨Or.inr rfl, ⟨Or.inr rfl, ⟨Or.inr rfl, ⟨Or.inr rfl, ⟨Or.inr rfl, ⟨Or.inr rfl, ⟨Or.inl rfl, True.intro⟩⟩⟩⟩⟩⟩⟩⟩⟩⟩⟩) ?_
          exact c_X6_wise_219 K135 hK135 m55 a2 a4 a5 a6 a7 a8 a9 (1 : Int32) hS
      · refine Cv.go (pc' := 218) (go_if_ne_t (tgt := 218) dX6_wise_201 rfl h53) ?_
        refine Cv.weak (ls' := [.ref 40, .null, .int a2, .null, .int a4, .int a5, .int a6, .int a7, .int a8, .int a9, .null]) (⟨Or.inr rfl, ⟨Or.inr rfl, ⟨Or.inr rfl, ⟨Or.inr rfl, ⟨Or.inr rfl, ⟨Or.inr rfl, ⟨Or.inr rfl, ⟨Or.inr rfl, ⟨Or.inr rfl, ⟨Or.inr rfl, ⟨Or.inl rfl, True.intro⟩⟩⟩⟩⟩⟩⟩⟩⟩⟩⟩) ?_
        exact c_X6_wise_218 K135 hK135 m a2 a4 a5 a6 a7 a8 a9 hS
    · refine Cv.go (pc' := 161) (go_icmp_ge_f 194 dX6_wise_158 rfl h52) ?_
      refine Cv.go (pc' := 163) (go_iload (i := 9) (x := a9) dX6_wise_161 rfl) ?_
      refine Cv.go (pc' := 165) (go_iload (i := 8) (x := a8) dX6_wise_163 rfl) ?_
      refine Cv.go (pc' := 167) (go_iload (i := 10) (x := a10) dX6_wise_165 rfl) ?_
      refine Cv.go (pc' := 168) (go_ishr dX6_wise_167) ?_
      refine Cv.go (pc' := 169) (go_iconst dX6_wise_168 ic_1) ?_
      refine Cv.go (pc' := 170) (go_iand dX6_wise_169) ?_
      refine Cv.go (pc' := 171) (go_iconst dX6_wise_170 ic_1) ?_
      refine Cv.ite (fun h59 => ?_) (fun h59 => ?_)
      · refine Cv.go (pc' := 174) (go_icmp_ne_f 178 dX6_wise_171 rfl h59) ?_
        refine Cv.go (pc' := 175) (go_iconst dX6_wise_174 ic_0) ?_
        refine Cv.go (pc' := 185) (go_goto (tgt := 185) dX6_wise_175 rfl) ?_
        refine Cv.weak (ls' := [.ref 40, .null, .int a2, .null, .int a4, .int a5, .int a6, .int a7, .int a8, .null, .int a10]) (⟨Or.inr rfl, ⟨Or.inr rfl, ⟨Or.inr rfl, ⟨Or.inr rfl, ⟨Or.inr rfl, ⟨Or.inr rfl, ⟨Or.inr rfl, ⟨Or.inr rfl, ⟨Or.inr rfl, ⟨Or.inl rfl, ⟨Or.inr rfl, True.intro⟩⟩⟩⟩⟩⟩⟩⟩⟩⟩⟩) ?_
        exact c_X6_wise_185 K135 hK135 (F_X6_wise_152 K135 n) ih m a2 a4 a5 a6 a7 a8 a10 (0 : Int32) a9 hS
      · refine Cv.go (pc' := 178) (go_icmp_ne_t (tgt := 178) dX6_wise_171 rfl h59) ?_
        refine Cv.go (pc' := 179) (go_aload_n (i := 0) (x := 40) dX6_wise_178 rfl rfl) ?_
        refine Cv.go (pc' := 182) (go_getR (i := 29) cls6 (sx_k40 hS) (by decide) rfl lf_X6_35 (Or.inr ⟨_, rfl⟩) (sx_r40_29 hS) dX6_wise_179) ?_
        refine Cv.go (pc' := 184) (go_iload (i := 10) (x := a10) dX6_wise_182 rfl) ?_
        refine Cv.gif fun g60 => ?_
        refine Cv.go (pc' := 185) (go_iaload (sx_k48 hS) g60 dX6_wise_184) ?_
        refine Cv.weak (ls' := [.ref 40, .null, .int a2, .null, .int a4, .int a5, .int a6, .int a7, .int a8, .null, .int a10]) (⟨Or.inr rfl, ⟨Or.inr rfl, ⟨Or.inr rfl, ⟨Or.inr rfl, ⟨Or.inr rfl, ⟨Or.inr rfl, ⟨Or.inr rfl, ⟨Or.inr rfl, ⟨Or.inr rfl, ⟨Or.inl rfl, ⟨Or.inr rfl, True.intro⟩⟩⟩⟩⟩⟩⟩⟩⟩⟩⟩) ?_
        exact c_X6_wise_185 K135 hK135 (F_X6_wise_152 K135 n) ih m a2 a4 a5 a6 a7 a8 a10 (mD m 48 a10.toNatClampNeg) a9 hS
theorem c_X6_wise_135 : ∀ n, ∀ (m : Mem) (a2 : Int32) (a4 : Int32) (a5 : Int32) (a6 : Int32) (a7 : Int32) (a8 : Int32) (hS : ShM m), Cv true (cX6_wise, 11, RX6, 46, ((false, none) : IK)) .ireturn eI (F_X6_wise_135 n m a2 a4 a5 a6 a7 a8) m 135 [.ref 40, .null, .int a2, .null, .int a4, .int a5, .int a6, .int a7, .int a8, .null, .null] [] := by
  intro n
  induction n with
  | zero => intro m a2 a4 a5 a6 a7 a8 hS; exact Cv.no
  | succ n ih =>
    intro m a2 a4 a5 a6 a7 a8 hS
    unfold F_X6_wise_135
    refine Cv.go (pc' := 137) (go_iload (i := 8) (x := a8) dX6_wise_135 rfl) ?_
    refine Cv.go (pc' := 138) (go_iconst dX6_wise_137 ic_1) ?_
    refine Cv.go (pc' := 139) (go_aload_n (i := 0) (x := 40) dX6_wise_138 rfl rfl) ?_
    refine Cv.go (pc' := 142) (go_getI (i := 10) cls6 (sx_k40 hS) (by decide) rfl lf_X6_64 (by decide) dX6_wise_139) ?_
    refine Cv.go (pc' := 143) (go_ishl dX6_wise_142) ?_
    refine Cv.ite (fun h50 => ?_) (fun h50 => ?_)
    · refine Cv.go (pc' := 253) (go_icmp_ge_t (tgt := 253) dX6_wise_143 rfl h50) ?_
      refine Cv.go (pc' := 255) (go_iload (i := 4) (x := a4) dX6_wise_253 rfl) ?_
      refine Cv.ite (fun h51 => ?_) (fun h51 => ?_)
      · refine Cv.go (pc' := 258) (go_if_ne_f 263 dX6_wise_255 rfl h51) ?_
        refine Cv.go (pc' := 260) (go_iload (i := 6) (x := a6) dX6_wise_258 rfl) ?_
        refine Cv.go (pc' := 265) (go_goto (tgt := 265) dX6_wise_260 rfl) ?_
        exact Cv.ret dX6_wise_265 rfl
      · refine Cv.go (pc' := 263) (go_if_ne_t (tgt := 263) dX6_wise_255 rfl h51) ?_
        refine Cv.go (pc' := 265) (go_iload (i := 7) (x := a7) dX6_wise_263 rfl) ?_
        exact Cv.ret dX6_wise_265 rfl
    · refine Cv.go (pc' := 146) (go_icmp_ge_f 253 dX6_wise_143 rfl h50) ?_
      refine Cv.go (pc' := 147) (go_iconst dX6_wise_146 ic_0) ?_
      refine Cv.go (pc' := 149) (ls' := [.ref 40, .null, .int a2, .null, .int a4, .int a5, .int a6, .int a7, .int a8, .int (0 : Int32), .null]) (go_istore dX6_wise_147 (by decide) rfl) ?_
      refine Cv.go (pc' := 150) (go_iconst dX6_wise_149 ic_0) ?_
      refine Cv.go (pc' := 152) (ls' := [.ref 40, .null, .int a2, .null, .int a4, .int a5, .int a6, .int a7, .int a8, .int (0 : Int32), .int (0 : Int32)]) (go_istore dX6_wise_150 (by decide) rfl) ?_
      exact c_X6_wise_152 (F_X6_wise_135 n) ih FU m a2 a4 a5 a6 a7 a8 (0 : Int32) (0 : Int32) hS
theorem c_X6_wise_79 : ∀ n, ∀ (m : Mem) (a1 : Int32) (a2 : Int32) (a4 : Int32) (a5 : Int32) (a6 : Int32) (hS : ShM m), Cv true (cX6_wise, 11, RX6, 46, ((false, none) : IK)) .ireturn eI (F_X6_wise_79 n m a1 a2 a4 a5 a6) m 79 [.ref 40, .int a1, .int a2, .null, .int a4, .int a5, .int a6, .null, .null, .null, .null] [] := by
  intro n
  induction n with
  | zero => intro m a1 a2 a4 a5 a6 hS; exact Cv.no
  | succ n ih =>
    intro m a1 a2 a4 a5 a6 hS
    unfold F_X6_wise_79
    refine Cv.go (pc' := 81) (go_iload (i := 6) (x := a6) dX6_wise_79 rfl) ?_
    refine Cv.go (pc' := 82) (go_aload_n (i := 0) (x := 40) dX6_wise_81 rfl rfl) ?_
    refine Cv.go (pc' := 85) (go_getI (i := 10) cls6 (sx_k40 hS) (by decide) rfl lf_X6_64 (by decide) dX6_wise_82) ?_
    refine Cv.ite (fun h34 => ?_) (fun h34 => ?_)
    · refine Cv.go (pc' := 121) (go_icmp_ge_t (tgt := 121) dX6_wise_85 rfl h34) ?_
      refine Cv.go (pc' := 122) (go_aload_n (i := 0) (x := 40) dX6_wise_121 rfl rfl) ?_
      refine Cv.bnd fun v35 m36 e37 => ?_
      have C38 := kc_X6_laysBack m hS v35 m36 e37
      refine Cv.go (pc' := 125) (st' := []) (go_callV (As := []) (st := []) C38 (by decide) ok_X6_laysBack li_X6_laysBack ls_X6_laysBack lm_X6_365 cls6 (sx_k40 hS) rfl rfl (Nat.le_of_ble_eq_true rfl) dX6_wise_122) ?_
      have zm36 := C38.1.2.2 rfl
      have hS := hS.sh zm36
      refine Cv.go (pc' := 126) (go_iconst dX6_wise_125 ic_n1) ?_
      refine Cv.go (pc' := 128) (ls' := [.ref 40, .int a1, .int a2, .null, .int a4, .int a5, .int (-1 : Int32), .null, .null, .null, .null]) (go_istore dX6_wise_126 (by decide) rfl) ?_
      refine Cv.go (pc' := 130) (go_ldc dX6_wise_128 lc_X6_103) ?_
      refine Cv.go (pc' := 132) (ls' := [.ref 40, .int a1, .int a2, .null, .int a4, .int a5, .int (-1 : Int32), .int (-100000 : Int32), .null, .null, .null]) (go_istore dX6_wise_130 (by decide) rfl) ?_
      refine Cv.go (pc' := 133) (go_iconst dX6_wise_132 ic_0) ?_
      refine Cv.go (pc' := 135) (ls' := [.ref 40, .int a1, .int a2, .null, .int a4, .int a5, .int (-1 : Int32), .int (-100000 : Int32), .int (0 : Int32), .null, .null]) (go_istore dX6_wise_133 (by decide) rfl) ?_
      refine Cv.weak (ls' := [.ref 40, .null, .int a2, .null, .int a4, .int a5, .int (-1 : Int32), .int (-100000 : Int32), .int (0 : Int32), .null, .null]) (⟨Or.inr rfl, ⟨Or.inl rfl, ⟨Or.inr rfl, ⟨Or.inr rfl, ⟨Or.inr rfl, ⟨Or.inr rfl, ⟨Or.inr rfl, ⟨Or.inr rfl, ⟨Or.inr rfl, ⟨Or.inr rfl, ⟨Or.inr rfl, True.intro⟩⟩⟩⟩⟩⟩⟩⟩⟩⟩⟩) ?_
      exact c_X6_wise_135 FU m36 a2 a4 a5 (-1 : Int32) (-100000 : Int32) (0 : Int32) hS
    · refine Cv.go (pc' := 88) (go_icmp_ge_f 121 dX6_wise_85 rfl h34) ?_
      refine Cv.go (pc' := 89) (go_aload_n (i := 0) (x := 40) dX6_wise_88 rfl rfl) ?_
      refine Cv.go (pc' := 92) (go_getR (i := 29) cls6 (sx_k40 hS) (by decide) rfl lf_X6_35 (Or.inr ⟨_, rfl⟩) (sx_r40_29 hS) dX6_wise_89) ?_
      refine Cv.go (pc' := 94) (go_iload (i := 6) (x := a6) dX6_wise_92 rfl) ?_
      refine Cv.go (pc' := 95) (go_aload_n (i := 0) (x := 40) dX6_wise_94 rfl rfl) ?_
      refine Cv.go (pc' := 97) (go_iload (i := 6) (x := a6) dX6_wise_95 rfl) ?_
      refine Cv.go (pc' := 98) (go_iload_n (i := 1) (x := a1) dX6_wise_97 rfl rfl) ?_
      refine Cv.bnd fun v39 m40 e41 => ?_
      have C42 := kc_X6_isOf m a6 a1 hS v39 m40 e41
      refine Cv.go (pc' := 101) (st' := [.int (bz v39), .int a6, .ref 48]) (go_callV (As := [.int a6, .int a1]) (st := [.int a6, .ref 48]) C42 (by decide) ok_X6_isOf li_X6_isOf ls_X6_isOf lm_X6_335 cls6 (sx_k40 hS) rfl rfl (Nat.le_of_ble_eq_true rfl) dX6_wise_98) ?_
      have zm40 := C42.1.2.2 rfl
      have hS := hS.sh zm40
      refine Cv.ite (fun h43 => ?_) (fun h43 => ?_)
      · refine Cv.go (pc' := 113) (go_if_eq_t (tgt := 113) dX6_wise_101 rfl h43) ?_
        refine Cv.go (pc' := 114) (go_iconst dX6_wise_113 ic_0) ?_
        exact c_X6_wise_114 (F_X6_wise_79 n) ih m40 a1 a2 a4 a5 a6 (0 : Int32) a6 hS
      · refine Cv.go (pc' := 104) (go_if_eq_f 113 dX6_wise_101 rfl h43) ?_
        refine Cv.go (pc' := 105) (go_aload_n (i := 0) (x := 40) dX6_wise_104 rfl rfl) ?_
        refine Cv.go (pc' := 107) (go_iload (i := 6) (x := a6) dX6_wise_105 rfl) ?_
        refine Cv.bnd fun v44 m45 e46 => ?_
        have C47 := kc_X6_worthOf m40 a6 hS v44 m45 e46
        refine Cv.go (pc' := 110) (st' := [.int v44, .int a6, .ref 48]) (go_callV (As := [.int a6]) (st := [.int a6, .ref 48]) C47 (by decide) ok_X6_worthOf li_X6_worthOf ls_X6_worthOf lm_X6_116 cls6 (sx_k40 hS) rfl rfl (Nat.le_of_ble_eq_true rfl) dX6_wise_107) ?_
        have zm45 := C47.1.2.2 rfl
        have hS := hS.sh zm45
        refine Cv.go (pc' := 114) (go_goto (tgt := 114) dX6_wise_110 rfl) ?_
        exact c_X6_wise_114 (F_X6_wise_79 n) ih m45 a1 a2 a4 a5 a6 v44 a6 hS
theorem c_X6_wise_59 : ∀ n, ∀ (m : Mem) (a1 : Int32) (a2 : Int32) (a3 : Int32) (a4 : Int32) (a5 : Int32) (a6 : Int32) (hS : ShM m), Cv true (cX6_wise, 11, RX6, 46, ((false, none) : IK)) .ireturn eI (F_X6_wise_59 n m a1 a2 a3 a4 a5 a6) m 59 [.ref 40, .int a1, .int a2, .int a3, .int a4, .int a5, .int a6, .null, .null, .null, .null] [] := by
  intro n
  induction n with
  | zero => intro m a1 a2 a3 a4 a5 a6 hS; exact Cv.no
  | succ n ih =>
    intro m a1 a2 a3 a4 a5 a6 hS
    unfold F_X6_wise_59
    refine Cv.go (pc' := 61) (go_iload (i := 6) (x := a6) dX6_wise_59 rfl) ?_
    refine Cv.go (pc' := 62) (go_iload_n (i := 3) (x := a3) dX6_wise_61 rfl rfl) ?_
    refine Cv.ite (fun h29 => ?_) (fun h29 => ?_)
    · refine Cv.go (pc' := 76) (go_icmp_ge_t (tgt := 76) dX6_wise_62 rfl h29) ?_
      refine Cv.go (pc' := 77) (go_iconst dX6_wise_76 ic_0) ?_
      refine Cv.go (pc' := 79) (ls' := [.ref 40, .int a1, .int a2, .int a3, .int a4, .int a5, .int (0 : Int32), .null, .null, .null, .null]) (go_istore dX6_wise_77 (by decide) rfl) ?_
      refine Cv.weak (ls' := [.ref 40, .int a1, .int a2, .null, .int a4, .int a5, .int (0 : Int32), .null, .null, .null, .null]) (⟨Or.inr rfl, ⟨Or.inr rfl, ⟨Or.inr rfl, ⟨Or.inl rfl, ⟨Or.inr rfl, ⟨Or.inr rfl, ⟨Or.inr rfl, ⟨Or.inr rfl, ⟨Or.inr rfl, ⟨Or.inr rfl, ⟨Or.inr rfl, True.intro⟩⟩⟩⟩⟩⟩⟩⟩⟩⟩⟩) ?_
      exact c_X6_wise_79 FU m a1 a2 a4 a5 (0 : Int32) hS
    · refine Cv.go (pc' := 65) (go_icmp_ge_f 76 dX6_wise_62 rfl h29) ?_
      refine Cv.go (pc' := 66) (go_aload_n (i := 0) (x := 40) dX6_wise_65 rfl rfl) ?_
      refine Cv.bnd fun v30 m31 e32 => ?_
      have C33 := kc_X6_passes m hS v30 m31 e32
      refine Cv.go (pc' := 69) (st' := [.int v30]) (go_callV (As := []) (st := []) C33 (by decide) ok_X6_passes li_X6_passes ls_X6_passes lm_X6_341 cls6 (sx_k40 hS) rfl rfl (Nat.le_of_ble_eq_true rfl) dX6_wise_66) ?_
      have zm31 := C33.1.2.2 rfl
      have hS := hS.sh zm31
      refine Cv.go (pc' := 70) (go_pop_i dX6_wise_69) ?_
      refine Cv.go (pc' := 73) (ls' := [.ref 40, .int a1, .int a2, .int a3, .int a4, .int a5, .int (a6 + (1 : Int32)), .null, .null, .null, .null]) (go_iinc (x := a6) (v := a6 + (1 : Int32)) dX6_wise_70 rfl rfl (by decide) rfl) ?_
      refine Cv.go (pc' := 59) (go_goto (tgt := 59) dX6_wise_73 rfl) ?_
      exact ih m31 a1 a2 a3 a4 a5 (a6 + (1 : Int32)) hS
theorem kc_X6_wise (m : Mem) (a1 : Int32) (a2 : Int32) (a3 : Int32) (a4 : Int32) (hS : ShM m) : ∀ v mE, F_X6_wise m a1 a2 a3 a4 = some (v, mE) → Con true kX6_wise 46 [.ref 40, .int a1, .int a2, .int a3, .int a4] m (eI v) mE := by
  refine Con.of (ini := false) (ls0 := [.ref 40, .int a1, .int a2, .int a3, .int a4, .null, .null, .null, .null, .null, .null]) (ri := .ireturn) (by decide) (by intro z; cases z) rfl (Nat.le_of_ble_eq_true rfl) (fun v mE _ => RetTy.i) ?_
  show Cv true (cX6_wise, 11, RX6, 46, ((false, none) : IK)) .ireturn eI (F_X6_wise m a1 a2 a3 a4) m 0 [.ref 40, .int a1, .int a2, .int a3, .int a4, .null, .null, .null, .null, .null, .null] []
  unfold F_X6_wise
  refine Cv.go (pc' := 1) (go_iload_n (i := 1) (x := a1) dX6_wise_0 rfl rfl) ?_
  refine Cv.bnd fun v1 m2 e3 => ?_
  have C4 := kc_X6_isOwner m a1 v1 m2 e3
  refine Cv.go (pc' := 4) (st' := [.int (bz v1)]) (go_callS (As := [.int a1]) (st := []) C4 (by decide) ok_X6_isOwner lt_X6_isOwner lm_X6_344 rfl rfl (Nat.le_of_ble_eq_true rfl) dX6_wise_1) ?_
  have zm2 := C4.1.2.2 rfl
  have hS := hS.sh zm2
  refine Cv.ite (fun h5 => ?_) (fun h5 => ?_)
  · refine Cv.go (pc' := 42) (go_if_eq_t (tgt := 42) dX6_wise_4 rfl h5) ?_
    refine Cv.go (pc' := 44) (go_bipush dX6_wise_42 ib_n2) ?_
    exact Cv.ret dX6_wise_44 rfl
  · refine Cv.go (pc' := 7) (go_if_eq_f 42 dX6_wise_4 rfl h5) ?_
    refine Cv.go (pc' := 8) (go_iload_n (i := 2) (x := a2) dX6_wise_7 rfl rfl) ?_
    refine Cv.go (pc' := 9) (go_i2l dX6_wise_8) ?_
    refine Cv.go (pc' := 10) (go_lconst (v := 0) dX6_wise_9 (by decide)) ?_
    refine Cv.go (pc' := 13) (go_ldc2 dX6_wise_10 ll_X6_351) ?_
    refine Cv.bnd fun v6 m7 e8 => ?_
    have C9 := kc_X6_in m2 a2.toInt64 (0 : Int64) (999 : Int64) v6 m7 e8
    refine Cv.go (pc' := 16) (st' := [.int (bz v6)]) (go_callS (As := [.long a2.toInt64, .long (0 : Int64), .long (999 : Int64)]) (st := []) C9 (by decide) ok_X6_in lt_X6_in lm_X6_67 rfl rfl (Nat.le_of_ble_eq_true rfl) dX6_wise_13) ?_
    have zm7 := C9.1.2.2 rfl
    have hS := hS.sh zm7
    refine Cv.ite (fun h10 => ?_) (fun h10 => ?_)
    · refine Cv.go (pc' := 42) (go_if_eq_t (tgt := 42) dX6_wise_16 rfl h10) ?_
      refine Cv.go (pc' := 44) (go_bipush dX6_wise_42 ib_n2) ?_
      exact Cv.ret dX6_wise_44 rfl
    · refine Cv.go (pc' := 19) (go_if_eq_f 42 dX6_wise_16 rfl h10) ?_
      refine Cv.go (pc' := 20) (go_iload_n (i := 3) (x := a3) dX6_wise_19 rfl rfl) ?_
      refine Cv.go (pc' := 21) (go_i2l dX6_wise_20) ?_
      refine Cv.go (pc' := 22) (go_lconst (v := 0) dX6_wise_21 (by decide)) ?_
      refine Cv.go (pc' := 25) (go_ldc2 dX6_wise_22 ll_X6_388) ?_
      refine Cv.bnd fun v11 m12 e13 => ?_
      have C14 := kc_X6_in m7 a3.toInt64 (0 : Int64) (40 : Int64) v11 m12 e13
      refine Cv.go (pc' := 28) (st' := [.int (bz v11)]) (go_callS (As := [.long a3.toInt64, .long (0 : Int64), .long (40 : Int64)]) (st := []) C14 (by decide) ok_X6_in lt_X6_in lm_X6_67 rfl rfl (Nat.le_of_ble_eq_true rfl) dX6_wise_25) ?_
      have zm12 := C14.1.2.2 rfl
      have hS := hS.sh zm12
      refine Cv.ite (fun h15 => ?_) (fun h15 => ?_)
      · refine Cv.go (pc' := 42) (go_if_eq_t (tgt := 42) dX6_wise_28 rfl h15) ?_
        refine Cv.go (pc' := 44) (go_bipush dX6_wise_42 ib_n2) ?_
        exact Cv.ret dX6_wise_44 rfl
      · refine Cv.go (pc' := 31) (go_if_eq_f 42 dX6_wise_28 rfl h15) ?_
        refine Cv.go (pc' := 33) (go_iload (i := 4) (x := a4) dX6_wise_31 rfl) ?_
        refine Cv.go (pc' := 34) (go_i2l dX6_wise_33) ?_
        refine Cv.go (pc' := 35) (go_lconst (v := 0) dX6_wise_34 (by decide)) ?_
        refine Cv.go (pc' := 36) (go_lconst (v := 1) dX6_wise_35 (by decide)) ?_
        refine Cv.bnd fun v16 m17 e18 => ?_
        have C19 := kc_X6_in m12 a4.toInt64 (0 : Int64) (1 : Int64) v16 m17 e18
        refine Cv.go (pc' := 39) (st' := [.int (bz v16)]) (go_callS (As := [.long a4.toInt64, .long (0 : Int64), .long (1 : Int64)]) (st := []) C19 (by decide) ok_X6_in lt_X6_in lm_X6_67 rfl rfl (Nat.le_of_ble_eq_true rfl) dX6_wise_36) ?_
        have zm17 := C19.1.2.2 rfl
        have hS := hS.sh zm17
        refine Cv.ite (fun h20 => ?_) (fun h20 => ?_)
        · refine Cv.go (pc' := 42) (go_if_ne_f 45 dX6_wise_39 rfl h20) ?_
          refine Cv.go (pc' := 44) (go_bipush dX6_wise_42 ib_n2) ?_
          exact Cv.ret dX6_wise_44 rfl
        · refine Cv.go (pc' := 45) (go_if_ne_t (tgt := 45) dX6_wise_39 rfl h20) ?_
          refine Cv.go (pc' := 46) (go_aload_n (i := 0) (x := 40) dX6_wise_45 rfl rfl) ?_
          refine Cv.go (pc' := 47) (go_iload_n (i := 1) (x := a1) dX6_wise_46 rfl rfl) ?_
          refine Cv.bnd fun v21 m22 e23 => ?_
          have C24 := kc_X6_purseOf m17 a1 hS v21 m22 e23
          refine Cv.go (pc' := 50) (st' := [.int v21]) (go_callV (As := [.int a1]) (st := []) C24 (by decide) ok_X6_purseOf li_X6_purseOf ls_X6_purseOf lm_X6_359 cls6 (sx_k40 hS) rfl rfl (Nat.le_of_ble_eq_true rfl) dX6_wise_47) ?_
          have zm22 := C24.1.2.2 rfl
          have hS := hS.sh zm22
          refine Cv.go (pc' := 52) (ls' := [.ref 40, .int a1, .int a2, .int a3, .int a4, .int v21, .null, .null, .null, .null, .null]) (go_istore dX6_wise_50 (by decide) rfl) ?_
          refine Cv.go (pc' := 53) (go_aload_n (i := 0) (x := 40) dX6_wise_52 rfl rfl) ?_
          refine Cv.bnd fun v25 m26 e27 => ?_
          have C28 := kc_X6_laysAside m22 hS v25 m26 e27
          refine Cv.go (pc' := 56) (st' := []) (go_callV (As := []) (st := []) C28 (by decide) ok_X6_laysAside li_X6_laysAside ls_X6_laysAside lm_X6_362 cls6 (sx_k40 hS) rfl rfl (Nat.le_of_ble_eq_true rfl) dX6_wise_53) ?_
          have zm26 := C28.1.2.2 rfl
          have hS := hS.sh zm26
          refine Cv.go (pc' := 57) (go_iconst dX6_wise_56 ic_0) ?_
          refine Cv.go (pc' := 59) (ls' := [.ref 40, .int a1, .int a2, .int a3, .int a4, .int v21, .int (0 : Int32), .null, .null, .null, .null]) (go_istore dX6_wise_57 (by decide) rfl) ?_
          exact c_X6_wise_59 FU m26 a1 a2 a3 a4 v21 (0 : Int32) hS
theorem c_X6_bothBehind_2 : ∀ n, ∀ (m : Mem) (a1 : Int32) (a2 : Int32) (a3 : Int32) (hS : ShM m), Cv true (cX6_bothBehind, 4, RX6, 46, ((false, none) : IK)) .ireturn eI (F_X6_bothBehind_2 n m a1 a2 a3) m 2 [.ref 40, .int a1, .int a2, .int a3] [] := by
  intro n
  induction n with
  | zero => intro m a1 a2 a3 hS; exact Cv.no
  | succ n ih =>
    intro m a1 a2 a3 hS
    unfold F_X6_bothBehind_2
    refine Cv.go (pc' := 3) (go_iload_n (i := 3) (x := a3) dX6_bothBehind_2 rfl rfl) ?_
    refine Cv.go (pc' := 5) (go_bipush dX6_bothBehind_3 ib_10) ?_
    refine Cv.ite (fun h1 => ?_) (fun h1 => ?_)
    · refine Cv.go (pc' := 19) (go_icmp_ge_t (tgt := 19) dX6_bothBehind_5 rfl h1) ?_
      refine Cv.go (pc' := 20) (go_aload_n (i := 0) (x := 40) dX6_bothBehind_19 rfl rfl) ?_
      refine Cv.go (pc' := 21) (go_iload_n (i := 1) (x := a1) dX6_bothBehind_20 rfl rfl) ?_
      refine Cv.bnd fun v2 m3 e4 => ?_
      have C5 := kc_X6_richOf m a1 hS v2 m3 e4
      refine Cv.go (pc' := 24) (st' := [.int v2]) (go_callV (As := [.int a1]) (st := []) C5 (by decide) ok_X6_richOf li_X6_richOf ls_X6_richOf lm_X6_370 cls6 (sx_k40 hS) rfl rfl (Nat.le_of_ble_eq_true rfl) dX6_bothBehind_21) ?_
      have zm3 := C5.1.2.2 rfl
      have hS := hS.sh zm3
      refine Cv.go (pc' := 25) (go_aload_n (i := 0) (x := 40) dX6_bothBehind_24 rfl rfl) ?_
      refine Cv.go (pc' := 26) (go_iload_n (i := 2) (x := a2) dX6_bothBehind_25 rfl rfl) ?_
      refine Cv.bnd fun v6 m7 e8 => ?_
      have C9 := kc_X6_richOf m3 a2 hS v6 m7 e8
      refine Cv.go (pc' := 29) (st' := [.int v6, .int v2]) (go_callV (As := [.int a2]) (st := [.int v2]) C9 (by decide) ok_X6_richOf li_X6_richOf ls_X6_richOf lm_X6_370 cls6 (sx_k40 hS) rfl rfl (Nat.le_of_ble_eq_true rfl) dX6_bothBehind_26) ?_
      have zm7 := C9.1.2.2 rfl
      have hS := hS.sh zm7
      refine Cv.go (pc' := 30) (go_iadd dX6_bothBehind_29) ?_
      exact Cv.ret dX6_bothBehind_30 rfl
    · refine Cv.go (pc' := 8) (go_icmp_ge_f 19 dX6_bothBehind_5 rfl h1) ?_
      refine Cv.go (pc' := 9) (go_aload_n (i := 0) (x := 40) dX6_bothBehind_8 rfl rfl) ?_
      refine Cv.bnd fun v10 m11 e12 => ?_
      have C13 := kc_X6_passes m hS v10 m11 e12
      refine Cv.go (pc' := 12) (st' := [.int v10]) (go_callV (As := []) (st := []) C13 (by decide) ok_X6_passes li_X6_passes ls_X6_passes lm_X6_341 cls6 (sx_k40 hS) rfl rfl (Nat.le_of_ble_eq_true rfl) dX6_bothBehind_9) ?_
      have zm11 := C13.1.2.2 rfl
      have hS := hS.sh zm11
      refine Cv.go (pc' := 13) (go_pop_i dX6_bothBehind_12) ?_
      refine Cv.go (pc' := 16) (ls' := [.ref 40, .int a1, .int a2, .int (a3 + (1 : Int32))]) (go_iinc (x := a3) (v := a3 + (1 : Int32)) dX6_bothBehind_13 rfl rfl (by decide) rfl) ?_
      refine Cv.go (pc' := 2) (go_goto (tgt := 2) dX6_bothBehind_16 rfl) ?_
      exact ih m11 a1 a2 (a3 + (1 : Int32)) hS
theorem kc_X6_bothBehind (m : Mem) (a1 : Int32) (a2 : Int32) (hS : ShM m) : ∀ v mE, F_X6_bothBehind m a1 a2 = some (v, mE) → Con true kX6_bothBehind 46 [.ref 40, .int a1, .int a2] m (eI v) mE := by
  refine Con.of (ini := false) (ls0 := [.ref 40, .int a1, .int a2, .null]) (ri := .ireturn) (by decide) (by intro z; cases z) rfl (Nat.le_of_ble_eq_true rfl) (fun v mE _ => RetTy.i) ?_
  show Cv true (cX6_bothBehind, 4, RX6, 46, ((false, none) : IK)) .ireturn eI (F_X6_bothBehind m a1 a2) m 0 [.ref 40, .int a1, .int a2, .null] []
  unfold F_X6_bothBehind
  refine Cv.go (pc' := 1) (go_iconst dX6_bothBehind_0 ic_0) ?_
  refine Cv.go (pc' := 2) (ls' := [.ref 40, .int a1, .int a2, .int (0 : Int32)]) (go_istore_n dX6_bothBehind_1 rfl (by decide) rfl) ?_
  exact c_X6_bothBehind_2 FU m a1 a2 (0 : Int32) hS
theorem c_X6_change_158 (K68 : Mem → Int32 → Int32 → Int32 → Int32 → Int32 → Int32 → Int32 → Int32 → Option (Int32 × Mem)) (hK68 : ∀ (m : Mem) (a1 : Int32) (a2 : Int32) (a3 : Int32) (a4 : Int32) (a5 : Int32) (a6 : Int32) (a7 : Int32) (a8 : Int32) (hS : ShM m), Cv true (cX6_change, 12, RX6, 47, ((false, none) : IK)) .ireturn eI (K68 m a1 a2 a3 a4 a5 a6 a7 a8) m 68 [.ref 40, .int a1, .int a2, .int a3, .int a4, .int a5, .int a6, .int a7, .int a8, .null, .null, .null] []) : ∀ (m : Mem) (a1 : Int32) (a2 : Int32) (a3 : Int32) (a4 : Int32) (a5 : Int32) (a6 : Int32) (a7 : Int32) (a8 : Int32) (hS : ShM m), Cv true (cX6_change, 12, RX6, 47, ((false, none) : IK)) .ireturn eI (F_X6_change_158 K68 m a1 a2 a3 a4 a5 a6 a7 a8) m 158 [.ref 40, .int a1, .int a2, .int a3, .int a4, .int a5, .int a6, .int a7, .int a8, .null, .null, .null] [] := by
  intro m a1 a2 a3 a4 a5 a6 a7 a8 hS
  unfold F_X6_change_158
  refine Cv.go (pc' := 161) (ls' := [.ref 40, .int a1, .int a2, .int a3, .int a4, .int a5, .int a6, .int a7, .int (a8 + (1 : Int32)), .null, .null, .null]) (go_iinc (x := a8) (v := a8 + (1 : Int32)) dX6_change_158 rfl rfl (by decide) rfl) ?_
  refine Cv.go (pc' := 68) (go_goto (tgt := 68) dX6_change_161 rfl) ?_
  exact hK68 m a1 a2 a3 a4 a5 a6 a7 (a8 + (1 : Int32)) hS
theorem c_X6_change_29 : ∀ (m : Mem) (hS : ShM m), Cv true (cX6_change, 12, RX6, 47, ((false, none) : IK)) .ireturn eI (F_X6_change_29 m) m 29 [.null, .null, .null, .null, .null, .null, .null, .null, .null, .null, .null, .null] [] := by
  intro m hS
  unfold F_X6_change_29
  refine Cv.go (pc' := 31) (go_ldc dX6_change_29 lc_X6_103) ?_
  exact Cv.ret dX6_change_31 rfl
theorem c_X6_change_68 : ∀ n, ∀ (m : Mem) (a1 : Int32) (a2 : Int32) (a3 : Int32) (a4 : Int32) (a5 : Int32) (a6 : Int32) (a7 : Int32) (a8 : Int32) (hS : ShM m), Cv true (cX6_change, 12, RX6, 47, ((false, none) : IK)) .ireturn eI (F_X6_change_68 n m a1 a2 a3 a4 a5 a6 a7 a8) m 68 [.ref 40, .int a1, .int a2, .int a3, .int a4, .int a5, .int a6, .int a7, .int a8, .null, .null, .null] [] := by
  intro n
  induction n with
  | zero => intro m a1 a2 a3 a4 a5 a6 a7 a8 hS; exact Cv.no
  | succ n ih =>
    intro m a1 a2 a3 a4 a5 a6 a7 a8 hS
    unfold F_X6_change_68
    refine Cv.go (pc' := 70) (go_iload (i := 8) (x := a8) dX6_change_68 rfl) ?_
    refine Cv.go (pc' := 72) (go_bipush dX6_change_70 ib_64) ?_
    refine Cv.ite (fun h37 => ?_) (fun h37 => ?_)
    · refine Cv.go (pc' := 164) (go_icmp_ge_t (tgt := 164) dX6_change_72 rfl h37) ?_
      refine Cv.go (pc' := 165) (go_iload_n (i := 3) (x := a3) dX6_change_164 rfl rfl) ?_
      refine Cv.ite (fun h38 => ?_) (fun h38 => ?_)
      · refine Cv.go (pc' := 168) (go_if_ne_f 173 dX6_change_165 rfl h38) ?_
        refine Cv.go (pc' := 170) (go_iload (i := 6) (x := a6) dX6_change_168 rfl) ?_
        refine Cv.go (pc' := 175) (go_goto (tgt := 175) dX6_change_170 rfl) ?_
        exact Cv.ret dX6_change_175 rfl
      · refine Cv.go (pc' := 173) (go_if_ne_t (tgt := 173) dX6_change_165 rfl h38) ?_
        refine Cv.go (pc' := 175) (go_iload (i := 7) (x := a7) dX6_change_173 rfl) ?_
        exact Cv.ret dX6_change_175 rfl
    · refine Cv.go (pc' := 75) (go_icmp_ge_f 164 dX6_change_72 rfl h37) ?_
      refine Cv.go (pc' := 77) (go_iload (i := 8) (x := a8) dX6_change_75 rfl) ?_
      refine Cv.go (pc' := 79) (go_bipush dX6_change_77 ib_8) ?_
      refine Cv.go (pc' := 80) (go_idiv dX6_change_79 (by decide)) ?_
      refine Cv.namI fun x39 ex39 => ?_
      refine Cv.go (pc' := 82) (ls' := [.ref 40, .int a1, .int a2, .int a3, .int a4, .int a5, .int a6, .int a7, .int a8, .int x39, .null, .null]) (go_istore dX6_change_80 (by decide) rfl) ?_
      refine Cv.go (pc' := 84) (go_iload (i := 8) (x := a8) dX6_change_82 rfl) ?_
      refine Cv.go (pc' := 86) (go_bipush dX6_change_84 ib_8) ?_
      refine Cv.go (pc' := 87) (go_irem dX6_change_86 (by decide)) ?_
      refine Cv.namI fun x40 ex40 => ?_
      refine Cv.go (pc' := 89) (ls' := [.ref 40, .int a1, .int a2, .int a3, .int a4, .int a5, .int a6, .int a7, .int a8, .int x39, .int x40, .null]) (go_istore dX6_change_87 (by decide) rfl) ?_
      refine Cv.go (pc' := 91) (go_iload (i := 4) (x := a4) dX6_change_89 rfl) ?_
      refine Cv.go (pc' := 93) (go_iload (i := 9) (x := x39) dX6_change_91 rfl) ?_
      refine Cv.go (pc' := 94) (go_ishr dX6_change_93) ?_
      refine Cv.go (pc' := 95) (go_iconst dX6_change_94 ic_1) ?_
      refine Cv.go (pc' := 96) (go_iand dX6_change_95) ?_
      refine Cv.go (pc' := 97) (go_iconst dX6_change_96 ic_1) ?_
      refine Cv.ite (fun h41 => ?_) (fun h41 => ?_)
      · refine Cv.go (pc' := 100) (go_icmp_ne_f 158 dX6_change_97 rfl h41) ?_
        refine Cv.go (pc' := 102) (go_iload (i := 5) (x := a5) dX6_change_100 rfl) ?_
        refine Cv.go (pc' := 104) (go_iload (i := 10) (x := x40) dX6_change_102 rfl) ?_
        refine Cv.go (pc' := 105) (go_ishr dX6_change_104) ?_
        refine Cv.go (pc' := 106) (go_iconst dX6_change_105 ic_1) ?_
        refine Cv.go (pc' := 107) (go_iand dX6_change_106) ?_
        refine Cv.go (pc' := 108) (go_iconst dX6_change_107 ic_1) ?_
        refine Cv.ite (fun h42 => ?_) (fun h42 => ?_)
        · refine Cv.go (pc' := 111) (go_icmp_ne_f 158 dX6_change_108 rfl h42) ?_
          refine Cv.go (pc' := 112) (go_aload_n (i := 0) (x := 40) dX6_change_111 rfl rfl) ?_
          refine Cv.go (pc' := 114) (go_iload (i := 9) (x := x39) dX6_change_112 rfl) ?_
          refine Cv.go (pc' := 115) (go_iload_n (i := 2) (x := a2) dX6_change_114 rfl rfl) ?_
          refine Cv.bnd fun v43 m44 e45 => ?_
          have C46 := kc_X6_pays m x39 a2 hS v43 m44 e45
          refine Cv.go (pc' := 118) (st' := []) (go_callV (As := [.int x39, .int a2]) (st := []) C46 (by decide) ok_X6_pays li_X6_pays ls_X6_pays lm_X6_347 cls6 (sx_k40 hS) rfl rfl (Nat.le_of_ble_eq_true rfl) dX6_change_115) ?_
          have zm44 := C46.1.2.2 rfl
          have hS := hS.sh zm44
          refine Cv.go (pc' := 119) (go_aload_n (i := 0) (x := 40) dX6_change_118 rfl rfl) ?_
          refine Cv.go (pc' := 121) (go_iload (i := 10) (x := x40) dX6_change_119 rfl) ?_
          refine Cv.go (pc' := 122) (go_iload_n (i := 1) (x := a1) dX6_change_121 rfl rfl) ?_
          refine Cv.bnd fun v47 m48 e49 => ?_
          have C50 := kc_X6_pays m44 x40 a1 hS v47 m48 e49
          refine Cv.go (pc' := 125) (st' := []) (go_callV (As := [.int x40, .int a1]) (st := []) C50 (by decide) ok_X6_pays li_X6_pays ls_X6_pays lm_X6_347 cls6 (sx_k40 hS) rfl rfl (Nat.le_of_ble_eq_true rfl) dX6_change_122) ?_
          have zm48 := C50.1.2.2 rfl
          have hS := hS.sh zm48
          refine Cv.go (pc' := 126) (go_aload_n (i := 0) (x := 40) dX6_change_125 rfl rfl) ?_
          refine Cv.go (pc' := 127) (go_iload_n (i := 1) (x := a1) dX6_change_126 rfl rfl) ?_
          refine Cv.go (pc' := 128) (go_iload_n (i := 2) (x := a2) dX6_change_127 rfl rfl) ?_
          refine Cv.bnd fun v51 m52 e53 => ?_
          have C54 := kc_X6_bothBehind m48 a1 a2 hS v51 m52 e53
          refine Cv.go (pc' := 131) (st' := [.int v51]) (go_callV (As := [.int a1, .int a2]) (st := []) C54 (by decide) ok_X6_bothBehind li_X6_bothBehind ls_X6_bothBehind lm_X6_393 cls6 (sx_k40 hS) rfl rfl (Nat.le_of_ble_eq_true rfl) dX6_change_128) ?_
          have zm52 := C54.1.2.2 rfl
          have hS := hS.sh zm52
          refine Cv.go (pc' := 133) (ls' := [.ref 40, .int a1, .int a2, .int a3, .int a4, .int a5, .int a6, .int a7, .int a8, .int x39, .int x40, .int v51]) (go_istore dX6_change_131 (by decide) rfl) ?_
          refine Cv.go (pc' := 134) (go_aload_n (i := 0) (x := 40) dX6_change_133 rfl rfl) ?_
          refine Cv.bnd fun v55 m56 e57 => ?_
          have C58 := kc_X6_laysBack m52 hS v55 m56 e57
          refine Cv.go (pc' := 137) (st' := []) (go_callV (As := []) (st := []) C58 (by decide) ok_X6_laysBack li_X6_laysBack ls_X6_laysBack lm_X6_365 cls6 (sx_k40 hS) rfl rfl (Nat.le_of_ble_eq_true rfl) dX6_change_134) ?_
          have zm56 := C58.1.2.2 rfl
          have hS := hS.sh zm56
          refine Cv.go (pc' := 139) (go_iload (i := 11) (x := v51) dX6_change_137 rfl) ?_
          refine Cv.go (pc' := 141) (go_iload (i := 7) (x := a7) dX6_change_139 rfl) ?_
          refine Cv.ite (fun h59 => ?_) (fun h59 => ?_)
          · refine Cv.go (pc' := 158) (go_icmp_le_t (tgt := 158) dX6_change_141 rfl h59) ?_
            refine Cv.weak (ls' := [.ref 40, .int a1, .int a2, .int a3, .int a4, .int a5, .int a6, .int a7, .int a8, .null, .null, .null]) (⟨Or.inr rfl, ⟨Or.inr rfl, ⟨Or.inr rfl, ⟨Or.inr rfl, ⟨Or.inr rfl, ⟨Or.inr rfl, ⟨Or.inr rfl, ⟨Or.inr rfl, ⟨Or.inr rfl, ⟨Or.inl rfl, ⟨Or.inl rfl, ⟨Or.inl rfl, True.intro⟩⟩⟩⟩⟩⟩⟩⟩⟩⟩⟩⟩) ?_
            exact c_X6_change_158 (F_X6_change_68 n) ih m56 a1 a2 a3 a4 a5 a6 a7 a8 hS
          · refine Cv.go (pc' := 144) (go_icmp_le_f 158 dX6_change_141 rfl h59) ?_
            refine Cv.go (pc' := 146) (go_bipush dX6_change_144 ib_10) ?_
            refine Cv.go (pc' := 148) (go_iload (i := 9) (x := x39) dX6_change_146 rfl) ?_
            refine Cv.go (pc' := 149) (go_imul dX6_change_148) ?_
            refine Cv.go (pc' := 151) (go_iload (i := 10) (x := x40) dX6_change_149 rfl) ?_
            refine Cv.go (pc' := 152) (go_iadd dX6_change_151) ?_
            refine Cv.namI fun x60 ex60 => ?_
            refine Cv.go (pc' := 154) (ls' := [.ref 40, .int a1, .int a2, .int a3, .int a4, .int a5, .int x60, .int a7, .int a8, .int x39, .int x40, .int v51]) (go_istore dX6_change_152 (by decide) rfl) ?_
            refine Cv.go (pc' := 156) (go_iload (i := 11) (x := v51) dX6_change_154 rfl) ?_
            refine Cv.go (pc' := 158) (ls' := [.ref 40, .int a1, .int a2, .int a3, .int a4, .int a5, .int x60, .int v51, .int a8, .int x39, .int x40, .int v51]) (go_istore dX6_change_156 (by decide) rfl) ?_
            refine Cv.weak (ls' := [.ref 40, .int a1, .int a2, .int a3, .int a4, .int a5, .int x60, .int v51, .int a8, .null, .null, .null]) (⟨Or.inr rfl, ⟨Or.inr rfl, ⟨Or.inr rfl, ⟨Or.inr rfl, ⟨Or.inr rfl, ⟨Or.inr rfl, ⟨Or.inr rfl, ⟨Or.inr rfl, ⟨Or.inr rfl, ⟨Or.inl rfl, ⟨Or.inl rfl, ⟨Or.inl rfl, True.intro⟩⟩⟩⟩⟩⟩⟩⟩⟩⟩⟩⟩) ?_
            exact c_X6_change_158 (F_X6_change_68 n) ih m56 a1 a2 a3 a4 a5 x60 v51 a8 hS
        · refine Cv.go (pc' := 158) (go_icmp_ne_t (tgt := 158) dX6_change_108 rfl h42) ?_
          refine Cv.weak (ls' := [.ref 40, .int a1, .int a2, .int a3, .int a4, .int a5, .int a6, .int a7, .int a8, .null, .null, .null]) (⟨Or.inr rfl, ⟨Or.inr rfl, ⟨Or.inr rfl, ⟨Or.inr rfl, ⟨Or.inr rfl, ⟨Or.inr rfl, ⟨Or.inr rfl, ⟨Or.inr rfl, ⟨Or.inr rfl, ⟨Or.inl rfl, ⟨Or.inl rfl, ⟨Or.inr rfl, True.intro⟩⟩⟩⟩⟩⟩⟩⟩⟩⟩⟩⟩) ?_
          exact c_X6_change_158 (F_X6_change_68 n) ih m a1 a2 a3 a4 a5 a6 a7 a8 hS
      · refine Cv.go (pc' := 158) (go_icmp_ne_t (tgt := 158) dX6_change_97 rfl h41) ?_
        refine Cv.weak (ls' := [.ref 40, .int a1, .int a2, .int a3, .int a4, .int a5, .int a6, .int a7, .int a8, .null, .null, .null]) (⟨Or.inr rfl, ⟨Or.inr rfl, ⟨Or.inr rfl, ⟨Or.inr rfl, ⟨Or.inr rfl, ⟨Or.inr rfl, ⟨Or.inr rfl, ⟨Or.inr rfl, ⟨Or.inr rfl, ⟨Or.inl rfl, ⟨Or.inl rfl, ⟨Or.inr rfl, True.intro⟩⟩⟩⟩⟩⟩⟩⟩⟩⟩⟩⟩) ?_
        exact c_X6_change_158 (F_X6_change_68 n) ih m a1 a2 a3 a4 a5 a6 a7 a8 hS
theorem kc_X6_change (m : Mem) (a1 : Int32) (a2 : Int32) (a3 : Int32) (hS : ShM m) : ∀ v mE, F_X6_change m a1 a2 a3 = some (v, mE) → Con true kX6_change 47 [.ref 40, .int a1, .int a2, .int a3] m (eI v) mE := by
  refine Con.of (ini := false) (ls0 := [.ref 40, .int a1, .int a2, .int a3, .null, .null, .null, .null, .null, .null, .null, .null]) (ri := .ireturn) (by decide) (by intro z; cases z) rfl (Nat.le_of_ble_eq_true rfl) (fun v mE _ => RetTy.i) ?_
  show Cv true (cX6_change, 12, RX6, 47, ((false, none) : IK)) .ireturn eI (F_X6_change m a1 a2 a3) m 0 [.ref 40, .int a1, .int a2, .int a3, .null, .null, .null, .null, .null, .null, .null, .null] []
  unfold F_X6_change
  refine Cv.go (pc' := 1) (go_iload_n (i := 1) (x := a1) dX6_change_0 rfl rfl) ?_
  refine Cv.bnd fun v1 m2 e3 => ?_
  have C4 := kc_X6_isOwner m a1 v1 m2 e3
  refine Cv.go (pc' := 4) (st' := [.int (bz v1)]) (go_callS (As := [.int a1]) (st := []) C4 (by decide) ok_X6_isOwner lt_X6_isOwner lm_X6_344 rfl rfl (Nat.le_of_ble_eq_true rfl) dX6_change_1) ?_
  have zm2 := C4.1.2.2 rfl
  have hS := hS.sh zm2
  refine Cv.ite (fun h5 => ?_) (fun h5 => ?_)
  · refine Cv.go (pc' := 29) (go_if_eq_t (tgt := 29) dX6_change_4 rfl h5) ?_
    refine Cv.weak (ls' := [.null, .null, .null, .null, .null, .null, .null, .null, .null, .null, .null, .null]) (⟨Or.inl rfl, ⟨Or.inl rfl, ⟨Or.inl rfl, ⟨Or.inl rfl, ⟨Or.inr rfl, ⟨Or.inr rfl, ⟨Or.inr rfl, ⟨Or.inr rfl, ⟨Or.inr rfl, ⟨Or.inr rfl, ⟨Or.inr rfl, ⟨Or.inr rfl, True.intro⟩⟩⟩⟩⟩⟩⟩⟩⟩⟩⟩⟩) ?_
    exact c_X6_change_29 m2 hS
  · refine Cv.go (pc' := 7) (go_if_eq_f 29 dX6_change_4 rfl h5) ?_
    refine Cv.go (pc' := 8) (go_iload_n (i := 2) (x := a2) dX6_change_7 rfl rfl) ?_
    refine Cv.bnd fun v6 m7 e8 => ?_
    have C9 := kc_X6_isOwner m2 a2 v6 m7 e8
    refine Cv.go (pc' := 11) (st' := [.int (bz v6)]) (go_callS (As := [.int a2]) (st := []) C9 (by decide) ok_X6_isOwner lt_X6_isOwner lm_X6_344 rfl rfl (Nat.le_of_ble_eq_true rfl) dX6_change_8) ?_
    have zm7 := C9.1.2.2 rfl
    have hS := hS.sh zm7
    refine Cv.ite (fun h10 => ?_) (fun h10 => ?_)
    · refine Cv.go (pc' := 29) (go_if_eq_t (tgt := 29) dX6_change_11 rfl h10) ?_
      refine Cv.weak (ls' := [.null, .null, .null, .null, .null, .null, .null, .null, .null, .null, .null, .null]) (⟨Or.inl rfl, ⟨Or.inl rfl, ⟨Or.inl rfl, ⟨Or.inl rfl, ⟨Or.inr rfl, ⟨Or.inr rfl, ⟨Or.inr rfl, ⟨Or.inr rfl, ⟨Or.inr rfl, ⟨Or.inr rfl, ⟨Or.inr rfl, ⟨Or.inr rfl, True.intro⟩⟩⟩⟩⟩⟩⟩⟩⟩⟩⟩⟩) ?_
      exact c_X6_change_29 m7 hS
    · refine Cv.go (pc' := 14) (go_if_eq_f 29 dX6_change_11 rfl h10) ?_
      refine Cv.go (pc' := 15) (go_iload_n (i := 1) (x := a1) dX6_change_14 rfl rfl) ?_
      refine Cv.go (pc' := 16) (go_iload_n (i := 2) (x := a2) dX6_change_15 rfl rfl) ?_
      refine Cv.ite (fun h11 => ?_) (fun h11 => ?_)
      · refine Cv.go (pc' := 29) (go_icmp_eq_t (tgt := 29) dX6_change_16 rfl h11) ?_
        refine Cv.weak (ls' := [.null, .null, .null, .null, .null, .null, .null, .null, .null, .null, .null, .null]) (⟨Or.inl rfl, ⟨Or.inl rfl, ⟨Or.inl rfl, ⟨Or.inl rfl, ⟨Or.inr rfl, ⟨Or.inr rfl, ⟨Or.inr rfl, ⟨Or.inr rfl, ⟨Or.inr rfl, ⟨Or.inr rfl, ⟨Or.inr rfl, ⟨Or.inr rfl, True.intro⟩⟩⟩⟩⟩⟩⟩⟩⟩⟩⟩⟩) ?_
        exact c_X6_change_29 m7 hS
      · refine Cv.go (pc' := 19) (go_icmp_eq_f 29 dX6_change_16 rfl h11) ?_
        refine Cv.go (pc' := 20) (go_iload_n (i := 3) (x := a3) dX6_change_19 rfl rfl) ?_
        refine Cv.go (pc' := 21) (go_i2l dX6_change_20) ?_
        refine Cv.go (pc' := 22) (go_lconst (v := 0) dX6_change_21 (by decide)) ?_
        refine Cv.go (pc' := 23) (go_lconst (v := 1) dX6_change_22 (by decide)) ?_
        refine Cv.bnd fun v12 m13 e14 => ?_
        have C15 := kc_X6_in m7 a3.toInt64 (0 : Int64) (1 : Int64) v12 m13 e14
        refine Cv.go (pc' := 26) (st' := [.int (bz v12)]) (go_callS (As := [.long a3.toInt64, .long (0 : Int64), .long (1 : Int64)]) (st := []) C15 (by decide) ok_X6_in lt_X6_in lm_X6_67 rfl rfl (Nat.le_of_ble_eq_true rfl) dX6_change_23) ?_
        have zm13 := C15.1.2.2 rfl
        have hS := hS.sh zm13
        refine Cv.ite (fun h16 => ?_) (fun h16 => ?_)
        · refine Cv.go (pc' := 29) (go_if_ne_f 32 dX6_change_26 rfl h16) ?_
          refine Cv.weak (ls' := [.null, .null, .null, .null, .null, .null, .null, .null, .null, .null, .null, .null]) (⟨Or.inl rfl, ⟨Or.inl rfl, ⟨Or.inl rfl, ⟨Or.inl rfl, ⟨Or.inr rfl, ⟨Or.inr rfl, ⟨Or.inr rfl, ⟨Or.inr rfl, ⟨Or.inr rfl, ⟨Or.inr rfl, ⟨Or.inr rfl, ⟨Or.inr rfl, True.intro⟩⟩⟩⟩⟩⟩⟩⟩⟩⟩⟩⟩) ?_
          exact c_X6_change_29 m13 hS
        · refine Cv.go (pc' := 32) (go_if_ne_t (tgt := 32) dX6_change_26 rfl h16) ?_
          refine Cv.go (pc' := 33) (go_aload_n (i := 0) (x := 40) dX6_change_32 rfl rfl) ?_
          refine Cv.go (pc' := 34) (go_iload_n (i := 1) (x := a1) dX6_change_33 rfl rfl) ?_
          refine Cv.bnd fun v17 m18 e19 => ?_
          have C20 := kc_X6_purseOf m13 a1 hS v17 m18 e19
          refine Cv.go (pc' := 37) (st' := [.int v17]) (go_callV (As := [.int a1]) (st := []) C20 (by decide) ok_X6_purseOf li_X6_purseOf ls_X6_purseOf lm_X6_359 cls6 (sx_k40 hS) rfl rfl (Nat.le_of_ble_eq_true rfl) dX6_change_34) ?_
          have zm18 := C20.1.2.2 rfl
          have hS := hS.sh zm18
          refine Cv.go (pc' := 39) (ls' := [.ref 40, .int a1, .int a2, .int a3, .int v17, .null, .null, .null, .null, .null, .null, .null]) (go_istore dX6_change_37 (by decide) rfl) ?_
          refine Cv.go (pc' := 40) (go_aload_n (i := 0) (x := 40) dX6_change_39 rfl rfl) ?_
          refine Cv.go (pc' := 41) (go_iload_n (i := 2) (x := a2) dX6_change_40 rfl rfl) ?_
          refine Cv.bnd fun v21 m22 e23 => ?_
          have C24 := kc_X6_purseOf m18 a2 hS v21 m22 e23
          refine Cv.go (pc' := 44) (st' := [.int v21]) (go_callV (As := [.int a2]) (st := []) C24 (by decide) ok_X6_purseOf li_X6_purseOf ls_X6_purseOf lm_X6_359 cls6 (sx_k40 hS) rfl rfl (Nat.le_of_ble_eq_true rfl) dX6_change_41) ?_
          have zm22 := C24.1.2.2 rfl
          have hS := hS.sh zm22
          refine Cv.go (pc' := 46) (ls' := [.ref 40, .int a1, .int a2, .int a3, .int v17, .int v21, .null, .null, .null, .null, .null, .null]) (go_istore dX6_change_44 (by decide) rfl) ?_
          refine Cv.go (pc' := 47) (go_aload_n (i := 0) (x := 40) dX6_change_46 rfl rfl) ?_
          refine Cv.bnd fun v25 m26 e27 => ?_
          have C28 := kc_X6_laysAside m22 hS v25 m26 e27
          refine Cv.go (pc' := 50) (st' := []) (go_callV (As := []) (st := []) C28 (by decide) ok_X6_laysAside li_X6_laysAside ls_X6_laysAside lm_X6_362 cls6 (sx_k40 hS) rfl rfl (Nat.le_of_ble_eq_true rfl) dX6_change_47) ?_
          have zm26 := C28.1.2.2 rfl
          have hS := hS.sh zm26
          refine Cv.go (pc' := 51) (go_iconst dX6_change_50 ic_n1) ?_
          refine Cv.go (pc' := 53) (ls' := [.ref 40, .int a1, .int a2, .int a3, .int v17, .int v21, .int (-1 : Int32), .null, .null, .null, .null, .null]) (go_istore dX6_change_51 (by decide) rfl) ?_
          refine Cv.go (pc' := 54) (go_aload_n (i := 0) (x := 40) dX6_change_53 rfl rfl) ?_
          refine Cv.go (pc' := 55) (go_iload_n (i := 1) (x := a1) dX6_change_54 rfl rfl) ?_
          refine Cv.go (pc' := 56) (go_iload_n (i := 2) (x := a2) dX6_change_55 rfl rfl) ?_
          refine Cv.bnd fun v29 m30 e31 => ?_
          have C32 := kc_X6_bothBehind m26 a1 a2 hS v29 m30 e31
          refine Cv.go (pc' := 59) (st' := [.int v29]) (go_callV (As := [.int a1, .int a2]) (st := []) C32 (by decide) ok_X6_bothBehind li_X6_bothBehind ls_X6_bothBehind lm_X6_393 cls6 (sx_k40 hS) rfl rfl (Nat.le_of_ble_eq_true rfl) dX6_change_56) ?_
          have zm30 := C32.1.2.2 rfl
          have hS := hS.sh zm30
          refine Cv.go (pc' := 61) (ls' := [.ref 40, .int a1, .int a2, .int a3, .int v17, .int v21, .int (-1 : Int32), .int v29, .null, .null, .null, .null]) (go_istore dX6_change_59 (by decide) rfl) ?_
          refine Cv.go (pc' := 62) (go_aload_n (i := 0) (x := 40) dX6_change_61 rfl rfl) ?_
          refine Cv.bnd fun v33 m34 e35 => ?_
          have C36 := kc_X6_laysBack m30 hS v33 m34 e35
          refine Cv.go (pc' := 65) (st' := []) (go_callV (As := []) (st := []) C36 (by decide) ok_X6_laysBack li_X6_laysBack ls_X6_laysBack lm_X6_365 cls6 (sx_k40 hS) rfl rfl (Nat.le_of_ble_eq_true rfl) dX6_change_62) ?_
          have zm34 := C36.1.2.2 rfl
          have hS := hS.sh zm34
          refine Cv.go (pc' := 66) (go_iconst dX6_change_65 ic_0) ?_
          refine Cv.go (pc' := 68) (ls' := [.ref 40, .int a1, .int a2, .int a3, .int v17, .int v21, .int (-1 : Int32), .int v29, .int (0 : Int32), .null, .null, .null]) (go_istore dX6_change_66 (by decide) rfl) ?_
          exact c_X6_change_68 FU m34 a1 a2 a3 v17 v21 (-1 : Int32) v29 (0 : Int32) hS
