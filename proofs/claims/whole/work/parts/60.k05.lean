theorem c_X5_soBits_41 (K10 : Mem → Nat → Nat → Int32 → Int32 → Int32 → Option (Int32 × Mem)) (hK10 : ∀ (m : Mem) (a1 : Nat) (a2 : Nat) (a3 : Int32) (a4 : Int32) (a5 : Int32) (hS : ShX m) (ha1 : isS m a1) (ha2 : mK m a2 = (0, 0)), Cv true (cX5_soBits, 6, RX5, 6, ((false, none) : IK)) .ireturn eI (K10 m a1 a2 a3 a4 a5) m 10 [.ref 0, .ref a1, .ref a2, .int a3, .int a4, .int a5] []) : ∀ (m : Mem) (a1 : Nat) (a2 : Nat) (a3 : Int32) (a4 : Int32) (a5 : Int32) (hS : ShX m) (ha1 : isS m a1) (ha2 : mK m a2 = (0, 0)), Cv true (cX5_soBits, 6, RX5, 6, ((false, none) : IK)) .ireturn eI (F_X5_soBits_41 K10 m a1 a2 a3 a4 a5) m 41 [.ref 0, .ref a1, .ref a2, .int a3, .int a4, .int a5] [] := by
  intro m a1 a2 a3 a4 a5 hS ha1 ha2
  unfold F_X5_soBits_41
  refine Cv.go (pc' := 44) (ls' := [.ref 0, .ref a1, .ref a2, .int a3, .int a4, .int (a5 + (1 : Int32))]) (go_iinc (x := a5) (v := a5 + (1 : Int32)) dX5_soBits_41 rfl rfl (by decide) rfl) ?_
  refine Cv.go (pc' := 10) (go_goto (tgt := 10) dX5_soBits_44 rfl) ?_
  exact hK10 m a1 a2 a3 a4 (a5 + (1 : Int32)) hS ha1 ha2
theorem c_X5_soBits_10 : ∀ n, ∀ (m : Mem) (a1 : Nat) (a2 : Nat) (a3 : Int32) (a4 : Int32) (a5 : Int32) (hS : ShX m) (ha1 : isS m a1) (ha2 : mK m a2 = (0, 0)), Cv true (cX5_soBits, 6, RX5, 6, ((false, none) : IK)) .ireturn eI (F_X5_soBits_10 n m a1 a2 a3 a4 a5) m 10 [.ref 0, .ref a1, .ref a2, .int a3, .int a4, .int a5] [] := by
  intro n
  induction n with
  | zero => intro m a1 a2 a3 a4 a5 hS ha1 ha2; exact Cv.no
  | succ n ih =>
    intro m a1 a2 a3 a4 a5 hS ha1 ha2
    unfold F_X5_soBits_10
    refine Cv.go (pc' := 12) (go_iload (i := 5) (x := a5) dX5_soBits_10 rfl) ?_
    refine Cv.go (pc' := 15) (go_getT roMOST lf_X5_80 dX5_soBits_12) ?_
    refine Cv.go (pc' := 16) (go_iload_n (i := 3) (x := a3) dX5_soBits_15 rfl rfl) ?_
    refine Cv.gif fun g3 => ?_
    refine Cv.go (pc' := 17) (go_rdT roMOST g3 dX5_soBits_16) ?_
    refine Cv.ite (fun h4 => ?_) (fun h4 => ?_)
    · refine Cv.go (pc' := 47) (go_icmp_gt_t (tgt := 47) dX5_soBits_17 rfl h4) ?_
      refine Cv.go (pc' := 49) (go_iload (i := 4) (x := a4) dX5_soBits_47 rfl) ?_
      exact Cv.ret dX5_soBits_49 rfl
    · refine Cv.go (pc' := 20) (go_icmp_gt_f 47 dX5_soBits_17 rfl h4) ?_
      refine Cv.go (pc' := 21) (go_aload_n (i := 0) (x := 0) dX5_soBits_20 rfl rfl) ?_
      refine Cv.go (pc' := 22) (go_aload_n (i := 1) (x := a1) dX5_soBits_21 rfl rfl) ?_
      refine Cv.go (pc' := 23) (go_aload_n (i := 2) (x := a2) dX5_soBits_22 rfl rfl) ?_
      refine Cv.go (pc' := 24) (go_iload_n (i := 3) (x := a3) dX5_soBits_23 rfl rfl) ?_
      refine Cv.go (pc' := 26) (go_iload (i := 5) (x := a5) dX5_soBits_24 rfl) ?_
      refine Cv.bnd fun v5 m6 e7 => ?_
      have C8 := kc_X5_wouldBeSo m a1 a2 a3 a5 hS ha1 ha2 v5 m6 e7
      refine Cv.go (pc' := 29) (st' := [.int (bz v5)]) (go_callV (As := [.ref a1, .ref a2, .int a3, .int a5]) (st := []) C8 (by decide) ok_X5_wouldBeSo li_X5_wouldBeSo ls_X5_wouldBeSo lm_X5_320 cls5 (sx_k0 hS) rfl rfl (Nat.le_of_ble_eq_true rfl) dX5_soBits_26) ?_
      have zm6 := C8.1.2.2 rfl
      have hS := hS.sh zm6
      have ha1 := ha1.sh zm6
      have ha2 := sk zm6 ha2
      refine Cv.ite (fun h9 => ?_) (fun h9 => ?_)
      · refine Cv.go (pc' := 41) (go_if_eq_t (tgt := 41) dX5_soBits_29 rfl h9) ?_
        exact c_X5_soBits_41 (F_X5_soBits_10 n) ih m6 a1 a2 a3 a4 a5 hS ha1 ha2
      · refine Cv.go (pc' := 32) (go_if_eq_f 41 dX5_soBits_29 rfl h9) ?_
        refine Cv.go (pc' := 34) (go_iload (i := 4) (x := a4) dX5_soBits_32 rfl) ?_
        refine Cv.go (pc' := 35) (go_iconst dX5_soBits_34 ic_1) ?_
        refine Cv.go (pc' := 37) (go_iload (i := 5) (x := a5) dX5_soBits_35 rfl) ?_
        refine Cv.go (pc' := 38) (go_ishl dX5_soBits_37) ?_
        refine Cv.go (pc' := 39) (go_ior dX5_soBits_38) ?_
        refine Cv.namI fun x10 ex10 => ?_
        refine Cv.go (pc' := 41) (ls' := [.ref 0, .ref a1, .ref a2, .int a3, .int x10, .int a5]) (go_istore dX5_soBits_39 (by decide) rfl) ?_
        exact c_X5_soBits_41 (F_X5_soBits_10 n) ih m6 a1 a2 a3 x10 a5 hS ha1 ha2
theorem kc_X5_soBits (m : Mem) (c1 : Nat) (c2 : Nat) (a3 : Int32) (hS : ShX m) (hp1 : isS m c1) (hp2 : mK m c2 = (0, 0)) : ∀ v mE, F_X5_soBits m c1 c2 a3 = some (v, mE) → Con true kX5_soBits 6 [.ref 0, .ref c1, .ref c2, .int a3] m (eI v) mE := by
  refine Con.of (ini := false) (ls0 := [.ref 0, .ref c1, .ref c2, .int a3, .null, .null]) (ri := .ireturn) (by decide) (by intro z; cases z) rfl (Nat.le_of_ble_eq_true rfl) (fun v mE _ => RetTy.i) ?_
  show Cv true (cX5_soBits, 6, RX5, 6, ((false, none) : IK)) .ireturn eI (F_X5_soBits m c1 c2 a3) m 0 [.ref 0, .ref c1, .ref c2, .int a3, .null, .null] []
  unfold F_X5_soBits
  refine Cv.go (pc' := 1) (go_iconst dX5_soBits_0 ic_0) ?_
  refine Cv.go (pc' := 3) (ls' := [.ref 0, .ref c1, .ref c2, .int a3, .int (0 : Int32), .null]) (go_istore dX5_soBits_1 (by decide) rfl) ?_
  refine Cv.go (pc' := 6) (go_getT roLEAST lf_X5_77 dX5_soBits_3) ?_
  refine Cv.go (pc' := 7) (go_iload_n (i := 3) (x := a3) dX5_soBits_6 rfl rfl) ?_
  refine Cv.gif fun g1 => ?_
  refine Cv.go (pc' := 8) (go_rdT roLEAST g1 dX5_soBits_7) ?_
  refine Cv.namI fun x2 ex2 => ?_
  refine Cv.go (pc' := 10) (ls' := [.ref 0, .ref c1, .ref c2, .int a3, .int (0 : Int32), .int x2]) (go_istore dX5_soBits_8 (by decide) rfl) ?_
  exact c_X5_soBits_10 FU m c1 c2 a3 (0 : Int32) x2 hS hp1 hp2
theorem c_X5_soCount_32 (K10 : Mem → Nat → Nat → Int32 → Int32 → Int32 → Int32 → Option (Int32 × Mem)) (hK10 : ∀ (m : Mem) (a1 : Nat) (a2 : Nat) (a3 : Int32) (a4 : Int32) (a5 : Int32) (a6 : Int32) (hS : ShX m) (ha1 : isS m a1) (ha2 : mK m a2 = (0, 0)), Cv true (cX5_soCount, 7, RX5, 6, ((false, none) : IK)) .ireturn eI (K10 m a1 a2 a3 a4 a5 a6) m 10 [.ref 0, .ref a1, .ref a2, .int a3, .int a4, .int a5, .int a6] []) : ∀ (m : Mem) (a1 : Nat) (a2 : Nat) (a3 : Int32) (a4 : Int32) (a5 : Int32) (a6 : Int32) (hS : ShX m) (ha1 : isS m a1) (ha2 : mK m a2 = (0, 0)), Cv true (cX5_soCount, 7, RX5, 6, ((false, none) : IK)) .ireturn eI (F_X5_soCount_32 K10 m a1 a2 a3 a4 a5 a6) m 32 [.ref 0, .ref a1, .ref a2, .int a3, .int a4, .int a5, .int a6] [] := by
  intro m a1 a2 a3 a4 a5 a6 hS ha1 ha2
  unfold F_X5_soCount_32
  refine Cv.go (pc' := 35) (ls' := [.ref 0, .ref a1, .ref a2, .int a3, .int a4, .int a5, .int (a6 + (1 : Int32))]) (go_iinc (x := a6) (v := a6 + (1 : Int32)) dX5_soCount_32 rfl rfl (by decide) rfl) ?_
  refine Cv.go (pc' := 10) (go_goto (tgt := 10) dX5_soCount_35 rfl) ?_
  exact hK10 m a1 a2 a3 a4 a5 (a6 + (1 : Int32)) hS ha1 ha2
theorem c_X5_soCount_10 : ∀ n, ∀ (m : Mem) (a1 : Nat) (a2 : Nat) (a3 : Int32) (a4 : Int32) (a5 : Int32) (a6 : Int32) (hS : ShX m) (ha1 : isS m a1) (ha2 : mK m a2 = (0, 0)), Cv true (cX5_soCount, 7, RX5, 6, ((false, none) : IK)) .ireturn eI (F_X5_soCount_10 n m a1 a2 a3 a4 a5 a6) m 10 [.ref 0, .ref a1, .ref a2, .int a3, .int a4, .int a5, .int a6] [] := by
  intro n
  induction n with
  | zero => intro m a1 a2 a3 a4 a5 a6 hS ha1 ha2; exact Cv.no
  | succ n ih =>
    intro m a1 a2 a3 a4 a5 a6 hS ha1 ha2
    unfold F_X5_soCount_10
    refine Cv.go (pc' := 12) (go_iload (i := 6) (x := a6) dX5_soCount_10 rfl) ?_
    refine Cv.go (pc' := 14) (go_iload (i := 4) (x := a4) dX5_soCount_12 rfl) ?_
    refine Cv.ite (fun h3 => ?_) (fun h3 => ?_)
    · refine Cv.go (pc' := 38) (go_icmp_gt_t (tgt := 38) dX5_soCount_14 rfl h3) ?_
      refine Cv.go (pc' := 40) (go_iload (i := 5) (x := a5) dX5_soCount_38 rfl) ?_
      exact Cv.ret dX5_soCount_40 rfl
    · refine Cv.go (pc' := 17) (go_icmp_gt_f 38 dX5_soCount_14 rfl h3) ?_
      refine Cv.go (pc' := 18) (go_aload_n (i := 0) (x := 0) dX5_soCount_17 rfl rfl) ?_
      refine Cv.go (pc' := 19) (go_aload_n (i := 1) (x := a1) dX5_soCount_18 rfl rfl) ?_
      refine Cv.go (pc' := 20) (go_aload_n (i := 2) (x := a2) dX5_soCount_19 rfl rfl) ?_
      refine Cv.go (pc' := 21) (go_iload_n (i := 3) (x := a3) dX5_soCount_20 rfl rfl) ?_
      refine Cv.go (pc' := 23) (go_iload (i := 6) (x := a6) dX5_soCount_21 rfl) ?_
      refine Cv.bnd fun v4 m5 e6 => ?_
      have C7 := kc_X5_wouldBeSo m a1 a2 a3 a6 hS ha1 ha2 v4 m5 e6
      refine Cv.go (pc' := 26) (st' := [.int (bz v4)]) (go_callV (As := [.ref a1, .ref a2, .int a3, .int a6]) (st := []) C7 (by decide) ok_X5_wouldBeSo li_X5_wouldBeSo ls_X5_wouldBeSo lm_X5_320 cls5 (sx_k0 hS) rfl rfl (Nat.le_of_ble_eq_true rfl) dX5_soCount_23) ?_
      have zm5 := C7.1.2.2 rfl
      have hS := hS.sh zm5
      have ha1 := ha1.sh zm5
      have ha2 := sk zm5 ha2
      refine Cv.ite (fun h8 => ?_) (fun h8 => ?_)
      · refine Cv.go (pc' := 32) (go_if_eq_t (tgt := 32) dX5_soCount_26 rfl h8) ?_
        exact c_X5_soCount_32 (F_X5_soCount_10 n) ih m5 a1 a2 a3 a4 a5 a6 hS ha1 ha2
      · refine Cv.go (pc' := 29) (go_if_eq_f 32 dX5_soCount_26 rfl h8) ?_
        refine Cv.go (pc' := 32) (ls' := [.ref 0, .ref a1, .ref a2, .int a3, .int a4, .int (a5 + (1 : Int32)), .int a6]) (go_iinc (x := a5) (v := a5 + (1 : Int32)) dX5_soCount_29 rfl rfl (by decide) rfl) ?_
        exact c_X5_soCount_32 (F_X5_soCount_10 n) ih m5 a1 a2 a3 a4 (a5 + (1 : Int32)) a6 hS ha1 ha2
theorem kc_X5_soCount (m : Mem) (c1 : Nat) (c2 : Nat) (a3 : Int32) (a4 : Int32) (hS : ShX m) (hp1 : isS m c1) (hp2 : mK m c2 = (0, 0)) : ∀ v mE, F_X5_soCount m c1 c2 a3 a4 = some (v, mE) → Con true kX5_soCount 6 [.ref 0, .ref c1, .ref c2, .int a3, .int a4] m (eI v) mE := by
  refine Con.of (ini := false) (ls0 := [.ref 0, .ref c1, .ref c2, .int a3, .int a4, .null, .null]) (ri := .ireturn) (by decide) (by intro z; cases z) rfl (Nat.le_of_ble_eq_true rfl) (fun v mE _ => RetTy.i) ?_
  show Cv true (cX5_soCount, 7, RX5, 6, ((false, none) : IK)) .ireturn eI (F_X5_soCount m c1 c2 a3 a4) m 0 [.ref 0, .ref c1, .ref c2, .int a3, .int a4, .null, .null] []
  unfold F_X5_soCount
  refine Cv.go (pc' := 1) (go_iconst dX5_soCount_0 ic_0) ?_
  refine Cv.go (pc' := 3) (ls' := [.ref 0, .ref c1, .ref c2, .int a3, .int a4, .int (0 : Int32), .null]) (go_istore dX5_soCount_1 (by decide) rfl) ?_
  refine Cv.go (pc' := 6) (go_getT roLEAST lf_X5_77 dX5_soCount_3) ?_
  refine Cv.go (pc' := 7) (go_iload_n (i := 3) (x := a3) dX5_soCount_6 rfl rfl) ?_
  refine Cv.gif fun g1 => ?_
  refine Cv.go (pc' := 8) (go_rdT roLEAST g1 dX5_soCount_7) ?_
  refine Cv.namI fun x2 ex2 => ?_
  refine Cv.go (pc' := 10) (ls' := [.ref 0, .ref c1, .ref c2, .int a3, .int a4, .int (0 : Int32), .int x2]) (go_istore dX5_soCount_8 (by decide) rfl) ?_
  exact c_X5_soCount_10 FU m c1 c2 a3 a4 (0 : Int32) x2 hS hp1 hp2
theorem c_X5_soLeast_7 : ∀ n, ∀ (m : Mem) (a1 : Nat) (a2 : Nat) (a3 : Int32) (a4 : Int32) (a5 : Int32) (hS : ShX m) (ha1 : isS m a1) (ha2 : mK m a2 = (0, 0)), Cv true (cX5_soLeast, 6, RX5, 6, ((false, none) : IK)) .ireturn eI (F_X5_soLeast_7 n m a1 a2 a3 a4 a5) m 7 [.ref 0, .ref a1, .ref a2, .int a3, .int a4, .int a5] [] := by
  intro n
  induction n with
  | zero => intro m a1 a2 a3 a4 a5 hS ha1 ha2; exact Cv.no
  | succ n ih =>
    intro m a1 a2 a3 a4 a5 hS ha1 ha2
    unfold F_X5_soLeast_7
    refine Cv.go (pc' := 9) (go_iload (i := 5) (x := a5) dX5_soLeast_7 rfl) ?_
    refine Cv.go (pc' := 11) (go_iload (i := 4) (x := a4) dX5_soLeast_9 rfl) ?_
    refine Cv.ite (fun h3 => ?_) (fun h3 => ?_)
    · refine Cv.go (pc' := 35) (go_icmp_gt_t (tgt := 35) dX5_soLeast_11 rfl h3) ?_
      refine Cv.go (pc' := 36) (go_iconst dX5_soLeast_35 ic_n1) ?_
      exact Cv.ret dX5_soLeast_36 rfl
    · refine Cv.go (pc' := 14) (go_icmp_gt_f 35 dX5_soLeast_11 rfl h3) ?_
      refine Cv.go (pc' := 15) (go_aload_n (i := 0) (x := 0) dX5_soLeast_14 rfl rfl) ?_
      refine Cv.go (pc' := 16) (go_aload_n (i := 1) (x := a1) dX5_soLeast_15 rfl rfl) ?_
      refine Cv.go (pc' := 17) (go_aload_n (i := 2) (x := a2) dX5_soLeast_16 rfl rfl) ?_
      refine Cv.go (pc' := 18) (go_iload_n (i := 3) (x := a3) dX5_soLeast_17 rfl rfl) ?_
      refine Cv.go (pc' := 20) (go_iload (i := 5) (x := a5) dX5_soLeast_18 rfl) ?_
      refine Cv.bnd fun v4 m5 e6 => ?_
      have C7 := kc_X5_wouldBeSo m a1 a2 a3 a5 hS ha1 ha2 v4 m5 e6
      refine Cv.go (pc' := 23) (st' := [.int (bz v4)]) (go_callV (As := [.ref a1, .ref a2, .int a3, .int a5]) (st := []) C7 (by decide) ok_X5_wouldBeSo li_X5_wouldBeSo ls_X5_wouldBeSo lm_X5_320 cls5 (sx_k0 hS) rfl rfl (Nat.le_of_ble_eq_true rfl) dX5_soLeast_20) ?_
      have zm5 := C7.1.2.2 rfl
      have hS := hS.sh zm5
      have ha1 := ha1.sh zm5
      have ha2 := sk zm5 ha2
      refine Cv.ite (fun h8 => ?_) (fun h8 => ?_)
      · refine Cv.go (pc' := 29) (go_if_eq_t (tgt := 29) dX5_soLeast_23 rfl h8) ?_
        refine Cv.go (pc' := 32) (ls' := [.ref 0, .ref a1, .ref a2, .int a3, .int a4, .int (a5 + (1 : Int32))]) (go_iinc (x := a5) (v := a5 + (1 : Int32)) dX5_soLeast_29 rfl rfl (by decide) rfl) ?_
        refine Cv.go (pc' := 7) (go_goto (tgt := 7) dX5_soLeast_32 rfl) ?_
        exact ih m5 a1 a2 a3 a4 (a5 + (1 : Int32)) hS ha1 ha2
      · refine Cv.go (pc' := 26) (go_if_eq_f 29 dX5_soLeast_23 rfl h8) ?_
        refine Cv.go (pc' := 28) (go_iload (i := 5) (x := a5) dX5_soLeast_26 rfl) ?_
        exact Cv.ret dX5_soLeast_28 rfl
theorem kc_X5_soLeast (m : Mem) (c1 : Nat) (c2 : Nat) (a3 : Int32) (a4 : Int32) (hS : ShX m) (hp1 : isS m c1) (hp2 : mK m c2 = (0, 0)) : ∀ v mE, F_X5_soLeast m c1 c2 a3 a4 = some (v, mE) → Con true kX5_soLeast 6 [.ref 0, .ref c1, .ref c2, .int a3, .int a4] m (eI v) mE := by
  refine Con.of (ini := false) (ls0 := [.ref 0, .ref c1, .ref c2, .int a3, .int a4, .null]) (ri := .ireturn) (by decide) (by intro z; cases z) rfl (Nat.le_of_ble_eq_true rfl) (fun v mE _ => RetTy.i) ?_
  show Cv true (cX5_soLeast, 6, RX5, 6, ((false, none) : IK)) .ireturn eI (F_X5_soLeast m c1 c2 a3 a4) m 0 [.ref 0, .ref c1, .ref c2, .int a3, .int a4, .null] []
  unfold F_X5_soLeast
  refine Cv.go (pc' := 3) (go_getT roLEAST lf_X5_77 dX5_soLeast_0) ?_
  refine Cv.go (pc' := 4) (go_iload_n (i := 3) (x := a3) dX5_soLeast_3 rfl rfl) ?_
  refine Cv.gif fun g1 => ?_
  refine Cv.go (pc' := 5) (go_rdT roLEAST g1 dX5_soLeast_4) ?_
  refine Cv.namI fun x2 ex2 => ?_
  refine Cv.go (pc' := 7) (ls' := [.ref 0, .ref c1, .ref c2, .int a3, .int a4, .int x2]) (go_istore dX5_soLeast_5 (by decide) rfl) ?_
  exact c_X5_soLeast_7 FU m c1 c2 a3 a4 x2 hS hp1 hp2
theorem c_X5_soTexts_38 (K5 : Mem → Nat → Nat → Int32 → Int32 → Option (Int32 × Mem)) (hK5 : ∀ (m : Mem) (a1 : Nat) (a2 : Nat) (a3 : Int32) (a4 : Int32) (hS : ShX m) (ha1 : isS m a1) (ha2 : mK m a2 = (0, 0)), Cv true (cX5_soTexts, 5, RX5, 5, ((false, none) : IK)) .ireturn eI (K5 m a1 a2 a3 a4) m 5 [.ref 0, .ref a1, .ref a2, .int a3, .int a4] []) : ∀ (m : Mem) (a1 : Nat) (a2 : Nat) (a3 : Int32) (a4 : Int32) (hS : ShX m) (ha1 : isS m a1) (ha2 : mK m a2 = (0, 0)), Cv true (cX5_soTexts, 5, RX5, 5, ((false, none) : IK)) .ireturn eI (F_X5_soTexts_38 K5 m a1 a2 a3 a4) m 38 [.ref 0, .ref a1, .ref a2, .int a3, .int a4] [] := by
  intro m a1 a2 a3 a4 hS ha1 ha2
  unfold F_X5_soTexts_38
  refine Cv.go (pc' := 41) (ls' := [.ref 0, .ref a1, .ref a2, .int a3, .int (a4 + (1 : Int32))]) (go_iinc (x := a4) (v := a4 + (1 : Int32)) dX5_soTexts_38 rfl rfl (by decide) rfl) ?_
  refine Cv.go (pc' := 5) (go_goto (tgt := 5) dX5_soTexts_41 rfl) ?_
  exact hK5 m a1 a2 a3 (a4 + (1 : Int32)) hS ha1 ha2
theorem c_X5_soTexts_5 : ∀ n, ∀ (m : Mem) (a1 : Nat) (a2 : Nat) (a3 : Int32) (a4 : Int32) (hS : ShX m) (ha1 : isS m a1) (ha2 : mK m a2 = (0, 0)), Cv true (cX5_soTexts, 5, RX5, 5, ((false, none) : IK)) .ireturn eI (F_X5_soTexts_5 n m a1 a2 a3 a4) m 5 [.ref 0, .ref a1, .ref a2, .int a3, .int a4] [] := by
  intro n
  induction n with
  | zero => intro m a1 a2 a3 a4 hS ha1 ha2; exact Cv.no
  | succ n ih =>
    intro m a1 a2 a3 a4 hS ha1 ha2
    unfold F_X5_soTexts_5
    refine Cv.go (pc' := 7) (go_iload (i := 4) (x := a4) dX5_soTexts_5 rfl) ?_
    refine Cv.go (pc' := 8) (go_aload_n (i := 0) (x := 0) dX5_soTexts_7 rfl rfl) ?_
    refine Cv.go (pc' := 11) (go_getI (i := 5) cls5 (sx_k0 hS) (by decide) rfl lf_X5_139 (by decide) dX5_soTexts_8) ?_
    refine Cv.ite (fun h1 => ?_) (fun h1 => ?_)
    · refine Cv.go (pc' := 44) (go_icmp_ge_t (tgt := 44) dX5_soTexts_11 rfl h1) ?_
      refine Cv.go (pc' := 45) (go_iload_n (i := 3) (x := a3) dX5_soTexts_44 rfl rfl) ?_
      exact Cv.ret dX5_soTexts_45 rfl
    · refine Cv.go (pc' := 14) (go_icmp_ge_f 44 dX5_soTexts_11 rfl h1) ?_
      refine Cv.go (pc' := 15) (go_aload_n (i := 0) (x := 0) dX5_soTexts_14 rfl rfl) ?_
      refine Cv.go (pc' := 16) (go_aload_n (i := 1) (x := a1) dX5_soTexts_15 rfl rfl) ?_
      refine Cv.go (pc' := 17) (go_aload_n (i := 0) (x := 0) dX5_soTexts_16 rfl rfl) ?_
      refine Cv.go (pc' := 20) (go_getR (i := 4) cls5 (sx_k0 hS) (by decide) rfl lf_X5_24 (Or.inr ⟨_, rfl⟩) (sx_r0_4 hS) dX5_soTexts_17) ?_
      refine Cv.go (pc' := 22) (go_iload (i := 4) (x := a4) dX5_soTexts_20 rfl) ?_
      refine Cv.gif fun g2 => ?_
      refine Cv.gref fun r4 e5 => ?_
      refine Cv.go (pc' := 23) (go_aaload (t := 11) (t0 := 4) (sx_k6 hS) (by decide) (fun _ => rfl) g2 e5 dX5_soTexts_22) ?_
      have hf3 := sx_e6 hS e5
      refine Cv.go (pc' := 24) (go_aload_n (i := 2) (x := a2) dX5_soTexts_23 rfl rfl) ?_
      refine Cv.bnd fun v6 m7 e8 => ?_
      have C9 := kc_X5_firstOtherwise m a1 r4 a2 hS ha1 hf3 ha2 v6 m7 e8
      refine Cv.go (pc' := 27) (st' := [.int v6]) (go_callV (As := [.ref a1, .ref r4, .ref a2]) (st := []) C9 (by decide) ok_X5_firstOtherwise li_X5_firstOtherwise ls_X5_firstOtherwise lm_X5_215 cls5 (sx_k0 hS) rfl rfl (Nat.le_of_ble_eq_true rfl) dX5_soTexts_24) ?_
      have zm7 := C9.1.2.2 rfl
      have hS := hS.sh zm7
      have ha1 := ha1.sh zm7
      have ha2 := sk zm7 ha2
      have hf3 := hf3.sh zm7
      refine Cv.go (pc' := 28) (go_iconst dX5_soTexts_27 ic_n1) ?_
      refine Cv.ite (fun h10 => ?_) (fun h10 => ?_)
      · refine Cv.go (pc' := 31) (go_icmp_ne_f 38 dX5_soTexts_28 rfl h10) ?_
        refine Cv.go (pc' := 32) (go_iload_n (i := 3) (x := a3) dX5_soTexts_31 rfl rfl) ?_
        refine Cv.go (pc' := 33) (go_iconst dX5_soTexts_32 ic_1) ?_
        refine Cv.go (pc' := 35) (go_iload (i := 4) (x := a4) dX5_soTexts_33 rfl) ?_
        refine Cv.go (pc' := 36) (go_ishl dX5_soTexts_35) ?_
        refine Cv.go (pc' := 37) (go_ior dX5_soTexts_36) ?_
        refine Cv.namI fun x11 ex11 => ?_
        refine Cv.go (pc' := 38) (ls' := [.ref 0, .ref a1, .ref a2, .int x11, .int a4]) (go_istore_n dX5_soTexts_37 rfl (by decide) rfl) ?_
        exact c_X5_soTexts_38 (F_X5_soTexts_5 n) ih m7 a1 a2 x11 a4 hS ha1 ha2
      · refine Cv.go (pc' := 38) (go_icmp_ne_t (tgt := 38) dX5_soTexts_28 rfl h10) ?_
        exact c_X5_soTexts_38 (F_X5_soTexts_5 n) ih m7 a1 a2 a3 a4 hS ha1 ha2
theorem kc_X5_soTexts (m : Mem) (c1 : Nat) (c2 : Nat) (hS : ShX m) (hp1 : isS m c1) (hp2 : mK m c2 = (0, 0)) : ∀ v mE, F_X5_soTexts m c1 c2 = some (v, mE) → Con true kX5_soTexts 5 [.ref 0, .ref c1, .ref c2] m (eI v) mE := by
  refine Con.of (ini := false) (ls0 := [.ref 0, .ref c1, .ref c2, .null, .null]) (ri := .ireturn) (by decide) (by intro z; cases z) rfl (Nat.le_of_ble_eq_true rfl) (fun v mE _ => RetTy.i) ?_
  show Cv true (cX5_soTexts, 5, RX5, 5, ((false, none) : IK)) .ireturn eI (F_X5_soTexts m c1 c2) m 0 [.ref 0, .ref c1, .ref c2, .null, .null] []
  unfold F_X5_soTexts
  refine Cv.go (pc' := 1) (go_iconst dX5_soTexts_0 ic_0) ?_
  refine Cv.go (pc' := 2) (ls' := [.ref 0, .ref c1, .ref c2, .int (0 : Int32), .null]) (go_istore_n dX5_soTexts_1 rfl (by decide) rfl) ?_
  refine Cv.go (pc' := 3) (go_iconst dX5_soTexts_2 ic_0) ?_
  refine Cv.go (pc' := 5) (ls' := [.ref 0, .ref c1, .ref c2, .int (0 : Int32), .int (0 : Int32)]) (go_istore dX5_soTexts_3 (by decide) rfl) ?_
  exact c_X5_soTexts_5 FU m c1 c2 (0 : Int32) (0 : Int32) hS hp1 hp2
theorem c_X5_soCoins_37 (K4 : Mem → Nat → Int32 → Int32 → Option (Int32 × Mem)) (hK4 : ∀ (m : Mem) (a1 : Nat) (a2 : Int32) (a3 : Int32) (hS : ShX m) (ha1 : isS m a1), Cv true (cX5_soCoins, 4, RX5, 5, ((false, none) : IK)) .ireturn eI (K4 m a1 a2 a3) m 4 [.ref 0, .ref a1, .int a2, .int a3] []) : ∀ (m : Mem) (a1 : Nat) (a2 : Int32) (a3 : Int32) (hS : ShX m) (ha1 : isS m a1), Cv true (cX5_soCoins, 4, RX5, 5, ((false, none) : IK)) .ireturn eI (F_X5_soCoins_37 K4 m a1 a2 a3) m 37 [.ref 0, .ref a1, .int a2, .int a3] [] := by
  intro m a1 a2 a3 hS ha1
  unfold F_X5_soCoins_37
  refine Cv.go (pc' := 40) (ls' := [.ref 0, .ref a1, .int a2, .int (a3 + (1 : Int32))]) (go_iinc (x := a3) (v := a3 + (1 : Int32)) dX5_soCoins_37 rfl rfl (by decide) rfl) ?_
  refine Cv.go (pc' := 4) (go_goto (tgt := 4) dX5_soCoins_40 rfl) ?_
  exact hK4 m a1 a2 (a3 + (1 : Int32)) hS ha1
theorem c_X5_soCoins_4 : ∀ n, ∀ (m : Mem) (a1 : Nat) (a2 : Int32) (a3 : Int32) (hS : ShX m) (ha1 : isS m a1), Cv true (cX5_soCoins, 4, RX5, 5, ((false, none) : IK)) .ireturn eI (F_X5_soCoins_4 n m a1 a2 a3) m 4 [.ref 0, .ref a1, .int a2, .int a3] [] := by
  intro n
  induction n with
  | zero => intro m a1 a2 a3 hS ha1; exact Cv.no
  | succ n ih =>
    intro m a1 a2 a3 hS ha1
    unfold F_X5_soCoins_4
    refine Cv.go (pc' := 5) (go_iload_n (i := 3) (x := a3) dX5_soCoins_4 rfl rfl) ?_
    refine Cv.go (pc' := 6) (go_aload_n (i := 0) (x := 0) dX5_soCoins_5 rfl rfl) ?_
    refine Cv.go (pc' := 9) (go_getI (i := 2) cls5 (sx_k0 hS) (by decide) rfl lf_X5_103 (by decide) dX5_soCoins_6) ?_
    refine Cv.ite (fun h1 => ?_) (fun h1 => ?_)
    · refine Cv.go (pc' := 43) (go_icmp_ge_t (tgt := 43) dX5_soCoins_9 rfl h1) ?_
      refine Cv.go (pc' := 44) (go_iload_n (i := 2) (x := a2) dX5_soCoins_43 rfl rfl) ?_
      exact Cv.ret dX5_soCoins_44 rfl
    · refine Cv.go (pc' := 12) (go_icmp_ge_f 43 dX5_soCoins_9 rfl h1) ?_
      refine Cv.go (pc' := 13) (go_aload_n (i := 0) (x := 0) dX5_soCoins_12 rfl rfl) ?_
      refine Cv.go (pc' := 14) (go_aload_n (i := 1) (x := a1) dX5_soCoins_13 rfl rfl) ?_
      refine Cv.go (pc' := 15) (go_aload_n (i := 0) (x := 0) dX5_soCoins_14 rfl rfl) ?_
      refine Cv.bnd fun v2 m3 e4 => ?_
      have C5 := kc_X5_theRule m hS v2 m3 e4
      refine Cv.go (pc' := 18) (st' := [.ref v2, .ref a1, .ref 0]) (go_callV (As := []) (st := [.ref a1, .ref 0]) C5 (by decide) ok_X5_theRule li_X5_theRule ls_X5_theRule lm_X5_111 cls5 (sx_k0 hS) rfl rfl (Nat.le_of_ble_eq_true rfl) dX5_soCoins_15) ?_
      have zm3 := C5.1.2.2 rfl
      have hS := hS.sh zm3
      have ha1 := ha1.sh zm3
      have hf6 := theRule_isT (zm3) e4 hS
      refine Cv.go (pc' := 19) (go_aload_n (i := 0) (x := 0) dX5_soCoins_18 rfl rfl) ?_
      refine Cv.go (pc' := 22) (go_getR (i := 1) cls5 (sx_k0 hS) (by decide) rfl lf_X5_11 (Or.inr ⟨_, rfl⟩) (sx_r0_1 hS) dX5_soCoins_19) ?_
      refine Cv.go (pc' := 23) (go_iload_n (i := 3) (x := a3) dX5_soCoins_22 rfl rfl) ?_
      refine Cv.gif fun g7 => ?_
      refine Cv.go (pc' := 24) (go_aaload (t := 9) (t0 := 2) (sx_k1 hS) (by decide) (fun _ => rfl) g7 (sx_e1 hS (vp_lt g7)).1 dX5_soCoins_23) ?_
      have hf8 := (sx_e1 hS (vp_lt g7)).2
      refine Cv.bnd fun v9 m10 e11 => ?_
      have C12 := kc_X5_firstOtherwise m3 a1 v2 (20 + a3.toNatClampNeg) hS ha1 hf6 hf8 v9 m10 e11
      refine Cv.go (pc' := 27) (st' := [.int v9]) (go_callV (As := [.ref a1, .ref v2, .ref (20 + a3.toNatClampNeg)]) (st := []) C12 (by decide) ok_X5_firstOtherwise li_X5_firstOtherwise ls_X5_firstOtherwise lm_X5_215 cls5 (sx_k0 hS) rfl rfl (Nat.le_of_ble_eq_true rfl) dX5_soCoins_24) ?_
      have zm10 := C12.1.2.2 rfl
      have hS := hS.sh zm10
      have ha1 := ha1.sh zm10
      have hf6 := hf6.sh zm10
      have hf8 := sk zm10 hf8
      refine Cv.go (pc' := 28) (go_iconst dX5_soCoins_27 ic_n1) ?_
      refine Cv.ite (fun h13 => ?_) (fun h13 => ?_)
      · refine Cv.go (pc' := 31) (go_icmp_ne_f 37 dX5_soCoins_28 rfl h13) ?_
        refine Cv.go (pc' := 32) (go_iload_n (i := 2) (x := a2) dX5_soCoins_31 rfl rfl) ?_
        refine Cv.go (pc' := 33) (go_iconst dX5_soCoins_32 ic_1) ?_
        refine Cv.go (pc' := 34) (go_iload_n (i := 3) (x := a3) dX5_soCoins_33 rfl rfl) ?_
        refine Cv.go (pc' := 35) (go_ishl dX5_soCoins_34) ?_
        refine Cv.go (pc' := 36) (go_ior dX5_soCoins_35) ?_
        refine Cv.namI fun x14 ex14 => ?_
        refine Cv.go (pc' := 37) (ls' := [.ref 0, .ref a1, .int x14, .int a3]) (go_istore_n dX5_soCoins_36 rfl (by decide) rfl) ?_
        exact c_X5_soCoins_37 (F_X5_soCoins_4 n) ih m10 a1 x14 a3 hS ha1
      · refine Cv.go (pc' := 37) (go_icmp_ne_t (tgt := 37) dX5_soCoins_28 rfl h13) ?_
        exact c_X5_soCoins_37 (F_X5_soCoins_4 n) ih m10 a1 a2 a3 hS ha1
theorem kc_X5_soCoins (m : Mem) (c1 : Nat) (hS : ShX m) (hp1 : isS m c1) : ∀ v mE, F_X5_soCoins m c1 = some (v, mE) → Con true kX5_soCoins 5 [.ref 0, .ref c1] m (eI v) mE := by
  refine Con.of (ini := false) (ls0 := [.ref 0, .ref c1, .null, .null]) (ri := .ireturn) (by decide) (by intro z; cases z) rfl (Nat.le_of_ble_eq_true rfl) (fun v mE _ => RetTy.i) ?_
  show Cv true (cX5_soCoins, 4, RX5, 5, ((false, none) : IK)) .ireturn eI (F_X5_soCoins m c1) m 0 [.ref 0, .ref c1, .null, .null] []
  unfold F_X5_soCoins
  refine Cv.go (pc' := 1) (go_iconst dX5_soCoins_0 ic_0) ?_
  refine Cv.go (pc' := 2) (ls' := [.ref 0, .ref c1, .int (0 : Int32), .null]) (go_istore_n dX5_soCoins_1 rfl (by decide) rfl) ?_
  refine Cv.go (pc' := 3) (go_iconst dX5_soCoins_2 ic_0) ?_
  refine Cv.go (pc' := 4) (ls' := [.ref 0, .ref c1, .int (0 : Int32), .int (0 : Int32)]) (go_istore_n dX5_soCoins_3 rfl (by decide) rfl) ?_
  exact c_X5_soCoins_4 FU m c1 (0 : Int32) (0 : Int32) hS hp1
theorem kc_X5_tells (m : Mem) (a1 : Int32) (a2 : Int32) (a3 : Int32) (hS : ShX m) : ∀ v mE, F_X5_tells m a1 a2 a3 = some (v, mE) → Con true kX5_tells 7 [.ref 0, .int a1, .int a2, .int a3] m (eI v) mE := by
  refine Con.of (ini := false) (ls0 := [.ref 0, .int a1, .int a2, .int a3, .null, .null]) (ri := .ireturn) (by decide) (by intro z; cases z) rfl (Nat.le_of_ble_eq_true rfl) (fun v mE _ => RetTy.i) ?_
  show Cv true (cX5_tells, 6, RX5, 7, ((false, none) : IK)) .ireturn eI (F_X5_tells m a1 a2 a3) m 0 [.ref 0, .int a1, .int a2, .int a3, .null, .null] []
  unfold F_X5_tells
  refine Cv.go (pc' := 1) (go_iload_n (i := 1) (x := a1) dX5_tells_0 rfl rfl) ?_
  refine Cv.bnd fun v1 m2 e3 => ?_
  have C4 := kc_X5_isSheet m a1 v1 m2 e3
  refine Cv.go (pc' := 4) (st' := [.int (bz v1)]) (go_callS (As := [.int a1]) (st := []) C4 (by decide) ok_X5_isSheet lt_X5_isSheet lm_X5_208 rfl rfl (Nat.le_of_ble_eq_true rfl) dX5_tells_1) ?_
  have zm2 := C4.1.2.2 rfl
  have hS := hS.sh zm2
  refine Cv.ite (fun h5 => ?_) (fun h5 => ?_)
  · refine Cv.go (pc' := 25) (go_if_eq_t (tgt := 25) dX5_tells_4 rfl h5) ?_
    refine Cv.go (pc' := 27) (go_bipush dX5_tells_25 ib_n2) ?_
    exact Cv.ret dX5_tells_27 rfl
  · refine Cv.go (pc' := 7) (go_if_eq_f 25 dX5_tells_4 rfl h5) ?_
    refine Cv.go (pc' := 8) (go_aload_n (i := 0) (x := 0) dX5_tells_7 rfl rfl) ?_
    refine Cv.go (pc' := 9) (go_iload_n (i := 2) (x := a2) dX5_tells_8 rfl rfl) ?_
    refine Cv.bnd fun v6 m7 e8 => ?_
    have C9 := kc_X5_isCoin m2 a2 hS v6 m7 e8
    refine Cv.go (pc' := 12) (st' := [.int (bz v6)]) (go_callV (As := [.int a2]) (st := []) C9 (by decide) ok_X5_isCoin li_X5_isCoin ls_X5_isCoin lm_X5_87 cls5 (sx_k0 hS) rfl rfl (Nat.le_of_ble_eq_true rfl) dX5_tells_9) ?_
    have zm7 := C9.1.2.2 rfl
    have hS := hS.sh zm7
    refine Cv.ite (fun h10 => ?_) (fun h10 => ?_)
    · refine Cv.go (pc' := 25) (go_if_eq_t (tgt := 25) dX5_tells_12 rfl h10) ?_
      refine Cv.go (pc' := 27) (go_bipush dX5_tells_25 ib_n2) ?_
      exact Cv.ret dX5_tells_27 rfl
    · refine Cv.go (pc' := 15) (go_if_eq_f 25 dX5_tells_12 rfl h10) ?_
      refine Cv.go (pc' := 16) (go_iload_n (i := 3) (x := a3) dX5_tells_15 rfl rfl) ?_
      refine Cv.go (pc' := 17) (go_iconst dX5_tells_16 ic_0) ?_
      refine Cv.go (pc' := 19) (go_bipush dX5_tells_17 ib_9) ?_
      refine Cv.bnd fun v11 m12 e13 => ?_
      have C14 := kc_X5_isBetween m7 a3 (0 : Int32) (9 : Int32) v11 m12 e13
      refine Cv.go (pc' := 22) (st' := [.int (bz v11)]) (go_callS (As := [.int a3, .int (0 : Int32), .int (9 : Int32)]) (st := []) C14 (by decide) ok_X5_isBetween lt_X5_isBetween lm_X5_73 rfl rfl (Nat.le_of_ble_eq_true rfl) dX5_tells_19) ?_
      have zm12 := C14.1.2.2 rfl
      have hS := hS.sh zm12
      refine Cv.ite (fun h15 => ?_) (fun h15 => ?_)
      · refine Cv.go (pc' := 25) (go_if_ne_f 28 dX5_tells_22 rfl h15) ?_
        refine Cv.go (pc' := 27) (go_bipush dX5_tells_25 ib_n2) ?_
        exact Cv.ret dX5_tells_27 rfl
      · refine Cv.go (pc' := 28) (go_if_ne_t (tgt := 28) dX5_tells_22 rfl h15) ?_
        refine Cv.go (pc' := 29) (go_aload_n (i := 0) (x := 0) dX5_tells_28 rfl rfl) ?_
        refine Cv.go (pc' := 32) (go_getR (i := 7) cls5 (sx_k0 hS) (by decide) rfl lf_X5_30 (Or.inr ⟨_, rfl⟩) (sx_r0_7 hS) dX5_tells_29) ?_
        refine Cv.go (pc' := 33) (go_iload_n (i := 1) (x := a1) dX5_tells_32 rfl rfl) ?_
        refine Cv.gif fun g16 => ?_
        refine Cv.go (pc' := 34) (go_aaload (t := 10) (t0 := 3) (sx_k7 hS) (by decide) (fun _ => rfl) g16 (sx_e7 hS (vp_lt g16)).1 dX5_tells_33) ?_
        have hf17 := (sx_e7 hS (vp_lt g16)).2
        refine Cv.go (pc' := 36) (ls' := [.ref 0, .int a1, .int a2, .int a3, .ref (28 + 2 * a1.toNatClampNeg), .null]) (go_astore dX5_tells_34 (by decide) rfl) ?_
        refine Cv.go (pc' := 38) (go_aload (i := 4) (x := 28 + 2 * a1.toNatClampNeg) dX5_tells_36 rfl) ?_
        refine Cv.bnd fun v18 m19 e20 => ?_
        have C21 := kc_X2_isMissing m12 (28 + 2 * a1.toNatClampNeg) hf17 v18 m19 e20
        refine Cv.go (pc' := 41) (st' := [.int (bz v18)]) (go_callV (As := []) (st := []) C21 (by decide) ok_X2_isMissing li_X2_isMissing ls_X2_isMissing lm_X5_211 cls2 hf17.1 rfl rfl (Nat.le_of_ble_eq_true rfl) dX5_tells_38) ?_
        have zm19 := C21.1.2.2 rfl
        have hS := hS.sh zm19
        have hf17 := hf17.sh zm19
        refine Cv.ite (fun h22 => ?_) (fun h22 => ?_)
        · refine Cv.go (pc' := 47) (go_if_eq_t (tgt := 47) dX5_tells_41 rfl h22) ?_
          refine Cv.go (pc' := 48) (go_aload_n (i := 0) (x := 0) dX5_tells_47 rfl rfl) ?_
          refine Cv.go (pc' := 51) (go_getR (i := 1) cls5 (sx_k0 hS) (by decide) rfl lf_X5_11 (Or.inr ⟨_, rfl⟩) (sx_r0_1 hS) dX5_tells_48) ?_
          refine Cv.go (pc' := 52) (go_iload_n (i := 2) (x := a2) dX5_tells_51 rfl rfl) ?_
          refine Cv.gif fun g23 => ?_
          refine Cv.go (pc' := 53) (go_aaload (t := 9) (t0 := 2) (sx_k1 hS) (by decide) (fun _ => rfl) g23 (sx_e1 hS (vp_lt g23)).1 dX5_tells_52) ?_
          have hf24 := (sx_e1 hS (vp_lt g23)).2
          refine Cv.go (pc' := 55) (ls' := [.ref 0, .int a1, .int a2, .int a3, .ref (28 + 2 * a1.toNatClampNeg), .ref (20 + a2.toNatClampNeg)]) (go_astore dX5_tells_53 (by decide) rfl) ?_
          refine Cv.go (pc' := 56) (go_iload_n (i := 3) (x := a3) dX5_tells_55 rfl rfl) ?_
          refine Cv.ite (fun h25 => ?_) (fun h25 => ?_)
          · refine Cv.go (pc' := 108) (go_tsIn (off := 52) (tgt := 108) dX5_tells_56 (by rw [h25]; decide) (by rw [h25]; decide) (by rw [h25]; rfl) rfl) ?_
            refine Cv.go (pc' := 109) (go_aload_n (i := 0) (x := 0) dX5_tells_108 rfl rfl) ?_
            refine Cv.go (pc' := 111) (go_aload (i := 4) (x := 28 + 2 * a1.toNatClampNeg) dX5_tells_109 rfl) ?_
            refine Cv.go (pc' := 112) (go_aload_n (i := 0) (x := 0) dX5_tells_111 rfl rfl) ?_
            refine Cv.bnd fun v26 m27 e28 => ?_
            have C29 := kc_X5_theRule m19 hS v26 m27 e28
            refine Cv.go (pc' := 115) (st' := [.ref v26, .ref (28 + 2 * a1.toNatClampNeg), .ref 0]) (go_callV (As := []) (st := [.ref (28 + 2 * a1.toNatClampNeg), .ref 0]) C29 (by decide) ok_X5_theRule li_X5_theRule ls_X5_theRule lm_X5_111 cls5 (sx_k0 hS) rfl rfl (Nat.le_of_ble_eq_true rfl) dX5_tells_112) ?_
            have zm27 := C29.1.2.2 rfl
            have hS := hS.sh zm27
            have hf17 := hf17.sh zm27
            have hf24 := sk zm27 hf24
            have hf30 := theRule_isT (zm27) e28 hS
            refine Cv.go (pc' := 117) (go_aload (i := 5) (x := 20 + a2.toNatClampNeg) dX5_tells_115 rfl) ?_
            refine Cv.bnd fun v31 m32 e33 => ?_
            have C34 := kc_X5_firstOtherwise m27 (28 + 2 * a1.toNatClampNeg) v26 (20 + a2.toNatClampNeg) hS hf17 hf30 hf24 v31 m32 e33
            refine Cv.go (pc' := 120) (st' := [.int v31]) (go_callV (As := [.ref (28 + 2 * a1.toNatClampNeg), .ref v26, .ref (20 + a2.toNatClampNeg)]) (st := []) C34 (by decide) ok_X5_firstOtherwise li_X5_firstOtherwise ls_X5_firstOtherwise lm_X5_215 cls5 (sx_k0 hS) rfl rfl (Nat.le_of_ble_eq_true rfl) dX5_tells_117) ?_
            have zm32 := C34.1.2.2 rfl
            have hS := hS.sh zm32
            have hf17 := hf17.sh zm32
            have hf24 := sk zm32 hf24
            have hf30 := hf30.sh zm32
            exact Cv.ret dX5_tells_120 rfl
          · refine Cv.ite (fun h35 => ?_) (fun h35 => ?_)
            · refine Cv.go (pc' := 121) (go_tsIn (off := 65) (tgt := 121) dX5_tells_56 (by rw [h35]; decide) (by rw [h35]; decide) (by rw [h35]; rfl) rfl) ?_
              refine Cv.go (pc' := 122) (go_aload_n (i := 0) (x := 0) dX5_tells_121 rfl rfl) ?_
              refine Cv.go (pc' := 124) (go_aload (i := 4) (x := 28 + 2 * a1.toNatClampNeg) dX5_tells_122 rfl) ?_
              refine Cv.go (pc' := 126) (go_aload (i := 5) (x := 20 + a2.toNatClampNeg) dX5_tells_124 rfl) ?_
              refine Cv.go (pc' := 128) (go_bipush dX5_tells_126 ib_6) ?_
              refine Cv.bnd fun v36 m37 e38 => ?_
              have C39 := kc_X5_soBits m19 (28 + 2 * a1.toNatClampNeg) (20 + a2.toNatClampNeg) (6 : Int32) hS hf17 hf24 v36 m37 e38
              refine Cv.go (pc' := 131) (st' := [.int v36]) (go_callV (As := [.ref (28 + 2 * a1.toNatClampNeg), .ref (20 + a2.toNatClampNeg), .int (6 : Int32)]) (st := []) C39 (by decide) ok_X5_soBits li_X5_soBits ls_X5_soBits lm_X5_219 cls5 (sx_k0 hS) rfl rfl (Nat.le_of_ble_eq_true rfl) dX5_tells_128) ?_
              have zm37 := C39.1.2.2 rfl
              have hS := hS.sh zm37
              have hf17 := hf17.sh zm37
              have hf24 := sk zm37 hf24
              exact Cv.ret dX5_tells_131 rfl
            · refine Cv.ite (fun h40 => ?_) (fun h40 => ?_)
              · refine Cv.go (pc' := 132) (go_tsIn (off := 76) (tgt := 132) dX5_tells_56 (by rw [h40]; decide) (by rw [h40]; decide) (by rw [h40]; rfl) rfl) ?_
                refine Cv.go (pc' := 133) (go_aload_n (i := 0) (x := 0) dX5_tells_132 rfl rfl) ?_
                refine Cv.go (pc' := 135) (go_aload (i := 4) (x := 28 + 2 * a1.toNatClampNeg) dX5_tells_133 rfl) ?_
                refine Cv.go (pc' := 137) (go_aload (i := 5) (x := 20 + a2.toNatClampNeg) dX5_tells_135 rfl) ?_
                refine Cv.go (pc' := 138) (go_iconst dX5_tells_137 ic_1) ?_
                refine Cv.bnd fun v41 m42 e43 => ?_
                have C44 := kc_X5_soBits m19 (28 + 2 * a1.toNatClampNeg) (20 + a2.toNatClampNeg) (1 : Int32) hS hf17 hf24 v41 m42 e43
                refine Cv.go (pc' := 141) (st' := [.int v41]) (go_callV (As := [.ref (28 + 2 * a1.toNatClampNeg), .ref (20 + a2.toNatClampNeg), .int (1 : Int32)]) (st := []) C44 (by decide) ok_X5_soBits li_X5_soBits ls_X5_soBits lm_X5_219 cls5 (sx_k0 hS) rfl rfl (Nat.le_of_ble_eq_true rfl) dX5_tells_138) ?_
                have zm42 := C44.1.2.2 rfl
                have hS := hS.sh zm42
                have hf17 := hf17.sh zm42
                have hf24 := sk zm42 hf24
                exact Cv.ret dX5_tells_141 rfl
              · refine Cv.ite (fun h45 => ?_) (fun h45 => ?_)
                · refine Cv.go (pc' := 142) (go_tsIn (off := 86) (tgt := 142) dX5_tells_56 (by rw [h45]; decide) (by rw [h45]; decide) (by rw [h45]; rfl) rfl) ?_
                  refine Cv.go (pc' := 143) (go_aload_n (i := 0) (x := 0) dX5_tells_142 rfl rfl) ?_
                  refine Cv.go (pc' := 145) (go_aload (i := 4) (x := 28 + 2 * a1.toNatClampNeg) dX5_tells_143 rfl) ?_
                  refine Cv.go (pc' := 147) (go_aload (i := 5) (x := 20 + a2.toNatClampNeg) dX5_tells_145 rfl) ?_
                  refine Cv.go (pc' := 148) (go_iconst dX5_tells_147 ic_3) ?_
                  refine Cv.bnd fun v46 m47 e48 => ?_
                  have C49 := kc_X5_soBits m19 (28 + 2 * a1.toNatClampNeg) (20 + a2.toNatClampNeg) (3 : Int32) hS hf17 hf24 v46 m47 e48
                  refine Cv.go (pc' := 151) (st' := [.int v46]) (go_callV (As := [.ref (28 + 2 * a1.toNatClampNeg), .ref (20 + a2.toNatClampNeg), .int (3 : Int32)]) (st := []) C49 (by decide) ok_X5_soBits li_X5_soBits ls_X5_soBits lm_X5_219 cls5 (sx_k0 hS) rfl rfl (Nat.le_of_ble_eq_true rfl) dX5_tells_148) ?_
                  have zm47 := C49.1.2.2 rfl
                  have hS := hS.sh zm47
                  have hf17 := hf17.sh zm47
                  have hf24 := sk zm47 hf24
                  exact Cv.ret dX5_tells_151 rfl
                · refine Cv.ite (fun h50 => ?_) (fun h50 => ?_)
                  · refine Cv.go (pc' := 152) (go_tsIn (off := 96) (tgt := 152) dX5_tells_56 (by rw [h50]; decide) (by rw [h50]; decide) (by rw [h50]; rfl) rfl) ?_
                    refine Cv.go (pc' := 153) (go_aload_n (i := 0) (x := 0) dX5_tells_152 rfl rfl) ?_
                    refine Cv.go (pc' := 155) (go_aload (i := 4) (x := 28 + 2 * a1.toNatClampNeg) dX5_tells_153 rfl) ?_
                    refine Cv.go (pc' := 157) (go_aload (i := 5) (x := 20 + a2.toNatClampNeg) dX5_tells_155 rfl) ?_
                    refine Cv.go (pc' := 158) (go_iconst dX5_tells_157 ic_4) ?_
                    refine Cv.go (pc' := 160) (go_bipush dX5_tells_158 ib_99) ?_
                    refine Cv.bnd fun v51 m52 e53 => ?_
                    have C54 := kc_X5_soCount m19 (28 + 2 * a1.toNatClampNeg) (20 + a2.toNatClampNeg) (4 : Int32) (99 : Int32) hS hf17 hf24 v51 m52 e53
                    refine Cv.go (pc' := 163) (st' := [.int v51]) (go_callV (As := [.ref (28 + 2 * a1.toNatClampNeg), .ref (20 + a2.toNatClampNeg), .int (4 : Int32), .int (99 : Int32)]) (st := []) C54 (by decide) ok_X5_soCount li_X5_soCount ls_X5_soCount lm_X5_223 cls5 (sx_k0 hS) rfl rfl (Nat.le_of_ble_eq_true rfl) dX5_tells_160) ?_
                    have zm52 := C54.1.2.2 rfl
                    have hS := hS.sh zm52
                    have hf17 := hf17.sh zm52
                    have hf24 := sk zm52 hf24
                    exact Cv.ret dX5_tells_163 rfl
                  · refine Cv.ite (fun h55 => ?_) (fun h55 => ?_)
                    · refine Cv.go (pc' := 164) (go_tsIn (off := 108) (tgt := 164) dX5_tells_56 (by rw [h55]; decide) (by rw [h55]; decide) (by rw [h55]; rfl) rfl) ?_
                      refine Cv.go (pc' := 165) (go_aload_n (i := 0) (x := 0) dX5_tells_164 rfl rfl) ?_
                      refine Cv.go (pc' := 167) (go_aload (i := 4) (x := 28 + 2 * a1.toNatClampNeg) dX5_tells_165 rfl) ?_
                      refine Cv.go (pc' := 169) (go_aload (i := 5) (x := 20 + a2.toNatClampNeg) dX5_tells_167 rfl) ?_
                      refine Cv.go (pc' := 170) (go_iconst dX5_tells_169 ic_4) ?_
                      refine Cv.go (pc' := 172) (go_bipush dX5_tells_170 ib_99) ?_
                      refine Cv.bnd fun v56 m57 e58 => ?_
                      have C59 := kc_X5_soLeast m19 (28 + 2 * a1.toNatClampNeg) (20 + a2.toNatClampNeg) (4 : Int32) (99 : Int32) hS hf17 hf24 v56 m57 e58
                      refine Cv.go (pc' := 175) (st' := [.int v56]) (go_callV (As := [.ref (28 + 2 * a1.toNatClampNeg), .ref (20 + a2.toNatClampNeg), .int (4 : Int32), .int (99 : Int32)]) (st := []) C59 (by decide) ok_X5_soLeast li_X5_soLeast ls_X5_soLeast lm_X5_227 cls5 (sx_k0 hS) rfl rfl (Nat.le_of_ble_eq_true rfl) dX5_tells_172) ?_
                      have zm57 := C59.1.2.2 rfl
                      have hS := hS.sh zm57
                      have hf17 := hf17.sh zm57
                      have hf24 := sk zm57 hf24
                      exact Cv.ret dX5_tells_175 rfl
                    · refine Cv.ite (fun h60 => ?_) (fun h60 => ?_)
                      · refine Cv.go (pc' := 176) (go_tsIn (off := 120) (tgt := 176) dX5_tells_56 (by rw [h60]; decide) (by rw [h60]; decide) (by rw [h60]; rfl) rfl) ?_
                        refine Cv.go (pc' := 177) (go_aload_n (i := 0) (x := 0) dX5_tells_176 rfl rfl) ?_
                        refine Cv.go (pc' := 179) (go_aload (i := 4) (x := 28 + 2 * a1.toNatClampNeg) dX5_tells_177 rfl) ?_
                        refine Cv.go (pc' := 181) (go_aload (i := 5) (x := 20 + a2.toNatClampNeg) dX5_tells_179 rfl) ?_
                        refine Cv.go (pc' := 182) (go_iconst dX5_tells_181 ic_2) ?_
                        refine Cv.go (pc' := 185) (go_getT roMOST lf_X5_80 dX5_tells_182) ?_
                        refine Cv.go (pc' := 186) (go_iconst dX5_tells_185 ic_2) ?_
                        refine Cv.gif fun g61 => ?_
                        refine Cv.go (pc' := 187) (go_rdT roMOST g61 dX5_tells_186) ?_
                        refine Cv.bnd fun v62 m63 e64 => ?_
                        have C65 := kc_X5_soCount m19 (28 + 2 * a1.toNatClampNeg) (20 + a2.toNatClampNeg) (2 : Int32) (fMOST (2 : Int32).toNatClampNeg) hS hf17 hf24 v62 m63 e64
                        refine Cv.go (pc' := 190) (st' := [.int v62]) (go_callV (As := [.ref (28 + 2 * a1.toNatClampNeg), .ref (20 + a2.toNatClampNeg), .int (2 : Int32), .int (fMOST (2 : Int32).toNatClampNeg)]) (st := []) C65 (by decide) ok_X5_soCount li_X5_soCount ls_X5_soCount lm_X5_223 cls5 (sx_k0 hS) rfl rfl (Nat.le_of_ble_eq_true rfl) dX5_tells_187) ?_
                        have zm63 := C65.1.2.2 rfl
                        have hS := hS.sh zm63
                        have hf17 := hf17.sh zm63
                        have hf24 := sk zm63 hf24
                        exact Cv.ret dX5_tells_190 rfl
                      · refine Cv.ite (fun h66 => ?_) (fun h66 => ?_)
                        · refine Cv.go (pc' := 191) (go_tsIn (off := 135) (tgt := 191) dX5_tells_56 (by rw [h66]; decide) (by rw [h66]; decide) (by rw [h66]; rfl) rfl) ?_
                          refine Cv.go (pc' := 192) (go_aload_n (i := 0) (x := 0) dX5_tells_191 rfl rfl) ?_
                          refine Cv.go (pc' := 194) (go_aload (i := 4) (x := 28 + 2 * a1.toNatClampNeg) dX5_tells_192 rfl) ?_
                          refine Cv.go (pc' := 196) (go_aload (i := 5) (x := 20 + a2.toNatClampNeg) dX5_tells_194 rfl) ?_
                          refine Cv.go (pc' := 197) (go_iconst dX5_tells_196 ic_2) ?_
                          refine Cv.go (pc' := 200) (go_getT roMOST lf_X5_80 dX5_tells_197) ?_
                          refine Cv.go (pc' := 201) (go_iconst dX5_tells_200 ic_2) ?_
                          refine Cv.gif fun g67 => ?_
                          refine Cv.go (pc' := 202) (go_rdT roMOST g67 dX5_tells_201) ?_
                          refine Cv.bnd fun v68 m69 e70 => ?_
                          have C71 := kc_X5_soLeast m19 (28 + 2 * a1.toNatClampNeg) (20 + a2.toNatClampNeg) (2 : Int32) (fMOST (2 : Int32).toNatClampNeg) hS hf17 hf24 v68 m69 e70
                          refine Cv.go (pc' := 205) (st' := [.int v68]) (go_callV (As := [.ref (28 + 2 * a1.toNatClampNeg), .ref (20 + a2.toNatClampNeg), .int (2 : Int32), .int (fMOST (2 : Int32).toNatClampNeg)]) (st := []) C71 (by decide) ok_X5_soLeast li_X5_soLeast ls_X5_soLeast lm_X5_227 cls5 (sx_k0 hS) rfl rfl (Nat.le_of_ble_eq_true rfl) dX5_tells_202) ?_
                          have zm69 := C71.1.2.2 rfl
                          have hS := hS.sh zm69
                          have hf17 := hf17.sh zm69
                          have hf24 := sk zm69 hf24
                          exact Cv.ret dX5_tells_205 rfl
                        · refine Cv.ite (fun h72 => ?_) (fun h72 => ?_)
                          · refine Cv.go (pc' := 206) (go_tsIn (off := 150) (tgt := 206) dX5_tells_56 (by rw [h72]; decide) (by rw [h72]; decide) (by rw [h72]; rfl) rfl) ?_
                            refine Cv.go (pc' := 207) (go_aload_n (i := 0) (x := 0) dX5_tells_206 rfl rfl) ?_
                            refine Cv.go (pc' := 209) (go_aload (i := 4) (x := 28 + 2 * a1.toNatClampNeg) dX5_tells_207 rfl) ?_
                            refine Cv.go (pc' := 211) (go_aload (i := 5) (x := 20 + a2.toNatClampNeg) dX5_tells_209 rfl) ?_
                            refine Cv.bnd fun v73 m74 e75 => ?_
                            have C76 := kc_X5_soTexts m19 (28 + 2 * a1.toNatClampNeg) (20 + a2.toNatClampNeg) hS hf17 hf24 v73 m74 e75
                            refine Cv.go (pc' := 214) (st' := [.int v73]) (go_callV (As := [.ref (28 + 2 * a1.toNatClampNeg), .ref (20 + a2.toNatClampNeg)]) (st := []) C76 (by decide) ok_X5_soTexts li_X5_soTexts ls_X5_soTexts lm_X5_230 cls5 (sx_k0 hS) rfl rfl (Nat.le_of_ble_eq_true rfl) dX5_tells_211) ?_
                            have zm74 := C76.1.2.2 rfl
                            have hS := hS.sh zm74
                            have hf17 := hf17.sh zm74
                            have hf24 := sk zm74 hf24
                            exact Cv.ret dX5_tells_214 rfl
                          · refine Cv.go (pc' := 215) (go_tsOut (tgt := 215) dX5_tells_56 (by have n0 : (a3).toInt ≠ 0 := fun z => h25 (Int32.toInt_inj.mp (z.trans (by decide))); have n1 : (a3).toInt ≠ 1 := fun z => h35 (Int32.toInt_inj.mp (z.trans (by decide))); have n2 : (a3).toInt ≠ 2 := fun z => h40 (Int32.toInt_inj.mp (z.trans (by decide))); have n3 : (a3).toInt ≠ 3 := fun z => h45 (Int32.toInt_inj.mp (z.trans (by decide))); have n4 : (a3).toInt ≠ 4 := fun z => h50 (Int32.toInt_inj.mp (z.trans (by decide))); have n5 : (a3).toInt ≠ 5 := fun z => h55 (Int32.toInt_inj.mp (z.trans (by decide))); have n6 : (a3).toInt ≠ 6 := fun z => h60 (Int32.toInt_inj.mp (z.trans (by decide))); have n7 : (a3).toInt ≠ 7 := fun z => h66 (Int32.toInt_inj.mp (z.trans (by decide))); have n8 : (a3).toInt ≠ 8 := fun z => h72 (Int32.toInt_inj.mp (z.trans (by decide))); omega) rfl) ?_
                            refine Cv.go (pc' := 216) (go_aload_n (i := 0) (x := 0) dX5_tells_215 rfl rfl) ?_
                            refine Cv.go (pc' := 218) (go_aload (i := 4) (x := 28 + 2 * a1.toNatClampNeg) dX5_tells_216 rfl) ?_
                            refine Cv.bnd fun v77 m78 e79 => ?_
                            have C80 := kc_X5_soCoins m19 (28 + 2 * a1.toNatClampNeg) hS hf17 v77 m78 e79
                            refine Cv.go (pc' := 221) (st' := [.int v77]) (go_callV (As := [.ref (28 + 2 * a1.toNatClampNeg)]) (st := []) C80 (by decide) ok_X5_soCoins li_X5_soCoins ls_X5_soCoins lm_X5_234 cls5 (sx_k0 hS) rfl rfl (Nat.le_of_ble_eq_true rfl) dX5_tells_218) ?_
                            have zm78 := C80.1.2.2 rfl
                            have hS := hS.sh zm78
                            have hf17 := hf17.sh zm78
                            have hf24 := sk zm78 hf24
                            exact Cv.ret dX5_tells_221 rfl
        · refine Cv.go (pc' := 44) (go_if_eq_f 47 dX5_tells_41 rfl h22) ?_
          refine Cv.go (pc' := 46) (go_bipush dX5_tells_44 ib_n11) ?_
          exact Cv.ret dX5_tells_46 rfl
theorem c_X5_film_42 : ∀ n, ∀ (m : Mem) (a1 : Int32) (a2 : Int32) (a3 : Int32) (a4 : Int32) (hS : ShX m), Cv true (cX5_film, 5, RX5, 5, ((false, none) : IK)) .ireturn eI (F_X5_film_42 n m a1 a2 a3 a4) m 42 [.ref 0, .int a1, .int a2, .int a3, .int a4] [] := by
  intro n
  induction n with
  | zero => intro m a1 a2 a3 a4 hS; exact Cv.no
  | succ n ih =>
    intro m a1 a2 a3 a4 hS
    unfold F_X5_film_42
    refine Cv.go (pc' := 44) (go_iload (i := 4) (x := a4) dX5_film_42 rfl) ?_
    refine Cv.go (pc' := 45) (go_iload_n (i := 3) (x := a3) dX5_film_44 rfl rfl) ?_
    refine Cv.ite (fun h22 => ?_) (fun h22 => ?_)
    · refine Cv.go (pc' := 77) (go_icmp_ge_t (tgt := 77) dX5_film_45 rfl h22) ?_
      refine Cv.go (pc' := 78) (go_iload_n (i := 3) (x := a3) dX5_film_77 rfl rfl) ?_
      exact Cv.ret dX5_film_78 rfl
    · refine Cv.go (pc' := 48) (go_icmp_ge_f 77 dX5_film_45 rfl h22) ?_
      refine Cv.go (pc' := 49) (go_aload_n (i := 0) (x := 0) dX5_film_48 rfl rfl) ?_
      refine Cv.go (pc' := 52) (go_getR (i := 7) cls5 (sx_k0 hS) (by decide) rfl lf_X5_30 (Or.inr ⟨_, rfl⟩) (sx_r0_7 hS) dX5_film_49) ?_
      refine Cv.go (pc' := 53) (go_iload_n (i := 1) (x := a1) dX5_film_52 rfl rfl) ?_
      refine Cv.gif fun g23 => ?_
      refine Cv.go (pc' := 54) (go_aaload (t := 10) (t0 := 3) (sx_k7 hS) (by decide) (fun _ => rfl) g23 (sx_e7 hS (vp_lt g23)).1 dX5_film_53) ?_
      have hf24 := (sx_e7 hS (vp_lt g23)).2
      refine Cv.go (pc' := 56) (go_iload (i := 4) (x := a4) dX5_film_54 rfl) ?_
      refine Cv.go (pc' := 57) (go_aload_n (i := 0) (x := 0) dX5_film_56 rfl rfl) ?_
      refine Cv.go (pc' := 58) (go_aload_n (i := 0) (x := 0) dX5_film_57 rfl rfl) ?_
      refine Cv.go (pc' := 61) (go_getR (i := 1) cls5 (sx_k0 hS) (by decide) rfl lf_X5_11 (Or.inr ⟨_, rfl⟩) (sx_r0_1 hS) dX5_film_58) ?_
      refine Cv.go (pc' := 62) (go_iload_n (i := 2) (x := a2) dX5_film_61 rfl rfl) ?_
      refine Cv.gif fun g25 => ?_
      refine Cv.go (pc' := 63) (go_aaload (t := 9) (t0 := 2) (sx_k1 hS) (by decide) (fun _ => rfl) g25 (sx_e1 hS (vp_lt g25)).1 dX5_film_62) ?_
      have hf26 := (sx_e1 hS (vp_lt g25)).2
      refine Cv.go (pc' := 65) (go_iload (i := 4) (x := a4) dX5_film_63 rfl) ?_
      refine Cv.bnd fun v27 m28 e29 => ?_
      have C30 := kc_X5_worthBehind m (20 + a2.toNatClampNeg) a4 hS hf26 v27 m28 e29
      refine Cv.go (pc' := 68) (st' := [.int v27, .int a4, .ref (28 + 2 * a1.toNatClampNeg)]) (go_callV (As := [.ref (20 + a2.toNatClampNeg), .int a4]) (st := [.int a4, .ref (28 + 2 * a1.toNatClampNeg)]) C30 (by decide) ok_X5_worthBehind li_X5_worthBehind ls_X5_worthBehind lm_X5_132 cls5 (sx_k0 hS) rfl rfl (Nat.le_of_ble_eq_true rfl) dX5_film_65) ?_
      have zm28 := C30.1.2.2 rfl
      have hS := hS.sh zm28
      have hf24 := hf24.sh zm28
      have hf26 := sk zm28 hf26
      refine Cv.bnd fun v31 m32 e33 => ?_
      have C34 := kc_X2_put m28 (28 + 2 * a1.toNatClampNeg) a4 v27 hf24 v31 m32 e33
      refine Cv.go (pc' := 71) (st' := []) (go_callV (As := [.int a4, .int v27]) (st := []) C34 (by decide) ok_X2_put li_X2_put ls_X2_put lm_X5_241 cls2 hf24.1 rfl rfl (Nat.le_of_ble_eq_true rfl) dX5_film_68) ?_
      have zm32 := C34.1.2.2 rfl
      have hS := hS.sh zm32
      have hf24 := hf24.sh zm32
      have hf26 := sk zm32 hf26
      refine Cv.go (pc' := 74) (ls' := [.ref 0, .int a1, .int a2, .int a3, .int (a4 + (1 : Int32))]) (go_iinc (x := a4) (v := a4 + (1 : Int32)) dX5_film_71 rfl rfl (by decide) rfl) ?_
      refine Cv.go (pc' := 42) (go_goto (tgt := 42) dX5_film_74 rfl) ?_
      exact ih m32 a1 a2 a3 (a4 + (1 : Int32)) hS
theorem kc_X5_film (m : Mem) (a1 : Int32) (a2 : Int32) (a3 : Int32) (hS : ShX m) : ∀ v mE, F_X5_film m a1 a2 a3 = some (v, mE) → Con true kX5_film 5 [.ref 0, .int a1, .int a2, .int a3] m (eI v) mE := by
  refine Con.of (ini := false) (ls0 := [.ref 0, .int a1, .int a2, .int a3, .null]) (ri := .ireturn) (by decide) (by intro z; cases z) rfl (Nat.le_of_ble_eq_true rfl) (fun v mE _ => RetTy.i) ?_
  show Cv true (cX5_film, 5, RX5, 5, ((false, none) : IK)) .ireturn eI (F_X5_film m a1 a2 a3) m 0 [.ref 0, .int a1, .int a2, .int a3, .null] []
  unfold F_X5_film
  refine Cv.go (pc' := 1) (go_iload_n (i := 1) (x := a1) dX5_film_0 rfl rfl) ?_
  refine Cv.bnd fun v1 m2 e3 => ?_
  have C4 := kc_X5_isSheet m a1 v1 m2 e3
  refine Cv.go (pc' := 4) (st' := [.int (bz v1)]) (go_callS (As := [.int a1]) (st := []) C4 (by decide) ok_X5_isSheet lt_X5_isSheet lm_X5_208 rfl rfl (Nat.le_of_ble_eq_true rfl) dX5_film_1) ?_
  have zm2 := C4.1.2.2 rfl
  have hS := hS.sh zm2
  refine Cv.ite (fun h5 => ?_) (fun h5 => ?_)
  · refine Cv.go (pc' := 25) (go_if_eq_t (tgt := 25) dX5_film_4 rfl h5) ?_
    refine Cv.go (pc' := 27) (go_bipush dX5_film_25 ib_n2) ?_
    exact Cv.ret dX5_film_27 rfl
  · refine Cv.go (pc' := 7) (go_if_eq_f 25 dX5_film_4 rfl h5) ?_
    refine Cv.go (pc' := 8) (go_aload_n (i := 0) (x := 0) dX5_film_7 rfl rfl) ?_
    refine Cv.go (pc' := 9) (go_iload_n (i := 2) (x := a2) dX5_film_8 rfl rfl) ?_
    refine Cv.bnd fun v6 m7 e8 => ?_
    have C9 := kc_X5_isCoin m2 a2 hS v6 m7 e8
    refine Cv.go (pc' := 12) (st' := [.int (bz v6)]) (go_callV (As := [.int a2]) (st := []) C9 (by decide) ok_X5_isCoin li_X5_isCoin ls_X5_isCoin lm_X5_87 cls5 (sx_k0 hS) rfl rfl (Nat.le_of_ble_eq_true rfl) dX5_film_9) ?_
    have zm7 := C9.1.2.2 rfl
    have hS := hS.sh zm7
    refine Cv.ite (fun h10 => ?_) (fun h10 => ?_)
    · refine Cv.go (pc' := 25) (go_if_eq_t (tgt := 25) dX5_film_12 rfl h10) ?_
      refine Cv.go (pc' := 27) (go_bipush dX5_film_25 ib_n2) ?_
      exact Cv.ret dX5_film_27 rfl
    · refine Cv.go (pc' := 15) (go_if_eq_f 25 dX5_film_12 rfl h10) ?_
      refine Cv.go (pc' := 16) (go_iload_n (i := 3) (x := a3) dX5_film_15 rfl rfl) ?_
      refine Cv.go (pc' := 17) (go_iconst dX5_film_16 ic_0) ?_
      refine Cv.go (pc' := 19) (go_bipush dX5_film_17 ib_40) ?_
      refine Cv.bnd fun v11 m12 e13 => ?_
      have C14 := kc_X5_isBetween m7 a3 (0 : Int32) (40 : Int32) v11 m12 e13
      refine Cv.go (pc' := 22) (st' := [.int (bz v11)]) (go_callS (As := [.int a3, .int (0 : Int32), .int (40 : Int32)]) (st := []) C14 (by decide) ok_X5_isBetween lt_X5_isBetween lm_X5_73 rfl rfl (Nat.le_of_ble_eq_true rfl) dX5_film_19) ?_
      have zm12 := C14.1.2.2 rfl
      have hS := hS.sh zm12
      refine Cv.ite (fun h15 => ?_) (fun h15 => ?_)
      · refine Cv.go (pc' := 25) (go_if_ne_f 28 dX5_film_22 rfl h15) ?_
        refine Cv.go (pc' := 27) (go_bipush dX5_film_25 ib_n2) ?_
        exact Cv.ret dX5_film_27 rfl
      · refine Cv.go (pc' := 28) (go_if_ne_t (tgt := 28) dX5_film_22 rfl h15) ?_
        refine Cv.go (pc' := 29) (go_aload_n (i := 0) (x := 0) dX5_film_28 rfl rfl) ?_
        refine Cv.go (pc' := 32) (go_getR (i := 7) cls5 (sx_k0 hS) (by decide) rfl lf_X5_30 (Or.inr ⟨_, rfl⟩) (sx_r0_7 hS) dX5_film_29) ?_
        refine Cv.go (pc' := 33) (go_iload_n (i := 1) (x := a1) dX5_film_32 rfl rfl) ?_
        refine Cv.gif fun g16 => ?_
        refine Cv.go (pc' := 34) (go_aaload (t := 10) (t0 := 3) (sx_k7 hS) (by decide) (fun _ => rfl) g16 (sx_e7 hS (vp_lt g16)).1 dX5_film_33) ?_
        have hf17 := (sx_e7 hS (vp_lt g16)).2
        refine Cv.go (pc' := 35) (go_iconst dX5_film_34 ic_2) ?_
        refine Cv.go (pc' := 36) (go_iload_n (i := 3) (x := a3) dX5_film_35 rfl rfl) ?_
        refine Cv.bnd fun v18 m19 e20 => ?_
        have C21 := kc_X2_become m12 (28 + 2 * a1.toNatClampNeg) (2 : Int32) a3 hf17 v18 m19 e20
        refine Cv.go (pc' := 39) (st' := []) (go_callV (As := [.int (2 : Int32), .int a3]) (st := []) C21 (by decide) ok_X2_become li_X2_become ls_X2_become lm_X5_238 cls2 hf17.1 rfl rfl (Nat.le_of_ble_eq_true rfl) dX5_film_36) ?_
        have zm19 := C21.1.2.2 rfl
        have hS := hS.sh zm19
        have hf17 := hf17.sh zm19
        refine Cv.go (pc' := 40) (go_iconst dX5_film_39 ic_0) ?_
        refine Cv.go (pc' := 42) (ls' := [.ref 0, .int a1, .int a2, .int a3, .int (0 : Int32)]) (go_istore dX5_film_40 (by decide) rfl) ?_
        exact c_X5_film_42 FU m19 a1 a2 a3 (0 : Int32) hS
theorem kc_X5_nextDraw (m : Mem) (a0 : Int32) : ∀ v mE, F_X5_nextDraw m a0 = some (v, mE) → Con true kX5_nextDraw 0 [.int a0] m (eI v) mE := by
  refine Con.of (ini := false) (ls0 := [.int a0]) (ri := .ireturn) (by decide) (by intro z; cases z) rfl (Nat.le_of_ble_eq_true rfl) (fun v mE _ => RetTy.i) ?_
  show Cv true (cX5_nextDraw, 1, RX5, 0, ((false, none) : IK)) .ireturn eI (F_X5_nextDraw m a0) m 0 [.int a0] []
  unfold F_X5_nextDraw
  refine Cv.go (pc' := 1) (go_iload_n (i := 0) (x := a0) dX5_nextDraw_0 rfl rfl) ?_
  refine Cv.go (pc' := 4) (go_ldcw dX5_nextDraw_1 lc_X5_324) ?_
  refine Cv.go (pc' := 5) (go_imul dX5_nextDraw_4) ?_
  refine Cv.go (pc' := 8) (go_sipush dX5_nextDraw_5 is_12345) ?_
  refine Cv.go (pc' := 9) (go_iadd dX5_nextDraw_8) ?_
  exact Cv.ret dX5_nextDraw_9 rfl
theorem kc_X5_drawnAge (m : Mem) (a0 : Int32) : ∀ v mE, F_X5_drawnAge m a0 = some (v, mE) → Con true kX5_drawnAge 0 [.int a0] m (eI v) mE := by
  refine Con.of (ini := false) (ls0 := [.int a0]) (ri := .ireturn) (by decide) (by intro z; cases z) rfl (Nat.le_of_ble_eq_true rfl) (fun v mE _ => RetTy.i) ?_
  show Cv true (cX5_drawnAge, 1, RX5, 0, ((false, none) : IK)) .ireturn eI (F_X5_drawnAge m a0) m 0 [.int a0] []
  unfold F_X5_drawnAge
  refine Cv.go (pc' := 1) (go_iload_n (i := 0) (x := a0) dX5_drawnAge_0 rfl rfl) ?_
  refine Cv.go (pc' := 3) (go_bipush dX5_drawnAge_1 ib_9) ?_
  refine Cv.go (pc' := 4) (go_iushr dX5_drawnAge_3) ?_
  refine Cv.go (pc' := 6) (go_bipush dX5_drawnAge_4 ib_15) ?_
  refine Cv.go (pc' := 7) (go_irem dX5_drawnAge_6 (by decide)) ?_
  exact Cv.ret dX5_drawnAge_7 rfl
theorem c_X5_drawn_75 (K19 : Mem → Int32 → Int32 → Int32 → Int32 → Option (Int32 × Mem)) (hK19 : ∀ (m : Mem) (a2 : Int32) (a3 : Int32) (a4 : Int32) (a5 : Int32) (hS : ShX m), Cv true (cX5_drawn, 6, RX5, 4, ((false, none) : IK)) .ireturn eI (K19 m a2 a3 a4 a5) m 19 [.ref 0, .null, .int a2, .int a3, .int a4, .int a5] []) : ∀ (m : Mem) (a2 : Int32) (a3 : Int32) (a4 : Int32) (a5 : Int32) (hS : ShX m), Cv true (cX5_drawn, 6, RX5, 4, ((false, none) : IK)) .ireturn eI (F_X5_drawn_75 K19 m a2 a3 a4 a5) m 75 [.ref 0, .null, .int a2, .int a3, .int a4, .int a5] [] := by
  intro m a2 a3 a4 a5 hS
  unfold F_X5_drawn_75
  refine Cv.go (pc' := 78) (ls' := [.ref 0, .null, .int a2, .int a3, .int a4, .int (a5 + (1 : Int32))]) (go_iinc (x := a5) (v := a5 + (1 : Int32)) dX5_drawn_75 rfl rfl (by decide) rfl) ?_
  refine Cv.go (pc' := 19) (go_goto (tgt := 19) dX5_drawn_78 rfl) ?_
  exact hK19 m a2 a3 a4 (a5 + (1 : Int32)) hS
theorem c_X5_drawn_19 : ∀ n, ∀ (m : Mem) (a2 : Int32) (a3 : Int32) (a4 : Int32) (a5 : Int32) (hS : ShX m), Cv true (cX5_drawn, 6, RX5, 4, ((false, none) : IK)) .ireturn eI (F_X5_drawn_19 n m a2 a3 a4 a5) m 19 [.ref 0, .null, .int a2, .int a3, .int a4, .int a5] [] := by
  intro n
  induction n with
  | zero => intro m a2 a3 a4 a5 hS; exact Cv.no
  | succ n ih =>
    intro m a2 a3 a4 a5 hS
    unfold F_X5_drawn_19
    refine Cv.go (pc' := 21) (go_iload (i := 5) (x := a5) dX5_drawn_19 rfl) ?_
    refine Cv.go (pc' := 22) (go_aload_n (i := 0) (x := 0) dX5_drawn_21 rfl rfl) ?_
    refine Cv.go (pc' := 25) (go_getI (i := 2) cls5 (sx_k0 hS) (by decide) rfl lf_X5_103 (by decide) dX5_drawn_22) ?_
    refine Cv.ite (fun h6 => ?_) (fun h6 => ?_)
    · refine Cv.go (pc' := 81) (go_icmp_ge_t (tgt := 81) dX5_drawn_25 rfl h6) ?_
      refine Cv.go (pc' := 82) (go_iload_n (i := 3) (x := a3) dX5_drawn_81 rfl rfl) ?_
      exact Cv.ret dX5_drawn_82 rfl
    · refine Cv.go (pc' := 28) (go_icmp_ge_f 81 dX5_drawn_25 rfl h6) ?_
      refine Cv.go (pc' := 30) (go_iload (i := 4) (x := a4) dX5_drawn_28 rfl) ?_
      refine Cv.bnd fun v7 m8 e9 => ?_
      have C10 := kc_X5_nextDraw m a4 v7 m8 e9
      refine Cv.go (pc' := 33) (st' := [.int v7]) (go_callS (As := [.int a4]) (st := []) C10 (by decide) ok_X5_nextDraw lt_X5_nextDraw lm_X5_244 rfl rfl (Nat.le_of_ble_eq_true rfl) dX5_drawn_30) ?_
      have zm8 := C10.1.2.2 rfl
      have hS := hS.sh zm8
      refine Cv.go (pc' := 35) (ls' := [.ref 0, .null, .int a2, .int a3, .int v7, .int a5]) (go_istore dX5_drawn_33 (by decide) rfl) ?_
      refine Cv.go (pc' := 36) (go_aload_n (i := 0) (x := 0) dX5_drawn_35 rfl rfl) ?_
      refine Cv.go (pc' := 39) (go_getR (i := 1) cls5 (sx_k0 hS) (by decide) rfl lf_X5_11 (Or.inr ⟨_, rfl⟩) (sx_r0_1 hS) dX5_drawn_36) ?_
      refine Cv.go (pc' := 41) (go_iload (i := 5) (x := a5) dX5_drawn_39 rfl) ?_
      refine Cv.gif fun g11 => ?_
      refine Cv.go (pc' := 42) (go_aaload (t := 9) (t0 := 2) (sx_k1 hS) (by decide) (fun _ => rfl) g11 (sx_e1 hS (vp_lt g11)).1 dX5_drawn_41) ?_
      have hf12 := (sx_e1 hS (vp_lt g11)).2
      refine Cv.go (pc' := 45) (go_getI (i := 5) cls0 hf12 (by decide) rfl lf_X5_148 (by decide) dX5_drawn_42) ?_
      refine Cv.go (pc' := 46) (go_iload_n (i := 2) (x := a2) dX5_drawn_45 rfl rfl) ?_
      refine Cv.ite (fun h13 => ?_) (fun h13 => ?_)
      · refine Cv.go (pc' := 49) (go_icmp_ne_f 75 dX5_drawn_46 rfl h13) ?_
        refine Cv.go (pc' := 50) (go_iload_n (i := 3) (x := a3) dX5_drawn_49 rfl rfl) ?_
        refine Cv.go (pc' := 51) (go_aload_n (i := 0) (x := 0) dX5_drawn_50 rfl rfl) ?_
        refine Cv.bnd fun v14 m15 e16 => ?_
        have C17 := kc_X5_theRule m8 hS v14 m15 e16
        refine Cv.go (pc' := 54) (st' := [.ref v14, .int a3]) (go_callV (As := []) (st := [.int a3]) C17 (by decide) ok_X5_theRule li_X5_theRule ls_X5_theRule lm_X5_111 cls5 (sx_k0 hS) rfl rfl (Nat.le_of_ble_eq_true rfl) dX5_drawn_51) ?_
        have zm15 := C17.1.2.2 rfl
        have hS := hS.sh zm15
        have hf12 := sk zm15 hf12
        have hf18 := theRule_isT (zm15) e16 hS
        refine Cv.go (pc' := 55) (go_aload_n (i := 0) (x := 0) dX5_drawn_54 rfl rfl) ?_
        refine Cv.go (pc' := 58) (go_getR (i := 1) cls5 (sx_k0 hS) (by decide) rfl lf_X5_11 (Or.inr ⟨_, rfl⟩) (sx_r0_1 hS) dX5_drawn_55) ?_
        refine Cv.go (pc' := 60) (go_iload (i := 5) (x := a5) dX5_drawn_58 rfl) ?_
        refine Cv.gif fun g19 => ?_
        refine Cv.go (pc' := 61) (go_aaload (t := 9) (t0 := 2) (sx_k1 hS) (by decide) (fun _ => rfl) g19 (sx_e1 hS (vp_lt g19)).1 dX5_drawn_60) ?_
        have hf20 := (sx_e1 hS (vp_lt g19)).2
        refine Cv.go (pc' := 63) (go_iload (i := 4) (x := v7) dX5_drawn_61 rfl) ?_
        refine Cv.bnd fun v21 m22 e23 => ?_
        have C24 := kc_X5_drawnAge m15 v7 v21 m22 e23
        refine Cv.go (pc' := 66) (st' := [.int v21, .ref (20 + a5.toNatClampNeg), .ref v14, .int a3]) (go_callS (As := [.int v7]) (st := [.ref (20 + a5.toNatClampNeg), .ref v14, .int a3]) C24 (by decide) ok_X5_drawnAge lt_X5_drawnAge lm_X5_247 rfl rfl (Nat.le_of_ble_eq_true rfl) dX5_drawn_63) ?_
        have zm22 := C24.1.2.2 rfl
        have hS := hS.sh zm22
        have hf12 := sk zm22 hf12
        have hf18 := hf18.sh zm22
        have hf20 := sk zm22 hf20
        refine Cv.go (pc' := 67) (go_aload_n (i := 0) (x := 0) dX5_drawn_66 rfl rfl) ?_
        refine Cv.go (pc' := 70) (go_getI (i := 0) cls5 (sx_k0 hS) (by decide) rfl lf_X5_83 (by decide) dX5_drawn_67) ?_
        refine Cv.bnd fun v25 m26 e27 => ?_
        have C28 := kc_X4_worthOf m22 v14 (20 + a5.toNatClampNeg) v21 (mD m22 0 0) hf18 hf20 v25 m26 e27
        refine Cv.go (pc' := 73) (st' := [.int v25, .int a3]) (go_callV (As := [.ref (20 + a5.toNatClampNeg), .int v21, .int (mD m22 0 0)]) (st := [.int a3]) C28 (by decide) ok_X4_worthOf li_X4_worthOf ls_X4_worthOf lm_X5_250 cls4 hf18.1 rfl rfl (Nat.le_of_ble_eq_true rfl) dX5_drawn_70) ?_
        have zm26 := C28.1.2.2 rfl
        have hS := hS.sh zm26
        have hf12 := sk zm26 hf12
        have hf18 := hf18.sh zm26
        have hf20 := sk zm26 hf20
        refine Cv.go (pc' := 74) (go_iadd dX5_drawn_73) ?_
        refine Cv.namI fun x29 ex29 => ?_
        refine Cv.go (pc' := 75) (ls' := [.ref 0, .null, .int a2, .int x29, .int v7, .int a5]) (go_istore_n dX5_drawn_74 rfl (by decide) rfl) ?_
        exact c_X5_drawn_75 (F_X5_drawn_19 n) ih m26 a2 x29 v7 a5 hS
      · refine Cv.go (pc' := 75) (go_icmp_ne_t (tgt := 75) dX5_drawn_46 rfl h13) ?_
        exact c_X5_drawn_75 (F_X5_drawn_19 n) ih m8 a2 a3 v7 a5 hS
theorem kc_X5_drawn (m : Mem) (a1 : Int32) (a2 : Int32) (hS : ShX m) : ∀ v mE, F_X5_drawn m a1 a2 = some (v, mE) → Con true kX5_drawn 4 [.ref 0, .int a1, .int a2] m (eI v) mE := by
  refine Con.of (ini := false) (ls0 := [.ref 0, .int a1, .int a2, .null, .null, .null]) (ri := .ireturn) (by decide) (by intro z; cases z) rfl (Nat.le_of_ble_eq_true rfl) (fun v mE _ => RetTy.i) ?_
  show Cv true (cX5_drawn, 6, RX5, 4, ((false, none) : IK)) .ireturn eI (F_X5_drawn m a1 a2) m 0 [.ref 0, .int a1, .int a2, .null, .null, .null] []
  unfold F_X5_drawn
  refine Cv.go (pc' := 1) (go_iconst dX5_drawn_0 ic_5) ?_
  refine Cv.go (pc' := 2) (go_iload_n (i := 2) (x := a2) dX5_drawn_1 rfl rfl) ?_
  refine Cv.bnd fun v1 m2 e3 => ?_
  have C4 := kc_X5_isOf m (5 : Int32) a2 v1 m2 e3
  refine Cv.go (pc' := 5) (st' := [.int (bz v1)]) (go_callS (As := [.int (5 : Int32), .int a2]) (st := []) C4 (by decide) ok_X5_isOf lt_X5_isOf lm_X5_99 rfl rfl (Nat.le_of_ble_eq_true rfl) dX5_drawn_2) ?_
  have zm2 := C4.1.2.2 rfl
  have hS := hS.sh zm2
  refine Cv.ite (fun h5 => ?_) (fun h5 => ?_)
  · refine Cv.go (pc' := 8) (go_if_ne_f 11 dX5_drawn_5 rfl h5) ?_
    refine Cv.go (pc' := 10) (go_ldc dX5_drawn_8 lc_X5_110) ?_
    exact Cv.ret dX5_drawn_10 rfl
  · refine Cv.go (pc' := 11) (go_if_ne_t (tgt := 11) dX5_drawn_5 rfl h5) ?_
    refine Cv.go (pc' := 12) (go_iconst dX5_drawn_11 ic_0) ?_
    refine Cv.go (pc' := 13) (ls' := [.ref 0, .int a1, .int a2, .int (0 : Int32), .null, .null]) (go_istore_n dX5_drawn_12 rfl (by decide) rfl) ?_
    refine Cv.go (pc' := 14) (go_iload_n (i := 1) (x := a1) dX5_drawn_13 rfl rfl) ?_
    refine Cv.go (pc' := 16) (ls' := [.ref 0, .int a1, .int a2, .int (0 : Int32), .int a1, .null]) (go_istore dX5_drawn_14 (by decide) rfl) ?_
    refine Cv.go (pc' := 17) (go_iconst dX5_drawn_16 ic_0) ?_
    refine Cv.go (pc' := 19) (ls' := [.ref 0, .int a1, .int a2, .int (0 : Int32), .int a1, .int (0 : Int32)]) (go_istore dX5_drawn_17 (by decide) rfl) ?_
    refine Cv.weak (ls' := [.ref 0, .null, .int a2, .int (0 : Int32), .int a1, .int (0 : Int32)]) (⟨Or.inr rfl, ⟨Or.inl rfl, ⟨Or.inr rfl, ⟨Or.inr rfl, ⟨Or.inr rfl, ⟨Or.inr rfl, True.intro⟩⟩⟩⟩⟩⟩) ?_
    exact c_X5_drawn_19 FU m2 a2 (0 : Int32) a1 (0 : Int32) hS
theorem c_X5_commonDivisor_21 (K2 : Mem → Int32 → Int32 → Int32 → Option (Int32 × Mem)) (hK2 : ∀ (m : Mem) (a0 : Int32) (a1 : Int32) (a2 : Int32), Cv true (cX5_commonDivisor, 3, RX5, 0, ((false, none) : IK)) .ireturn eI (K2 m a0 a1 a2) m 2 [.int a0, .int a1, .int a2] []) : ∀ (m : Mem) (a0 : Int32) (a1 : Int32) (a2 : Int32), Cv true (cX5_commonDivisor, 3, RX5, 0, ((false, none) : IK)) .ireturn eI (F_X5_commonDivisor_21 K2 m a0 a1 a2) m 21 [.int a0, .int a1, .int a2] [] := by
  intro m a0 a1 a2
  unfold F_X5_commonDivisor_21
  refine Cv.go (pc' := 24) (ls' := [.int a0, .int a1, .int (a2 + (-1 : Int32))]) (go_iinc (x := a2) (v := a2 + (-1 : Int32)) dX5_commonDivisor_21 rfl rfl (by decide) rfl) ?_
  refine Cv.go (pc' := 2) (go_goto (tgt := 2) dX5_commonDivisor_24 rfl) ?_
  exact hK2 m a0 a1 (a2 + (-1 : Int32))
theorem c_X5_commonDivisor_2 : ∀ n, ∀ (m : Mem) (a0 : Int32) (a1 : Int32) (a2 : Int32), Cv true (cX5_commonDivisor, 3, RX5, 0, ((false, none) : IK)) .ireturn eI (F_X5_commonDivisor_2 n m a0 a1 a2) m 2 [.int a0, .int a1, .int a2] [] := by
  intro n
  induction n with
  | zero => intro m a0 a1 a2; exact Cv.no
  | succ n ih =>
    intro m a0 a1 a2
    unfold F_X5_commonDivisor_2
    refine Cv.go (pc' := 3) (go_iload_n (i := 2) (x := a2) dX5_commonDivisor_2 rfl rfl) ?_
    refine Cv.go (pc' := 4) (go_iconst dX5_commonDivisor_3 ic_1) ?_
    refine Cv.ite (fun h1 => ?_) (fun h1 => ?_)
    · refine Cv.go (pc' := 27) (go_icmp_le_t (tgt := 27) dX5_commonDivisor_4 rfl h1) ?_
      refine Cv.go (pc' := 28) (go_iconst dX5_commonDivisor_27 ic_1) ?_
      exact Cv.ret dX5_commonDivisor_28 rfl
    · refine Cv.go (pc' := 7) (go_icmp_le_f 27 dX5_commonDivisor_4 rfl h1) ?_
      refine Cv.go (pc' := 8) (go_iload_n (i := 0) (x := a0) dX5_commonDivisor_7 rfl rfl) ?_
      refine Cv.go (pc' := 9) (go_iload_n (i := 2) (x := a2) dX5_commonDivisor_8 rfl rfl) ?_
      refine Cv.gif fun g2 => ?_
      refine Cv.go (pc' := 10) (go_irem dX5_commonDivisor_9 g2) ?_
      refine Cv.ite (fun h3 => ?_) (fun h3 => ?_)
      · refine Cv.go (pc' := 13) (go_if_ne_f 21 dX5_commonDivisor_10 rfl h3) ?_
        refine Cv.go (pc' := 14) (go_iload_n (i := 1) (x := a1) dX5_commonDivisor_13 rfl rfl) ?_
        refine Cv.go (pc' := 15) (go_iload_n (i := 2) (x := a2) dX5_commonDivisor_14 rfl rfl) ?_
        refine Cv.gif fun g4 => ?_
        refine Cv.go (pc' := 16) (go_irem dX5_commonDivisor_15 g4) ?_
        refine Cv.ite (fun h5 => ?_) (fun h5 => ?_)
        · refine Cv.go (pc' := 19) (go_if_ne_f 21 dX5_commonDivisor_16 rfl h5) ?_
          refine Cv.go (pc' := 20) (go_iload_n (i := 2) (x := a2) dX5_commonDivisor_19 rfl rfl) ?_
          exact Cv.ret dX5_commonDivisor_20 rfl
        · refine Cv.go (pc' := 21) (go_if_ne_t (tgt := 21) dX5_commonDivisor_16 rfl h5) ?_
          exact c_X5_commonDivisor_21 (F_X5_commonDivisor_2 n) ih m a0 a1 a2
      · refine Cv.go (pc' := 21) (go_if_ne_t (tgt := 21) dX5_commonDivisor_10 rfl h3) ?_
        exact c_X5_commonDivisor_21 (F_X5_commonDivisor_2 n) ih m a0 a1 a2
theorem kc_X5_commonDivisor (m : Mem) (a0 : Int32) (a1 : Int32) : ∀ v mE, F_X5_commonDivisor m a0 a1 = some (v, mE) → Con true kX5_commonDivisor 0 [.int a0, .int a1] m (eI v) mE := by
  refine Con.of (ini := false) (ls0 := [.int a0, .int a1, .null]) (ri := .ireturn) (by decide) (by intro z; cases z) rfl (Nat.le_of_ble_eq_true rfl) (fun v mE _ => RetTy.i) ?_
  show Cv true (cX5_commonDivisor, 3, RX5, 0, ((false, none) : IK)) .ireturn eI (F_X5_commonDivisor m a0 a1) m 0 [.int a0, .int a1, .null] []
  unfold F_X5_commonDivisor
  refine Cv.go (pc' := 1) (go_iload_n (i := 1) (x := a1) dX5_commonDivisor_0 rfl rfl) ?_
  refine Cv.go (pc' := 2) (ls' := [.int a0, .int a1, .int a1]) (go_istore_n dX5_commonDivisor_1 rfl (by decide) rfl) ?_
  exact c_X5_commonDivisor_2 FU m a0 a1 a1
theorem c_X5_wholeWhenDrawn_73 (K8 : Mem → Int32 → Int32 → Int32 → Int32 → Option (Int32 × Mem)) (hK8 : ∀ (m : Mem) (a2 : Int32) (a3 : Int32) (a4 : Int32) (a5 : Int32) (hS : ShX m), Cv true (cX5_wholeWhenDrawn, 7, RX5, 3, ((false, none) : IK)) .ireturn eI (K8 m a2 a3 a4 a5) m 8 [.ref 0, .null, .int a2, .int a3, .int a4, .int a5, .null] []) : ∀ (m : Mem) (a2 : Int32) (a3 : Int32) (a4 : Int32) (a5 : Int32) (hS : ShX m), Cv true (cX5_wholeWhenDrawn, 7, RX5, 3, ((false, none) : IK)) .ireturn eI (F_X5_wholeWhenDrawn_73 K8 m a2 a3 a4 a5) m 73 [.ref 0, .null, .int a2, .int a3, .int a4, .int a5, .null] [] := by
  intro m a2 a3 a4 a5 hS
  unfold F_X5_wholeWhenDrawn_73
  refine Cv.go (pc' := 76) (ls' := [.ref 0, .null, .int a2, .int a3, .int a4, .int (a5 + (1 : Int32)), .null]) (go_iinc (x := a5) (v := a5 + (1 : Int32)) dX5_wholeWhenDrawn_73 rfl rfl (by decide) rfl) ?_
  refine Cv.go (pc' := 8) (go_goto (tgt := 8) dX5_wholeWhenDrawn_76 rfl) ?_
  exact hK8 m a2 a3 a4 (a5 + (1 : Int32)) hS
theorem c_X5_wholeWhenDrawn_8 : ∀ n, ∀ (m : Mem) (a2 : Int32) (a3 : Int32) (a4 : Int32) (a5 : Int32) (hS : ShX m), Cv true (cX5_wholeWhenDrawn, 7, RX5, 3, ((false, none) : IK)) .ireturn eI (F_X5_wholeWhenDrawn_8 n m a2 a3 a4 a5) m 8 [.ref 0, .null, .int a2, .int a3, .int a4, .int a5, .null] [] := by
  intro n
  induction n with
  | zero => intro m a2 a3 a4 a5 hS; exact Cv.no
  | succ n ih =>
    intro m a2 a3 a4 a5 hS
    unfold F_X5_wholeWhenDrawn_8
    refine Cv.go (pc' := 10) (go_iload (i := 5) (x := a5) dX5_wholeWhenDrawn_8 rfl) ?_
    refine Cv.go (pc' := 11) (go_aload_n (i := 0) (x := 0) dX5_wholeWhenDrawn_10 rfl rfl) ?_
    refine Cv.go (pc' := 14) (go_getI (i := 2) cls5 (sx_k0 hS) (by decide) rfl lf_X5_103 (by decide) dX5_wholeWhenDrawn_11) ?_
    refine Cv.ite (fun h1 => ?_) (fun h1 => ?_)
    · refine Cv.go (pc' := 79) (go_icmp_ge_t (tgt := 79) dX5_wholeWhenDrawn_14 rfl h1) ?_
      refine Cv.go (pc' := 80) (go_iload_n (i := 3) (x := a3) dX5_wholeWhenDrawn_79 rfl rfl) ?_
      exact Cv.ret dX5_wholeWhenDrawn_80 rfl
    · refine Cv.go (pc' := 17) (go_icmp_ge_f 79 dX5_wholeWhenDrawn_14 rfl h1) ?_
      refine Cv.go (pc' := 19) (go_iload (i := 4) (x := a4) dX5_wholeWhenDrawn_17 rfl) ?_
      refine Cv.bnd fun v2 m3 e4 => ?_
      have C5 := kc_X5_nextDraw m a4 v2 m3 e4
      refine Cv.go (pc' := 22) (st' := [.int v2]) (go_callS (As := [.int a4]) (st := []) C5 (by decide) ok_X5_nextDraw lt_X5_nextDraw lm_X5_244 rfl rfl (Nat.le_of_ble_eq_true rfl) dX5_wholeWhenDrawn_19) ?_
      have zm3 := C5.1.2.2 rfl
      have hS := hS.sh zm3
      refine Cv.go (pc' := 24) (ls' := [.ref 0, .null, .int a2, .int a3, .int v2, .int a5, .null]) (go_istore dX5_wholeWhenDrawn_22 (by decide) rfl) ?_
      refine Cv.go (pc' := 26) (go_iload (i := 4) (x := v2) dX5_wholeWhenDrawn_24 rfl) ?_
      refine Cv.bnd fun v6 m7 e8 => ?_
      have C9 := kc_X5_drawnAge m3 v2 v6 m7 e8
      refine Cv.go (pc' := 29) (st' := [.int v6]) (go_callS (As := [.int v2]) (st := []) C9 (by decide) ok_X5_drawnAge lt_X5_drawnAge lm_X5_247 rfl rfl (Nat.le_of_ble_eq_true rfl) dX5_wholeWhenDrawn_26) ?_
      have zm7 := C9.1.2.2 rfl
      have hS := hS.sh zm7
      refine Cv.go (pc' := 31) (ls' := [.ref 0, .null, .int a2, .int a3, .int v2, .int a5, .int v6]) (go_istore dX5_wholeWhenDrawn_29 (by decide) rfl) ?_
      refine Cv.go (pc' := 32) (go_aload_n (i := 0) (x := 0) dX5_wholeWhenDrawn_31 rfl rfl) ?_
      refine Cv.go (pc' := 35) (go_getR (i := 1) cls5 (sx_k0 hS) (by decide) rfl lf_X5_11 (Or.inr ⟨_, rfl⟩) (sx_r0_1 hS) dX5_wholeWhenDrawn_32) ?_
      refine Cv.go (pc' := 37) (go_iload (i := 5) (x := a5) dX5_wholeWhenDrawn_35 rfl) ?_
      refine Cv.gif fun g10 => ?_
      refine Cv.go (pc' := 38) (go_aaload (t := 9) (t0 := 2) (sx_k1 hS) (by decide) (fun _ => rfl) g10 (sx_e1 hS (vp_lt g10)).1 dX5_wholeWhenDrawn_37) ?_
      have hf11 := (sx_e1 hS (vp_lt g10)).2
      refine Cv.go (pc' := 41) (go_getI (i := 5) cls0 hf11 (by decide) rfl lf_X5_148 (by decide) dX5_wholeWhenDrawn_38) ?_
      refine Cv.go (pc' := 42) (go_iload_n (i := 2) (x := a2) dX5_wholeWhenDrawn_41 rfl rfl) ?_
      refine Cv.ite (fun h12 => ?_) (fun h12 => ?_)
      · refine Cv.go (pc' := 45) (go_icmp_ne_f 73 dX5_wholeWhenDrawn_42 rfl h12) ?_
        refine Cv.go (pc' := 47) (go_iload (i := 6) (x := v6) dX5_wholeWhenDrawn_45 rfl) ?_
        refine Cv.go (pc' := 48) (go_aload_n (i := 0) (x := 0) dX5_wholeWhenDrawn_47 rfl rfl) ?_
        refine Cv.bnd fun v13 m14 e15 => ?_
        have C16 := kc_X5_theRule m7 hS v13 m14 e15
        refine Cv.go (pc' := 51) (st' := [.ref v13, .int v6]) (go_callV (As := []) (st := [.int v6]) C16 (by decide) ok_X5_theRule li_X5_theRule ls_X5_theRule lm_X5_111 cls5 (sx_k0 hS) rfl rfl (Nat.le_of_ble_eq_true rfl) dX5_wholeWhenDrawn_48) ?_
        have zm14 := C16.1.2.2 rfl
        have hS := hS.sh zm14
        have hf11 := sk zm14 hf11
        have hf17 := theRule_isT (zm14) e15 hS
        refine Cv.go (pc' := 52) (go_aload_n (i := 0) (x := 0) dX5_wholeWhenDrawn_51 rfl rfl) ?_
        refine Cv.go (pc' := 55) (go_getR (i := 1) cls5 (sx_k0 hS) (by decide) rfl lf_X5_11 (Or.inr ⟨_, rfl⟩) (sx_r0_1 hS) dX5_wholeWhenDrawn_52) ?_
        refine Cv.go (pc' := 57) (go_iload (i := 5) (x := a5) dX5_wholeWhenDrawn_55 rfl) ?_
        refine Cv.gif fun g18 => ?_
        refine Cv.go (pc' := 58) (go_aaload (t := 9) (t0 := 2) (sx_k1 hS) (by decide) (fun _ => rfl) g18 (sx_e1 hS (vp_lt g18)).1 dX5_wholeWhenDrawn_57) ?_
        have hf19 := (sx_e1 hS (vp_lt g18)).2
        refine Cv.go (pc' := 60) (go_iload (i := 6) (x := v6) dX5_wholeWhenDrawn_58 rfl) ?_
        refine Cv.go (pc' := 61) (go_aload_n (i := 0) (x := 0) dX5_wholeWhenDrawn_60 rfl rfl) ?_
        refine Cv.go (pc' := 64) (go_getI (i := 0) cls5 (sx_k0 hS) (by decide) rfl lf_X5_83 (by decide) dX5_wholeWhenDrawn_61) ?_
        refine Cv.bnd fun v20 m21 e22 => ?_
        have C23 := kc_X4_turnsOf m14 v13 (20 + a5.toNatClampNeg) v6 (mD m14 0 0) hf17 hf19 v20 m21 e22
        refine Cv.go (pc' := 67) (st' := [.int v20, .int v6]) (go_callV (As := [.ref (20 + a5.toNatClampNeg), .int v6, .int (mD m14 0 0)]) (st := [.int v6]) C23 (by decide) ok_X4_turnsOf li_X4_turnsOf ls_X4_turnsOf lm_X5_118 cls4 hf17.1 rfl rfl (Nat.le_of_ble_eq_true rfl) dX5_wholeWhenDrawn_64) ?_
        have zm21 := C23.1.2.2 rfl
        have hS := hS.sh zm21
        have hf11 := sk zm21 hf11
        have hf17 := hf17.sh zm21
        have hf19 := sk zm21 hf19
        refine Cv.ite (fun h24 => ?_) (fun h24 => ?_)
        · refine Cv.go (pc' := 73) (go_icmp_ge_t (tgt := 73) dX5_wholeWhenDrawn_67 rfl h24) ?_
          refine Cv.weak (ls' := [.ref 0, .null, .int a2, .int a3, .int v2, .int a5, .null]) (⟨Or.inr rfl, ⟨Or.inr rfl, ⟨Or.inr rfl, ⟨Or.inr rfl, ⟨Or.inr rfl, ⟨Or.inr rfl, ⟨Or.inl rfl, True.intro⟩⟩⟩⟩⟩⟩⟩) ?_
          exact c_X5_wholeWhenDrawn_73 (F_X5_wholeWhenDrawn_8 n) ih m21 a2 a3 v2 a5 hS
        · refine Cv.go (pc' := 70) (go_icmp_ge_f 73 dX5_wholeWhenDrawn_67 rfl h24) ?_
          refine Cv.go (pc' := 73) (ls' := [.ref 0, .null, .int a2, .int (a3 + (1 : Int32)), .int v2, .int a5, .int v6]) (go_iinc (x := a3) (v := a3 + (1 : Int32)) dX5_wholeWhenDrawn_70 rfl rfl (by decide) rfl) ?_
          refine Cv.weak (ls' := [.ref 0, .null, .int a2, .int (a3 + (1 : Int32)), .int v2, .int a5, .null]) (⟨Or.inr rfl, ⟨Or.inr rfl, ⟨Or.inr rfl, ⟨Or.inr rfl, ⟨Or.inr rfl, ⟨Or.inr rfl, ⟨Or.inl rfl, True.intro⟩⟩⟩⟩⟩⟩⟩) ?_
          exact c_X5_wholeWhenDrawn_73 (F_X5_wholeWhenDrawn_8 n) ih m21 a2 (a3 + (1 : Int32)) v2 a5 hS
      · refine Cv.go (pc' := 73) (go_icmp_ne_t (tgt := 73) dX5_wholeWhenDrawn_42 rfl h12) ?_
        refine Cv.weak (ls' := [.ref 0, .null, .int a2, .int a3, .int v2, .int a5, .null]) (⟨Or.inr rfl, ⟨Or.inr rfl, ⟨Or.inr rfl, ⟨Or.inr rfl, ⟨Or.inr rfl, ⟨Or.inr rfl, ⟨Or.inl rfl, True.intro⟩⟩⟩⟩⟩⟩⟩) ?_
        exact c_X5_wholeWhenDrawn_73 (F_X5_wholeWhenDrawn_8 n) ih m7 a2 a3 v2 a5 hS
theorem kc_X5_wholeWhenDrawn (m : Mem) (a1 : Int32) (a2 : Int32) (hS : ShX m) : ∀ v mE, F_X5_wholeWhenDrawn m a1 a2 = some (v, mE) → Con true kX5_wholeWhenDrawn 3 [.ref 0, .int a1, .int a2] m (eI v) mE := by
  refine Con.of (ini := false) (ls0 := [.ref 0, .int a1, .int a2, .null, .null, .null, .null]) (ri := .ireturn) (by decide) (by intro z; cases z) rfl (Nat.le_of_ble_eq_true rfl) (fun v mE _ => RetTy.i) ?_
  show Cv true (cX5_wholeWhenDrawn, 7, RX5, 3, ((false, none) : IK)) .ireturn eI (F_X5_wholeWhenDrawn m a1 a2) m 0 [.ref 0, .int a1, .int a2, .null, .null, .null, .null] []
  unfold F_X5_wholeWhenDrawn
  refine Cv.go (pc' := 1) (go_iconst dX5_wholeWhenDrawn_0 ic_0) ?_
  refine Cv.go (pc' := 2) (ls' := [.ref 0, .int a1, .int a2, .int (0 : Int32), .null, .null, .null]) (go_istore_n dX5_wholeWhenDrawn_1 rfl (by decide) rfl) ?_
  refine Cv.go (pc' := 3) (go_iload_n (i := 1) (x := a1) dX5_wholeWhenDrawn_2 rfl rfl) ?_
  refine Cv.go (pc' := 5) (ls' := [.ref 0, .int a1, .int a2, .int (0 : Int32), .int a1, .null, .null]) (go_istore dX5_wholeWhenDrawn_3 (by decide) rfl) ?_
  refine Cv.go (pc' := 6) (go_iconst dX5_wholeWhenDrawn_5 ic_0) ?_
  refine Cv.go (pc' := 8) (ls' := [.ref 0, .int a1, .int a2, .int (0 : Int32), .int a1, .int (0 : Int32), .null]) (go_istore dX5_wholeWhenDrawn_6 (by decide) rfl) ?_
  refine Cv.weak (ls' := [.ref 0, .null, .int a2, .int (0 : Int32), .int a1, .int (0 : Int32), .null]) (⟨Or.inr rfl, ⟨Or.inl rfl, ⟨Or.inr rfl, ⟨Or.inr rfl, ⟨Or.inr rfl, ⟨Or.inr rfl, ⟨Or.inr rfl, True.intro⟩⟩⟩⟩⟩⟩⟩) ?_
  exact c_X5_wholeWhenDrawn_8 FU m a2 (0 : Int32) a1 (0 : Int32) hS
theorem c_X5_chance_72 (K49 : Mem → Int32 → Int32 → Int32 → Int32 → Int32 → Int32 → Int32 → Option (Int64 × Mem)) (hK49 : ∀ (m : Mem) (a1 : Int32) (a2 : Int32) (a3 : Int32) (a4 : Int32) (a5 : Int32) (a6 : Int32) (a7 : Int32) (hS : ShX m), Cv true (cX5_chance, 8, RX5, 4, ((false, none) : IK)) .lreturn eL (K49 m a1 a2 a3 a4 a5 a6 a7) m 49 [.ref 0, .int a1, .int a2, .int a3, .int a4, .int a5, .int a6, .int a7] []) : ∀ (m : Mem) (a1 : Int32) (a2 : Int32) (a3 : Int32) (a4 : Int32) (a5 : Int32) (a6 : Int32) (a7 : Int32) (hS : ShX m), Cv true (cX5_chance, 8, RX5, 4, ((false, none) : IK)) .lreturn eL (F_X5_chance_72 K49 m a1 a2 a3 a4 a5 a6 a7) m 72 [.ref 0, .int a1, .int a2, .int a3, .int a4, .int a5, .int a6, .int a7] [] := by
  intro m a1 a2 a3 a4 a5 a6 a7 hS
  unfold F_X5_chance_72
  refine Cv.go (pc' := 75) (ls' := [.ref 0, .int a1, .int a2, .int a3, .int a4, .int a5, .int a6, .int (a7 + (1 : Int32))]) (go_iinc (x := a7) (v := a7 + (1 : Int32)) dX5_chance_72 rfl rfl (by decide) rfl) ?_
  refine Cv.go (pc' := 49) (go_goto (tgt := 49) dX5_chance_75 rfl) ?_
  exact hK49 m a1 a2 a3 a4 a5 a6 (a7 + (1 : Int32)) hS
theorem c_X5_chance_39 : ∀ (m : Mem) (hS : ShX m), Cv true (cX5_chance, 8, RX5, 4, ((false, none) : IK)) .lreturn eL (F_X5_chance_39 m) m 39 [.null, .null, .null, .null, .null, .null, .null, .null] [] := by
  intro m hS
  unfold F_X5_chance_39
  refine Cv.go (pc' := 42) (go_ldc2 dX5_chance_39 ll_X5_253) ?_
  exact Cv.ret dX5_chance_42 rfl
theorem c_X5_chance_49 : ∀ n, ∀ (m : Mem) (a1 : Int32) (a2 : Int32) (a3 : Int32) (a4 : Int32) (a5 : Int32) (a6 : Int32) (a7 : Int32) (hS : ShX m), Cv true (cX5_chance, 8, RX5, 4, ((false, none) : IK)) .lreturn eL (F_X5_chance_49 n m a1 a2 a3 a4 a5 a6 a7) m 49 [.ref 0, .int a1, .int a2, .int a3, .int a4, .int a5, .int a6, .int a7] [] := by
  intro n
  induction n with
  | zero => intro m a1 a2 a3 a4 a5 a6 a7 hS; exact Cv.no
  | succ n ih =>
    intro m a1 a2 a3 a4 a5 a6 a7 hS
    unfold F_X5_chance_49
    refine Cv.go (pc' := 51) (go_iload (i := 7) (x := a7) dX5_chance_49 rfl) ?_
    refine Cv.go (pc' := 52) (go_iload_n (i := 2) (x := a2) dX5_chance_51 rfl rfl) ?_
    refine Cv.ite (fun h21 => ?_) (fun h21 => ?_)
    · refine Cv.go (pc' := 78) (go_icmp_ge_t (tgt := 78) dX5_chance_52 rfl h21) ?_
      refine Cv.go (pc' := 80) (go_iload (i := 6) (x := a6) dX5_chance_78 rfl) ?_
      refine Cv.go (pc' := 81) (go_iload_n (i := 2) (x := a2) dX5_chance_80 rfl rfl) ?_
      refine Cv.bnd fun v22 m23 e24 => ?_
      have C25 := kc_X5_commonDivisor m a6 a2 v22 m23 e24
      refine Cv.go (pc' := 84) (st' := [.int v22]) (go_callS (As := [.int a6, .int a2]) (st := []) C25 (by decide) ok_X5_commonDivisor lt_X5_commonDivisor lm_X5_258 rfl rfl (Nat.le_of_ble_eq_true rfl) dX5_chance_81) ?_
      have zm23 := C25.1.2.2 rfl
      have hS := hS.sh zm23
      refine Cv.go (pc' := 86) (ls' := [.ref 0, .int a1, .int a2, .int a3, .int a4, .int a5, .int a6, .int v22]) (go_istore dX5_chance_84 (by decide) rfl) ?_
      refine Cv.go (pc' := 88) (go_iload (i := 5) (x := a5) dX5_chance_86 rfl) ?_
      refine Cv.ite (fun h26 => ?_) (fun h26 => ?_)
      · refine Cv.go (pc' := 91) (go_if_ne_f 100 dX5_chance_88 rfl h26) ?_
        refine Cv.go (pc' := 93) (go_iload (i := 6) (x := a6) dX5_chance_91 rfl) ?_
        refine Cv.go (pc' := 95) (go_iload (i := 7) (x := v22) dX5_chance_93 rfl) ?_
        refine Cv.gif fun g28 => ?_
        refine Cv.go (pc' := 96) (go_idiv dX5_chance_95 g28) ?_
        refine Cv.go (pc' := 97) (go_i2l dX5_chance_96) ?_
        refine Cv.go (pc' := 105) (go_goto (tgt := 105) dX5_chance_97 rfl) ?_
        exact Cv.ret dX5_chance_105 rfl
      · refine Cv.go (pc' := 100) (go_if_ne_t (tgt := 100) dX5_chance_88 rfl h26) ?_
        refine Cv.go (pc' := 101) (go_iload_n (i := 2) (x := a2) dX5_chance_100 rfl rfl) ?_
        refine Cv.go (pc' := 103) (go_iload (i := 7) (x := v22) dX5_chance_101 rfl) ?_
        refine Cv.gif fun g27 => ?_
        refine Cv.go (pc' := 104) (go_idiv dX5_chance_103 g27) ?_
        refine Cv.go (pc' := 105) (go_i2l dX5_chance_104) ?_
        exact Cv.ret dX5_chance_105 rfl
    · refine Cv.go (pc' := 55) (go_icmp_ge_f 78 dX5_chance_52 rfl h21) ?_
      refine Cv.go (pc' := 56) (go_aload_n (i := 0) (x := 0) dX5_chance_55 rfl rfl) ?_
      refine Cv.go (pc' := 57) (go_iload_n (i := 1) (x := a1) dX5_chance_56 rfl rfl) ?_
      refine Cv.go (pc' := 59) (go_iload (i := 7) (x := a7) dX5_chance_57 rfl) ?_
      refine Cv.go (pc' := 60) (go_iadd dX5_chance_59) ?_
      refine Cv.go (pc' := 61) (go_iload_n (i := 3) (x := a3) dX5_chance_60 rfl rfl) ?_
      refine Cv.bnd fun v29 m30 e31 => ?_
      have C32 := kc_X5_wholeWhenDrawn m (a1 + a7) a3 hS v29 m30 e31
      refine Cv.go (pc' := 64) (st' := [.int v29]) (go_callV (As := [.int (a1 + a7), .int a3]) (st := []) C32 (by decide) ok_X5_wholeWhenDrawn li_X5_wholeWhenDrawn ls_X5_wholeWhenDrawn lm_X5_255 cls5 (sx_k0 hS) rfl rfl (Nat.le_of_ble_eq_true rfl) dX5_chance_61) ?_
      have zm30 := C32.1.2.2 rfl
      have hS := hS.sh zm30
      refine Cv.go (pc' := 66) (go_iload (i := 4) (x := a4) dX5_chance_64 rfl) ?_
      refine Cv.ite (fun h33 => ?_) (fun h33 => ?_)
      · refine Cv.go (pc' := 72) (go_icmp_lt_t (tgt := 72) dX5_chance_66 rfl h33) ?_
        exact c_X5_chance_72 (F_X5_chance_49 n) ih m30 a1 a2 a3 a4 a5 a6 a7 hS
      · refine Cv.go (pc' := 69) (go_icmp_lt_f 72 dX5_chance_66 rfl h33) ?_
        refine Cv.go (pc' := 72) (ls' := [.ref 0, .int a1, .int a2, .int a3, .int a4, .int a5, .int (a6 + (1 : Int32)), .int a7]) (go_iinc (x := a6) (v := a6 + (1 : Int32)) dX5_chance_69 rfl rfl (by decide) rfl) ?_
        exact c_X5_chance_72 (F_X5_chance_49 n) ih m30 a1 a2 a3 a4 a5 (a6 + (1 : Int32)) a7 hS
theorem kc_X5_chance (m : Mem) (a1 : Int32) (a2 : Int32) (a3 : Int32) (a4 : Int32) (a5 : Int32) (hS : ShX m) : ∀ v mE, F_X5_chance m a1 a2 a3 a4 a5 = some (v, mE) → Con true kX5_chance 4 [.ref 0, .int a1, .int a2, .int a3, .int a4, .int a5] m (eL v) mE := by
  refine Con.of (ini := false) (ls0 := [.ref 0, .int a1, .int a2, .int a3, .int a4, .int a5, .null, .null]) (ri := .lreturn) (by decide) (by intro z; cases z) rfl (Nat.le_of_ble_eq_true rfl) (fun v mE _ => RetTy.l) ?_
  show Cv true (cX5_chance, 8, RX5, 4, ((false, none) : IK)) .lreturn eL (F_X5_chance m a1 a2 a3 a4 a5) m 0 [.ref 0, .int a1, .int a2, .int a3, .int a4, .int a5, .null, .null] []
  unfold F_X5_chance
  refine Cv.go (pc' := 1) (go_iload_n (i := 2) (x := a2) dX5_chance_0 rfl rfl) ?_
  refine Cv.go (pc' := 2) (go_iconst dX5_chance_1 ic_1) ?_
  refine Cv.go (pc' := 4) (go_bipush dX5_chance_2 ib_20) ?_
  refine Cv.bnd fun v1 m2 e3 => ?_
  have C4 := kc_X5_isBetween m a2 (1 : Int32) (20 : Int32) v1 m2 e3
  refine Cv.go (pc' := 7) (st' := [.int (bz v1)]) (go_callS (As := [.int a2, .int (1 : Int32), .int (20 : Int32)]) (st := []) C4 (by decide) ok_X5_isBetween lt_X5_isBetween lm_X5_73 rfl rfl (Nat.le_of_ble_eq_true rfl) dX5_chance_4) ?_
  have zm2 := C4.1.2.2 rfl
  have hS := hS.sh zm2
  refine Cv.ite (fun h5 => ?_) (fun h5 => ?_)
  · refine Cv.go (pc' := 39) (go_if_eq_t (tgt := 39) dX5_chance_7 rfl h5) ?_
    refine Cv.weak (ls' := [.null, .null, .null, .null, .null, .null, .null, .null]) (⟨Or.inl rfl, ⟨Or.inl rfl, ⟨Or.inl rfl, ⟨Or.inl rfl, ⟨Or.inl rfl, ⟨Or.inl rfl, ⟨Or.inr rfl, ⟨Or.inr rfl, True.intro⟩⟩⟩⟩⟩⟩⟩⟩) ?_
    exact c_X5_chance_39 m2 hS
  · refine Cv.go (pc' := 10) (go_if_eq_f 39 dX5_chance_7 rfl h5) ?_
    refine Cv.go (pc' := 11) (go_iconst dX5_chance_10 ic_5) ?_
    refine Cv.go (pc' := 12) (go_iload_n (i := 3) (x := a3) dX5_chance_11 rfl rfl) ?_
    refine Cv.bnd fun v6 m7 e8 => ?_
    have C9 := kc_X5_isOf m2 (5 : Int32) a3 v6 m7 e8
    refine Cv.go (pc' := 15) (st' := [.int (bz v6)]) (go_callS (As := [.int (5 : Int32), .int a3]) (st := []) C9 (by decide) ok_X5_isOf lt_X5_isOf lm_X5_99 rfl rfl (Nat.le_of_ble_eq_true rfl) dX5_chance_12) ?_
    have zm7 := C9.1.2.2 rfl
    have hS := hS.sh zm7
    refine Cv.ite (fun h10 => ?_) (fun h10 => ?_)
    · refine Cv.go (pc' := 39) (go_if_eq_t (tgt := 39) dX5_chance_15 rfl h10) ?_
      refine Cv.weak (ls' := [.null, .null, .null, .null, .null, .null, .null, .null]) (⟨Or.inl rfl, ⟨Or.inl rfl, ⟨Or.inl rfl, ⟨Or.inl rfl, ⟨Or.inl rfl, ⟨Or.inl rfl, ⟨Or.inr rfl, ⟨Or.inr rfl, True.intro⟩⟩⟩⟩⟩⟩⟩⟩) ?_
      exact c_X5_chance_39 m7 hS
    · refine Cv.go (pc' := 18) (go_if_eq_f 39 dX5_chance_15 rfl h10) ?_
      refine Cv.go (pc' := 20) (go_iload (i := 4) (x := a4) dX5_chance_18 rfl) ?_
      refine Cv.go (pc' := 21) (go_iconst dX5_chance_20 ic_0) ?_
      refine Cv.go (pc' := 23) (go_bipush dX5_chance_21 ib_8) ?_
      refine Cv.bnd fun v11 m12 e13 => ?_
      have C14 := kc_X5_isBetween m7 a4 (0 : Int32) (8 : Int32) v11 m12 e13
      refine Cv.go (pc' := 26) (st' := [.int (bz v11)]) (go_callS (As := [.int a4, .int (0 : Int32), .int (8 : Int32)]) (st := []) C14 (by decide) ok_X5_isBetween lt_X5_isBetween lm_X5_73 rfl rfl (Nat.le_of_ble_eq_true rfl) dX5_chance_23) ?_
      have zm12 := C14.1.2.2 rfl
      have hS := hS.sh zm12
      refine Cv.ite (fun h15 => ?_) (fun h15 => ?_)
      · refine Cv.go (pc' := 39) (go_if_eq_t (tgt := 39) dX5_chance_26 rfl h15) ?_
        refine Cv.weak (ls' := [.null, .null, .null, .null, .null, .null, .null, .null]) (⟨Or.inl rfl, ⟨Or.inl rfl, ⟨Or.inl rfl, ⟨Or.inl rfl, ⟨Or.inl rfl, ⟨Or.inl rfl, ⟨Or.inr rfl, ⟨Or.inr rfl, True.intro⟩⟩⟩⟩⟩⟩⟩⟩) ?_
        exact c_X5_chance_39 m12 hS
      · refine Cv.go (pc' := 29) (go_if_eq_f 39 dX5_chance_26 rfl h15) ?_
        refine Cv.go (pc' := 31) (go_iload (i := 5) (x := a5) dX5_chance_29 rfl) ?_
        refine Cv.go (pc' := 32) (go_iconst dX5_chance_31 ic_0) ?_
        refine Cv.go (pc' := 33) (go_iconst dX5_chance_32 ic_1) ?_
        refine Cv.bnd fun v16 m17 e18 => ?_
        have C19 := kc_X5_isBetween m12 a5 (0 : Int32) (1 : Int32) v16 m17 e18
        refine Cv.go (pc' := 36) (st' := [.int (bz v16)]) (go_callS (As := [.int a5, .int (0 : Int32), .int (1 : Int32)]) (st := []) C19 (by decide) ok_X5_isBetween lt_X5_isBetween lm_X5_73 rfl rfl (Nat.le_of_ble_eq_true rfl) dX5_chance_33) ?_
        have zm17 := C19.1.2.2 rfl
        have hS := hS.sh zm17
        refine Cv.ite (fun h20 => ?_) (fun h20 => ?_)
        · refine Cv.go (pc' := 39) (go_if_ne_f 43 dX5_chance_36 rfl h20) ?_
          refine Cv.weak (ls' := [.null, .null, .null, .null, .null, .null, .null, .null]) (⟨Or.inl rfl, ⟨Or.inl rfl, ⟨Or.inl rfl, ⟨Or.inl rfl, ⟨Or.inl rfl, ⟨Or.inl rfl, ⟨Or.inr rfl, ⟨Or.inr rfl, True.intro⟩⟩⟩⟩⟩⟩⟩⟩) ?_
          exact c_X5_chance_39 m17 hS
        · refine Cv.go (pc' := 43) (go_if_ne_t (tgt := 43) dX5_chance_36 rfl h20) ?_
          refine Cv.go (pc' := 44) (go_iconst dX5_chance_43 ic_0) ?_
          refine Cv.go (pc' := 46) (ls' := [.ref 0, .int a1, .int a2, .int a3, .int a4, .int a5, .int (0 : Int32), .null]) (go_istore dX5_chance_44 (by decide) rfl) ?_
          refine Cv.go (pc' := 47) (go_iconst dX5_chance_46 ic_0) ?_
          refine Cv.go (pc' := 49) (ls' := [.ref 0, .int a1, .int a2, .int a3, .int a4, .int a5, .int (0 : Int32), .int (0 : Int32)]) (go_istore dX5_chance_47 (by decide) rfl) ?_
          exact c_X5_chance_49 FU m17 a1 a2 a3 a4 a5 (0 : Int32) (0 : Int32) hS
theorem c_X5_image_43 : ∀ n, ∀ (m : Mem) (a1 : Int32) (hS : ShX m), Cv true (cX5_image, 2, RX5, 1, ((false, none) : IK)) .ireturn eI (F_X5_image_43 n m a1) m 43 [.ref 0, .int a1] [] := by
  intro n
  induction n with
  | zero => intro m a1 hS; exact Cv.no
  | succ n ih =>
    intro m a1 hS
    unfold F_X5_image_43
    refine Cv.go (pc' := 44) (go_iload_n (i := 1) (x := a1) dX5_image_43 rfl rfl) ?_
    refine Cv.go (pc' := 45) (go_aload_n (i := 0) (x := 0) dX5_image_44 rfl rfl) ?_
    refine Cv.go (pc' := 48) (go_getI (i := 2) cls5 (sx_k0 hS) (by decide) rfl lf_X5_103 (by decide) dX5_image_45) ?_
    refine Cv.ite (fun h5 => ?_) (fun h5 => ?_)
    · refine Cv.go (pc' := 75) (go_icmp_ge_t (tgt := 75) dX5_image_48 rfl h5) ?_
      refine Cv.go (pc' := 76) (go_aload_n (i := 0) (x := 0) dX5_image_75 rfl rfl) ?_
      refine Cv.go (pc' := 79) (go_getI (i := 2) cls5 (sx_k0 hS) (by decide) rfl lf_X5_103 (by decide) dX5_image_76) ?_
      exact Cv.ret dX5_image_79 rfl
    · refine Cv.go (pc' := 51) (go_icmp_ge_f 75 dX5_image_48 rfl h5) ?_
      refine Cv.go (pc' := 52) (go_aload_n (i := 0) (x := 0) dX5_image_51 rfl rfl) ?_
      refine Cv.go (pc' := 55) (go_getR (i := 8) cls5 (sx_k0 hS) (by decide) rfl lf_X5_37 (Or.inl ⟨_, rfl⟩) (sx_r0_8 hS) dX5_image_52) ?_
      refine Cv.go (pc' := 58) (go_getR (i := 4) cls1 (sx_k8 hS) (by decide) rfl lf_X5_270 (Or.inr ⟨_, rfl⟩) (sx_r8_4 hS) dX5_image_55) ?_
      refine Cv.go (pc' := 59) (go_iload_n (i := 1) (x := a1) dX5_image_58 rfl rfl) ?_
      refine Cv.gif fun g6 => ?_
      refine Cv.go (pc' := 60) (go_aaload (t := 9) (t0 := 2) (sx_k9 hS) (by decide) (fun _ => rfl) g6 (sx_e9 hS (vp_lt g6)).1 dX5_image_59) ?_
      have hf7 := (sx_e9 hS (vp_lt g6)).2
      refine Cv.go (pc' := 61) (go_aload_n (i := 0) (x := 0) dX5_image_60 rfl rfl) ?_
      refine Cv.go (pc' := 64) (go_getR (i := 1) cls5 (sx_k0 hS) (by decide) rfl lf_X5_11 (Or.inr ⟨_, rfl⟩) (sx_r0_1 hS) dX5_image_61) ?_
      refine Cv.go (pc' := 65) (go_iload_n (i := 1) (x := a1) dX5_image_64 rfl rfl) ?_
      refine Cv.gif fun g8 => ?_
      refine Cv.go (pc' := 66) (go_aaload (t := 9) (t0 := 2) (sx_k1 hS) (by decide) (fun _ => rfl) g8 (sx_e1 hS (vp_lt g8)).1 dX5_image_65) ?_
      have hf9 := (sx_e1 hS (vp_lt g8)).2
      refine Cv.bnd fun v10 m11 e12 => ?_
      have C13 := kc_X0_become m (10 + a1.toNatClampNeg) (20 + a1.toNatClampNeg) hf7 hf9 v10 m11 e12
      refine Cv.go (pc' := 69) (st' := []) (go_callV (As := [.ref (20 + a1.toNatClampNeg)]) (st := []) C13 (by decide) ok_X0_become li_X0_become ls_X0_become lm_X5_273 cls0 hf7 rfl rfl (Nat.le_of_ble_eq_true rfl) dX5_image_66) ?_
      have zm11 := C13.1.2.2 rfl
      have hS := hS.sh zm11
      have hf7 := sk zm11 hf7
      have hf9 := sk zm11 hf9
      refine Cv.go (pc' := 72) (ls' := [.ref 0, .int (a1 + (1 : Int32))]) (go_iinc (x := a1) (v := a1 + (1 : Int32)) dX5_image_69 rfl rfl (by decide) rfl) ?_
      refine Cv.go (pc' := 43) (go_goto (tgt := 43) dX5_image_72 rfl) ?_
      exact ih m11 (a1 + (1 : Int32)) hS
theorem kc_X5_image (m : Mem) (hS : ShX m) : ∀ v mE, F_X5_image m = some (v, mE) → Con true kX5_image 1 [.ref 0] m (eI v) mE := by
  refine Con.of (ini := false) (ls0 := [.ref 0, .null]) (ri := .ireturn) (by decide) (by intro z; cases z) rfl (Nat.le_of_ble_eq_true rfl) (fun v mE _ => RetTy.i) ?_
  show Cv true (cX5_image, 2, RX5, 1, ((false, none) : IK)) .ireturn eI (F_X5_image m) m 0 [.ref 0, .null] []
  unfold F_X5_image
  refine Cv.go (pc' := 1) (go_aload_n (i := 0) (x := 0) dX5_image_0 rfl rfl) ?_
  refine Cv.go (pc' := 4) (go_getR (i := 8) cls5 (sx_k0 hS) (by decide) rfl lf_X5_37 (Or.inl ⟨_, rfl⟩) (sx_r0_8 hS) dX5_image_1) ?_
  refine Cv.go (pc' := 5) (go_iconst dX5_image_4 ic_1) ?_
  refine Cv.go (pc' := 8) (go_putI (i := 0) cls1 (sx_k8 hS) (by decide) rfl lf_X5_261 (by decide) rfl rfl rfl dX5_image_5) ?_
  refine Cv.namM fun m1 em1 => ?_
  have zm1 : SameSh m m1 := em1 ▸ SameSh.d
  have hS := hS.sh zm1
  refine Cv.go (pc' := 9) (go_aload_n (i := 0) (x := 0) dX5_image_8 rfl rfl) ?_
  refine Cv.go (pc' := 12) (go_getR (i := 8) cls5 (sx_k0 hS) (by decide) rfl lf_X5_37 (Or.inl ⟨_, rfl⟩) (sx_r0_8 hS) dX5_image_9) ?_
  refine Cv.go (pc' := 13) (go_aload_n (i := 0) (x := 0) dX5_image_12 rfl rfl) ?_
  refine Cv.go (pc' := 16) (go_getI (i := 0) cls5 (sx_k0 hS) (by decide) rfl lf_X5_83 (by decide) dX5_image_13) ?_
  refine Cv.go (pc' := 19) (go_putI (i := 1) cls1 (sx_k8 hS) (by decide) rfl lf_X5_265 (by decide) rfl rfl rfl dX5_image_16) ?_
  refine Cv.namM fun m2 em2 => ?_
  have zm2 : SameSh m1 m2 := em2 ▸ SameSh.d
  have hS := hS.sh zm2
  refine Cv.go (pc' := 20) (go_aload_n (i := 0) (x := 0) dX5_image_19 rfl rfl) ?_
  refine Cv.go (pc' := 23) (go_getR (i := 8) cls5 (sx_k0 hS) (by decide) rfl lf_X5_37 (Or.inl ⟨_, rfl⟩) (sx_r0_8 hS) dX5_image_20) ?_
  refine Cv.go (pc' := 24) (go_aload_n (i := 0) (x := 0) dX5_image_23 rfl rfl) ?_
  refine Cv.go (pc' := 27) (go_getI (i := 6) cls5 (sx_k0 hS) (by decide) rfl lf_X5_142 (by decide) dX5_image_24) ?_
  refine Cv.go (pc' := 30) (go_putI (i := 2) cls1 (sx_k8 hS) (by decide) rfl lf_X5_268 (by decide) rfl rfl rfl dX5_image_27) ?_
  refine Cv.namM fun m3 em3 => ?_
  have zm3 : SameSh m2 m3 := em3 ▸ SameSh.d
  have hS := hS.sh zm3
  refine Cv.go (pc' := 31) (go_aload_n (i := 0) (x := 0) dX5_image_30 rfl rfl) ?_
  refine Cv.go (pc' := 34) (go_getR (i := 8) cls5 (sx_k0 hS) (by decide) rfl lf_X5_37 (Or.inl ⟨_, rfl⟩) (sx_r0_8 hS) dX5_image_31) ?_
  refine Cv.go (pc' := 35) (go_aload_n (i := 0) (x := 0) dX5_image_34 rfl rfl) ?_
  refine Cv.go (pc' := 38) (go_getI (i := 2) cls5 (sx_k0 hS) (by decide) rfl lf_X5_103 (by decide) dX5_image_35) ?_
  refine Cv.go (pc' := 41) (go_putI (i := 3) cls1 (sx_k8 hS) (by decide) rfl lf_X5_269 (by decide) rfl rfl rfl dX5_image_38) ?_
  refine Cv.namM fun m4 em4 => ?_
  have zm4 : SameSh m3 m4 := em4 ▸ SameSh.d
  have hS := hS.sh zm4
  refine Cv.go (pc' := 42) (go_iconst dX5_image_41 ic_0) ?_
  refine Cv.go (pc' := 43) (ls' := [.ref 0, .int (0 : Int32)]) (go_istore_n dX5_image_42 rfl (by decide) rfl) ?_
  exact c_X5_image_43 FU m4 (0 : Int32) hS
