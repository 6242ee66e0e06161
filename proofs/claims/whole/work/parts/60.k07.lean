theorem c_X6_next_100 : ∀ n, ∀ (m : Mem) (hS : ShM m), Cv true (cX6_next, 3, RX6, 1, ((false, none) : IK)) .return_ eV (F_X6_next_100 n m) m 100 [.ref 40, .null, .null] [] := by
  intro n
  induction n with
  | zero => intro m hS; exact Cv.no
  | succ n ih =>
    intro m hS
    unfold F_X6_next_100
    refine Cv.go (pc' := 101) (go_aload_n (i := 0) (x := 40) dX6_next_100 rfl rfl) ?_
    refine Cv.go (pc' := 102) (go_aload_n (i := 0) (x := 40) dX6_next_101 rfl rfl) ?_
    refine Cv.go (pc' := 105) (go_getI (i := 19) cls6 (sx_k40 hS) (by decide) rfl lf_X6_130 (by decide) dX6_next_102) ?_
    refine Cv.bnd fun v41 m42 e43 => ?_
    have C44 := kc_X6_byteAt m (mD m 40 19) hS v41 m42 e43
    refine Cv.go (pc' := 108) (st' := [.int v41]) (go_callV (As := [.int (mD m 40 19)]) (st := []) C44 (by decide) ok_X6_byteAt li_X6_byteAt ls_X6_byteAt lm_X6_133 cls6 (sx_k40 hS) rfl rfl (Nat.le_of_ble_eq_true rfl) dX6_next_105) ?_
    have zm42 := C44.1.2.2 rfl
    have hS := hS.sh zm42
    refine Cv.go (pc' := 109) (go_i2l dX6_next_108) ?_
    refine Cv.go (pc' := 112) (go_ldc2 dX6_next_109 ll_X6_142) ?_
    refine Cv.go (pc' := 115) (go_ldc2 dX6_next_112 ll_X6_144) ?_
    refine Cv.bnd fun v45 m46 e47 => ?_
    have C48 := kc_X6_in m42 v41.toInt64 (97 : Int64) (122 : Int64) v45 m46 e47
    refine Cv.go (pc' := 118) (st' := [.int (bz v45)]) (go_callS (As := [.long v41.toInt64, .long (97 : Int64), .long (122 : Int64)]) (st := []) C48 (by decide) ok_X6_in lt_X6_in lm_X6_67 rfl rfl (Nat.le_of_ble_eq_true rfl) dX6_next_115) ?_
    have zm46 := C48.1.2.2 rfl
    have hS := hS.sh zm46
    refine Cv.ite (fun h49 => ?_) (fun h49 => ?_)
    · refine Cv.go (pc' := 321) (go_if_eq_t (tgt := 321) dX6_next_118 rfl h49) ?_
      exact Cv.ret dX6_next_321 rfl
    · refine Cv.go (pc' := 121) (go_if_eq_f 321 dX6_next_118 rfl h49) ?_
      refine Cv.go (pc' := 122) (go_aload_n (i := 0) (x := 40) dX6_next_121 rfl rfl) ?_
      refine Cv.go (pc' := 123) (go_dup_a dX6_next_122) ?_
      refine Cv.go (pc' := 126) (go_getI (i := 19) cls6 (sx_k40 hS) (by decide) rfl lf_X6_130 (by decide) dX6_next_123) ?_
      refine Cv.go (pc' := 127) (go_iconst dX6_next_126 ic_1) ?_
      refine Cv.go (pc' := 128) (go_iadd dX6_next_127) ?_
      refine Cv.go (pc' := 131) (go_putI (i := 19) cls6 (sx_k40 hS) (by decide) rfl lf_X6_130 (by decide) rfl rfl rfl dX6_next_128) ?_
      refine Cv.namM fun m50 em50 => ?_
      have zm50 : SameSh m46 m50 := em50 ▸ SameSh.d
      have hS := hS.sh zm50
      refine Cv.go (pc' := 100) (go_goto (tgt := 100) dX6_next_131 rfl) ?_
      exact ih m50 hS
theorem c_X6_next_216 (K160 : Mem → Int32 → Option (Unit × Mem)) (hK160 : ∀ (m : Mem) (a2 : Int32) (hS : ShM m), Cv true (cX6_next, 3, RX6, 1, ((false, none) : IK)) .return_ eV (K160 m a2) m 160 [.ref 40, .null, .int a2] []) : ∀ (m : Mem) (a2 : Int32) (s0 : Int64) (hS : ShM m), Cv true (cX6_next, 3, RX6, 1, ((false, none) : IK)) .return_ eV (F_X6_next_216 K160 m a2 s0) m 216 [.ref 40, .null, .int a2] [.long s0, .ref 40] := by
  intro m a2 s0 hS
  unfold F_X6_next_216
  refine Cv.go (pc' := 219) (go_putL (i := 22) cls6 (sx_k40 hS) (by decide) rfl lf_X6_150 rfl rfl dX6_next_216) ?_
  refine Cv.namM fun m66 em66 => ?_
  have zm66 : SameSh m m66 := em66 ▸ SameSh.l
  have hS := hS.sh zm66
  refine Cv.go (pc' := 222) (ls' := [.ref 40, .null, .int (a2 + (1 : Int32))]) (go_iinc (x := a2) (v := a2 + (1 : Int32)) dX6_next_219 rfl rfl (by decide) rfl) ?_
  refine Cv.go (pc' := 223) (go_aload_n (i := 0) (x := 40) dX6_next_222 rfl rfl) ?_
  refine Cv.go (pc' := 224) (go_dup_a dX6_next_223) ?_
  refine Cv.go (pc' := 227) (go_getI (i := 19) cls6 (sx_k40 hS) (by decide) rfl lf_X6_130 (by decide) dX6_next_224) ?_
  refine Cv.go (pc' := 228) (go_iconst dX6_next_227 ic_1) ?_
  refine Cv.go (pc' := 229) (go_iadd dX6_next_228) ?_
  refine Cv.go (pc' := 232) (go_putI (i := 19) cls6 (sx_k40 hS) (by decide) rfl lf_X6_130 (by decide) rfl rfl rfl dX6_next_229) ?_
  refine Cv.namM fun m67 em67 => ?_
  have zm67 : SameSh m66 m67 := em67 ▸ SameSh.d
  have hS := hS.sh zm67
  refine Cv.go (pc' := 160) (go_goto (tgt := 160) dX6_next_232 rfl) ?_
  exact hK160 m67 (a2 + (1 : Int32)) hS
theorem c_X6_next_246 : ∀ (m : Mem) (s0 : Int32) (hS : ShM m), Cv true (cX6_next, 3, RX6, 1, ((false, none) : IK)) .return_ eV (F_X6_next_246 m s0) m 246 [.null, .null, .null] [.int s0, .ref 40] := by
  intro m s0 hS
  unfold F_X6_next_246
  refine Cv.go (pc' := 249) (go_putI (i := 20) cls6 (sx_k40 hS) (by decide) rfl lf_X6_139 (by decide) rfl rfl rfl dX6_next_246) ?_
  refine Cv.namM fun m68 em68 => ?_
  have zm68 : SameSh m m68 := em68 ▸ SameSh.d
  have hS := hS.sh zm68
  refine Cv.go (pc' := 321) (go_goto (tgt := 321) dX6_next_249 rfl) ?_
  exact Cv.ret dX6_next_321 rfl
theorem c_X6_next_300 : ∀ (m : Mem) (a1 : Int32) (hS : ShM m), Cv true (cX6_next, 3, RX6, 1, ((false, none) : IK)) .return_ eV (F_X6_next_300 m a1) m 300 [.ref 40, .int a1, .null] [] := by
  intro m a1 hS
  unfold F_X6_next_300
  refine Cv.go (pc' := 301) (go_aload_n (i := 0) (x := 40) dX6_next_300 rfl rfl) ?_
  refine Cv.go (pc' := 302) (go_iconst dX6_next_301 ic_3) ?_
  refine Cv.go (pc' := 305) (go_putI (i := 20) cls6 (sx_k40 hS) (by decide) rfl lf_X6_139 (by decide) rfl rfl rfl dX6_next_302) ?_
  refine Cv.namM fun m69 em69 => ?_
  have zm69 : SameSh m m69 := em69 ▸ SameSh.d
  have hS := hS.sh zm69
  refine Cv.go (pc' := 306) (go_aload_n (i := 0) (x := 40) dX6_next_305 rfl rfl) ?_
  refine Cv.go (pc' := 307) (go_iload_n (i := 1) (x := a1) dX6_next_306 rfl rfl) ?_
  refine Cv.go (pc' := 308) (go_i2l dX6_next_307) ?_
  refine Cv.go (pc' := 311) (go_putL (i := 22) cls6 (sx_k40 hS) (by decide) rfl lf_X6_150 rfl rfl dX6_next_308) ?_
  refine Cv.namM fun m70 em70 => ?_
  have zm70 : SameSh m69 m70 := em70 ▸ SameSh.l
  have hS := hS.sh zm70
  refine Cv.go (pc' := 312) (go_aload_n (i := 0) (x := 40) dX6_next_311 rfl rfl) ?_
  refine Cv.go (pc' := 313) (go_dup_a dX6_next_312) ?_
  refine Cv.go (pc' := 316) (go_getI (i := 19) cls6 (sx_k40 hS) (by decide) rfl lf_X6_130 (by decide) dX6_next_313) ?_
  refine Cv.go (pc' := 317) (go_iconst dX6_next_316 ic_1) ?_
  refine Cv.go (pc' := 318) (go_iadd dX6_next_317) ?_
  refine Cv.go (pc' := 321) (go_putI (i := 19) cls6 (sx_k40 hS) (by decide) rfl lf_X6_130 (by decide) rfl rfl rfl dX6_next_318) ?_
  refine Cv.namM fun m71 em71 => ?_
  have zm71 : SameSh m70 m71 := em71 ▸ SameSh.d
  have hS := hS.sh zm71
  exact Cv.ret dX6_next_321 rfl
theorem c_X6_next_26 (K0 : Mem → Option (Unit × Mem)) (hK0 : ∀ (m : Mem) (hS : ShM m), Cv true (cX6_next, 3, RX6, 1, ((false, none) : IK)) .return_ eV (K0 m) m 0 [.ref 40, .null, .null] []) : ∀ (m : Mem) (hS : ShM m), Cv true (cX6_next, 3, RX6, 1, ((false, none) : IK)) .return_ eV (F_X6_next_26 K0 m) m 26 [.ref 40, .null, .null] [] := by
  intro m hS
  unfold F_X6_next_26
  refine Cv.go (pc' := 27) (go_aload_n (i := 0) (x := 40) dX6_next_26 rfl rfl) ?_
  refine Cv.go (pc' := 28) (go_dup_a dX6_next_27) ?_
  refine Cv.go (pc' := 31) (go_getI (i := 19) cls6 (sx_k40 hS) (by decide) rfl lf_X6_130 (by decide) dX6_next_28) ?_
  refine Cv.go (pc' := 32) (go_iconst dX6_next_31 ic_1) ?_
  refine Cv.go (pc' := 33) (go_iadd dX6_next_32) ?_
  refine Cv.go (pc' := 36) (go_putI (i := 19) cls6 (sx_k40 hS) (by decide) rfl lf_X6_130 (by decide) rfl rfl rfl dX6_next_33) ?_
  refine Cv.namM fun m72 em72 => ?_
  have zm72 : SameSh m m72 := em72 ▸ SameSh.d
  have hS := hS.sh zm72
  refine Cv.go (pc' := 0) (go_goto (tgt := 0) dX6_next_36 rfl) ?_
  exact hK0 m72 hS
theorem c_X6_next_160 : ∀ n, ∀ (m : Mem) (a2 : Int32) (hS : ShM m), Cv true (cX6_next, 3, RX6, 1, ((false, none) : IK)) .return_ eV (F_X6_next_160 n m a2) m 160 [.ref 40, .null, .int a2] [] := by
  intro n
  induction n with
  | zero => intro m a2 hS; exact Cv.no
  | succ n ih =>
    intro m a2 hS
    unfold F_X6_next_160
    refine Cv.go (pc' := 161) (go_aload_n (i := 0) (x := 40) dX6_next_160 rfl rfl) ?_
    refine Cv.go (pc' := 162) (go_aload_n (i := 0) (x := 40) dX6_next_161 rfl rfl) ?_
    refine Cv.go (pc' := 165) (go_getI (i := 19) cls6 (sx_k40 hS) (by decide) rfl lf_X6_130 (by decide) dX6_next_162) ?_
    refine Cv.bnd fun v51 m52 e53 => ?_
    have C54 := kc_X6_byteAt m (mD m 40 19) hS v51 m52 e53
    refine Cv.go (pc' := 168) (st' := [.int v51]) (go_callV (As := [.int (mD m 40 19)]) (st := []) C54 (by decide) ok_X6_byteAt li_X6_byteAt ls_X6_byteAt lm_X6_133 cls6 (sx_k40 hS) rfl rfl (Nat.le_of_ble_eq_true rfl) dX6_next_165) ?_
    have zm52 := C54.1.2.2 rfl
    have hS := hS.sh zm52
    refine Cv.go (pc' := 169) (go_i2l dX6_next_168) ?_
    refine Cv.go (pc' := 172) (go_ldc2 dX6_next_169 ll_X6_146) ?_
    refine Cv.go (pc' := 175) (go_ldc2 dX6_next_172 ll_X6_148) ?_
    refine Cv.bnd fun v55 m56 e57 => ?_
    have C58 := kc_X6_in m52 v51.toInt64 (48 : Int64) (57 : Int64) v55 m56 e57
    refine Cv.go (pc' := 178) (st' := [.int (bz v55)]) (go_callS (As := [.long v51.toInt64, .long (48 : Int64), .long (57 : Int64)]) (st := []) C58 (by decide) ok_X6_in lt_X6_in lm_X6_67 rfl rfl (Nat.le_of_ble_eq_true rfl) dX6_next_175) ?_
    have zm56 := C58.1.2.2 rfl
    have hS := hS.sh zm56
    refine Cv.ite (fun h59 => ?_) (fun h59 => ?_)
    · refine Cv.go (pc' := 235) (go_if_eq_t (tgt := 235) dX6_next_178 rfl h59) ?_
      refine Cv.go (pc' := 236) (go_aload_n (i := 0) (x := 40) dX6_next_235 rfl rfl) ?_
      refine Cv.go (pc' := 237) (go_iload_n (i := 2) (x := a2) dX6_next_236 rfl rfl) ?_
      refine Cv.go (pc' := 238) (go_iconst dX6_next_237 ic_4) ?_
      refine Cv.ite (fun h60 => ?_) (fun h60 => ?_)
      · refine Cv.go (pc' := 245) (go_icmp_le_t (tgt := 245) dX6_next_238 rfl h60) ?_
        refine Cv.go (pc' := 246) (go_iconst dX6_next_245 ic_2) ?_
        refine Cv.weak (ls' := [.null, .null, .null]) (⟨Or.inl rfl, ⟨Or.inr rfl, ⟨Or.inl rfl, True.intro⟩⟩⟩) ?_
        exact c_X6_next_246 m56 (2 : Int32) hS
      · refine Cv.go (pc' := 241) (go_icmp_le_f 245 dX6_next_238 rfl h60) ?_
        refine Cv.go (pc' := 242) (go_iconst dX6_next_241 ic_4) ?_
        refine Cv.go (pc' := 246) (go_goto (tgt := 246) dX6_next_242 rfl) ?_
        refine Cv.weak (ls' := [.null, .null, .null]) (⟨Or.inl rfl, ⟨Or.inr rfl, ⟨Or.inl rfl, True.intro⟩⟩⟩) ?_
        exact c_X6_next_246 m56 (4 : Int32) hS
    · refine Cv.go (pc' := 181) (go_if_eq_f 235 dX6_next_178 rfl h59) ?_
      refine Cv.go (pc' := 182) (go_aload_n (i := 0) (x := 40) dX6_next_181 rfl rfl) ?_
      refine Cv.go (pc' := 183) (go_iload_n (i := 2) (x := a2) dX6_next_182 rfl rfl) ?_
      refine Cv.go (pc' := 184) (go_iconst dX6_next_183 ic_4) ?_
      refine Cv.ite (fun h61 => ?_) (fun h61 => ?_)
      · refine Cv.go (pc' := 212) (go_icmp_ge_t (tgt := 212) dX6_next_184 rfl h61) ?_
        refine Cv.go (pc' := 213) (go_aload_n (i := 0) (x := 40) dX6_next_212 rfl rfl) ?_
        refine Cv.go (pc' := 216) (go_getL (i := 22) cls6 (sx_k40 hS) (by decide) rfl lf_X6_150 rfl dX6_next_213) ?_
        exact c_X6_next_216 (F_X6_next_160 n) ih m56 a2 (mL m56 40 22) hS
      · refine Cv.go (pc' := 187) (go_icmp_ge_f 212 dX6_next_184 rfl h61) ?_
        refine Cv.go (pc' := 190) (go_ldc2 dX6_next_187 ll_X6_154) ?_
        refine Cv.go (pc' := 191) (go_aload_n (i := 0) (x := 40) dX6_next_190 rfl rfl) ?_
        refine Cv.go (pc' := 194) (go_getL (i := 22) cls6 (sx_k40 hS) (by decide) rfl lf_X6_150 rfl dX6_next_191) ?_
        refine Cv.go (pc' := 195) (go_lmul dX6_next_194) ?_
        refine Cv.go (pc' := 196) (go_aload_n (i := 0) (x := 40) dX6_next_195 rfl rfl) ?_
        refine Cv.go (pc' := 197) (go_aload_n (i := 0) (x := 40) dX6_next_196 rfl rfl) ?_
        refine Cv.go (pc' := 200) (go_getI (i := 19) cls6 (sx_k40 hS) (by decide) rfl lf_X6_130 (by decide) dX6_next_197) ?_
        refine Cv.bnd fun v62 m63 e64 => ?_
        have C65 := kc_X6_byteAt m56 (mD m56 40 19) hS v62 m63 e64
        refine Cv.go (pc' := 203) (st' := [.int v62, .long ((10 : Int64) * (mL m56 40 22)), .ref 40]) (go_callV (As := [.int (mD m56 40 19)]) (st := [.long ((10 : Int64) * (mL m56 40 22)), .ref 40]) C65 (by decide) ok_X6_byteAt li_X6_byteAt ls_X6_byteAt lm_X6_133 cls6 (sx_k40 hS) rfl rfl (Nat.le_of_ble_eq_true rfl) dX6_next_200) ?_
        have zm63 := C65.1.2.2 rfl
        have hS := hS.sh zm63
        refine Cv.go (pc' := 204) (go_i2l dX6_next_203) ?_
        refine Cv.go (pc' := 205) (go_ladd dX6_next_204) ?_
        refine Cv.go (pc' := 208) (go_ldc2 dX6_next_205 ll_X6_146) ?_
        refine Cv.go (pc' := 209) (go_lsub dX6_next_208) ?_
        refine Cv.go (pc' := 216) (go_goto (tgt := 216) dX6_next_209 rfl) ?_
        exact c_X6_next_216 (F_X6_next_160 n) ih m63 a2 ((((10 : Int64) * (mL m56 40 22)) + v62.toInt64) - (48 : Int64)) hS
theorem c_X6_next_0 : ∀ n, ∀ (m : Mem) (hS : ShM m), Cv true (cX6_next, 3, RX6, 1, ((false, none) : IK)) .return_ eV (F_X6_next_0 n m) m 0 [.ref 40, .null, .null] [] := by
  intro n
  induction n with
  | zero => intro m hS; exact Cv.no
  | succ n ih =>
    intro m hS
    unfold F_X6_next_0
    refine Cv.go (pc' := 1) (go_aload_n (i := 0) (x := 40) dX6_next_0 rfl rfl) ?_
    refine Cv.go (pc' := 2) (go_aload_n (i := 0) (x := 40) dX6_next_1 rfl rfl) ?_
    refine Cv.go (pc' := 5) (go_getI (i := 19) cls6 (sx_k40 hS) (by decide) rfl lf_X6_130 (by decide) dX6_next_2) ?_
    refine Cv.bnd fun v1 m2 e3 => ?_
    have C4 := kc_X6_byteAt m (mD m 40 19) hS v1 m2 e3
    refine Cv.go (pc' := 8) (st' := [.int v1]) (go_callV (As := [.int (mD m 40 19)]) (st := []) C4 (by decide) ok_X6_byteAt li_X6_byteAt ls_X6_byteAt lm_X6_133 cls6 (sx_k40 hS) rfl rfl (Nat.le_of_ble_eq_true rfl) dX6_next_5) ?_
    have zm2 := C4.1.2.2 rfl
    have hS := hS.sh zm2
    refine Cv.go (pc' := 10) (go_bipush dX6_next_8 ib_32) ?_
    refine Cv.ite (fun h5 => ?_) (fun h5 => ?_)
    · refine Cv.go (pc' := 26) (go_icmp_eq_t (tgt := 26) dX6_next_10 rfl h5) ?_
      exact c_X6_next_26 (F_X6_next_0 n) ih m2 hS
    · refine Cv.go (pc' := 13) (go_icmp_eq_f 26 dX6_next_10 rfl h5) ?_
      refine Cv.go (pc' := 14) (go_aload_n (i := 0) (x := 40) dX6_next_13 rfl rfl) ?_
      refine Cv.go (pc' := 15) (go_aload_n (i := 0) (x := 40) dX6_next_14 rfl rfl) ?_
      refine Cv.go (pc' := 18) (go_getI (i := 19) cls6 (sx_k40 hS) (by decide) rfl lf_X6_130 (by decide) dX6_next_15) ?_
      refine Cv.bnd fun v6 m7 e8 => ?_
      have C9 := kc_X6_byteAt m2 (mD m2 40 19) hS v6 m7 e8
      refine Cv.go (pc' := 21) (st' := [.int v6]) (go_callV (As := [.int (mD m2 40 19)]) (st := []) C9 (by decide) ok_X6_byteAt li_X6_byteAt ls_X6_byteAt lm_X6_133 cls6 (sx_k40 hS) rfl rfl (Nat.le_of_ble_eq_true rfl) dX6_next_18) ?_
      have zm7 := C9.1.2.2 rfl
      have hS := hS.sh zm7
      refine Cv.go (pc' := 23) (go_bipush dX6_next_21 ib_10) ?_
      refine Cv.ite (fun h10 => ?_) (fun h10 => ?_)
      · refine Cv.go (pc' := 26) (go_icmp_ne_f 39 dX6_next_23 rfl h10) ?_
        exact c_X6_next_26 (F_X6_next_0 n) ih m7 hS
      · refine Cv.go (pc' := 39) (go_icmp_ne_t (tgt := 39) dX6_next_23 rfl h10) ?_
        refine Cv.go (pc' := 40) (go_aload_n (i := 0) (x := 40) dX6_next_39 rfl rfl) ?_
        refine Cv.go (pc' := 41) (go_aload_n (i := 0) (x := 40) dX6_next_40 rfl rfl) ?_
        refine Cv.go (pc' := 44) (go_getI (i := 19) cls6 (sx_k40 hS) (by decide) rfl lf_X6_130 (by decide) dX6_next_41) ?_
        refine Cv.go (pc' := 47) (go_putI (i := 21) cls6 (sx_k40 hS) (by decide) rfl lf_X6_136 (by decide) rfl rfl rfl dX6_next_44) ?_
        refine Cv.namM fun m11 em11 => ?_
        have zm11 : SameSh m7 m11 := em11 ▸ SameSh.d
        have hS := hS.sh zm11
        refine Cv.go (pc' := 48) (go_aload_n (i := 0) (x := 40) dX6_next_47 rfl rfl) ?_
        refine Cv.go (pc' := 49) (go_aload_n (i := 0) (x := 40) dX6_next_48 rfl rfl) ?_
        refine Cv.go (pc' := 52) (go_getI (i := 19) cls6 (sx_k40 hS) (by decide) rfl lf_X6_130 (by decide) dX6_next_49) ?_
        refine Cv.bnd fun v12 m13 e14 => ?_
        have C15 := kc_X6_byteAt m11 (mD m11 40 19) hS v12 m13 e14
        refine Cv.go (pc' := 55) (st' := [.int v12]) (go_callV (As := [.int (mD m11 40 19)]) (st := []) C15 (by decide) ok_X6_byteAt li_X6_byteAt ls_X6_byteAt lm_X6_133 cls6 (sx_k40 hS) rfl rfl (Nat.le_of_ble_eq_true rfl) dX6_next_52) ?_
        have zm13 := C15.1.2.2 rfl
        have hS := hS.sh zm13
        refine Cv.go (pc' := 56) (ls' := [.ref 40, .int v12, .null]) (go_istore_n dX6_next_55 rfl (by decide) rfl) ?_
        refine Cv.go (pc' := 57) (go_aload_n (i := 0) (x := 40) dX6_next_56 rfl rfl) ?_
        refine Cv.go (pc' := 58) (go_iconst dX6_next_57 ic_4) ?_
        refine Cv.go (pc' := 61) (go_putI (i := 20) cls6 (sx_k40 hS) (by decide) rfl lf_X6_139 (by decide) rfl rfl rfl dX6_next_58) ?_
        refine Cv.namM fun m16 em16 => ?_
        have zm16 : SameSh m13 m16 := em16 ▸ SameSh.d
        have hS := hS.sh zm16
        refine Cv.go (pc' := 62) (go_iload_n (i := 1) (x := v12) dX6_next_61 rfl rfl) ?_
        refine Cv.ite (fun h17 => ?_) (fun h17 => ?_)
        · refine Cv.go (pc' := 81) (go_if_ge_t (tgt := 81) dX6_next_62 rfl h17) ?_
          refine Cv.go (pc' := 82) (go_iload_n (i := 1) (x := v12) dX6_next_81 rfl rfl) ?_
          refine Cv.go (pc' := 83) (go_i2l dX6_next_82) ?_
          refine Cv.go (pc' := 86) (go_ldc2 dX6_next_83 ll_X6_142) ?_
          refine Cv.go (pc' := 89) (go_ldc2 dX6_next_86 ll_X6_144) ?_
          refine Cv.bnd fun v18 m19 e20 => ?_
          have C21 := kc_X6_in m16 v12.toInt64 (97 : Int64) (122 : Int64) v18 m19 e20
          refine Cv.go (pc' := 92) (st' := [.int (bz v18)]) (go_callS (As := [.long v12.toInt64, .long (97 : Int64), .long (122 : Int64)]) (st := []) C21 (by decide) ok_X6_in lt_X6_in lm_X6_67 rfl rfl (Nat.le_of_ble_eq_true rfl) dX6_next_89) ?_
          have zm19 := C21.1.2.2 rfl
          have hS := hS.sh zm19
          refine Cv.ite (fun h22 => ?_) (fun h22 => ?_)
          · refine Cv.go (pc' := 134) (go_if_eq_t (tgt := 134) dX6_next_92 rfl h22) ?_
            refine Cv.go (pc' := 135) (go_iload_n (i := 1) (x := v12) dX6_next_134 rfl rfl) ?_
            refine Cv.go (pc' := 136) (go_i2l dX6_next_135) ?_
            refine Cv.go (pc' := 139) (go_ldc2 dX6_next_136 ll_X6_146) ?_
            refine Cv.go (pc' := 142) (go_ldc2 dX6_next_139 ll_X6_148) ?_
            refine Cv.bnd fun v23 m24 e25 => ?_
            have C26 := kc_X6_in m19 v12.toInt64 (48 : Int64) (57 : Int64) v23 m24 e25
            refine Cv.go (pc' := 145) (st' := [.int (bz v23)]) (go_callS (As := [.long v12.toInt64, .long (48 : Int64), .long (57 : Int64)]) (st := []) C26 (by decide) ok_X6_in lt_X6_in lm_X6_67 rfl rfl (Nat.le_of_ble_eq_true rfl) dX6_next_142) ?_
            have zm24 := C26.1.2.2 rfl
            have hS := hS.sh zm24
            refine Cv.ite (fun h27 => ?_) (fun h27 => ?_)
            · refine Cv.go (pc' := 252) (go_if_eq_t (tgt := 252) dX6_next_145 rfl h27) ?_
              refine Cv.go (pc' := 253) (go_iload_n (i := 1) (x := v12) dX6_next_252 rfl rfl) ?_
              refine Cv.go (pc' := 255) (go_bipush dX6_next_253 ib_40) ?_
              refine Cv.ite (fun h28 => ?_) (fun h28 => ?_)
              · refine Cv.go (pc' := 300) (go_icmp_eq_t (tgt := 300) dX6_next_255 rfl h28) ?_
                exact c_X6_next_300 m24 v12 hS
              · refine Cv.go (pc' := 258) (go_icmp_eq_f 300 dX6_next_255 rfl h28) ?_
                refine Cv.go (pc' := 259) (go_iload_n (i := 1) (x := v12) dX6_next_258 rfl rfl) ?_
                refine Cv.go (pc' := 261) (go_bipush dX6_next_259 ib_41) ?_
                refine Cv.ite (fun h29 => ?_) (fun h29 => ?_)
                · refine Cv.go (pc' := 300) (go_icmp_eq_t (tgt := 300) dX6_next_261 rfl h29) ?_
                  exact c_X6_next_300 m24 v12 hS
                · refine Cv.go (pc' := 264) (go_icmp_eq_f 300 dX6_next_261 rfl h29) ?_
                  refine Cv.go (pc' := 265) (go_iload_n (i := 1) (x := v12) dX6_next_264 rfl rfl) ?_
                  refine Cv.go (pc' := 267) (go_bipush dX6_next_265 ib_59) ?_
                  refine Cv.ite (fun h30 => ?_) (fun h30 => ?_)
                  · refine Cv.go (pc' := 300) (go_icmp_eq_t (tgt := 300) dX6_next_267 rfl h30) ?_
                    exact c_X6_next_300 m24 v12 hS
                  · refine Cv.go (pc' := 270) (go_icmp_eq_f 300 dX6_next_267 rfl h30) ?_
                    refine Cv.go (pc' := 271) (go_iload_n (i := 1) (x := v12) dX6_next_270 rfl rfl) ?_
                    refine Cv.go (pc' := 273) (go_bipush dX6_next_271 ib_43) ?_
                    refine Cv.ite (fun h31 => ?_) (fun h31 => ?_)
                    · refine Cv.go (pc' := 300) (go_icmp_eq_t (tgt := 300) dX6_next_273 rfl h31) ?_
                      exact c_X6_next_300 m24 v12 hS
                    · refine Cv.go (pc' := 276) (go_icmp_eq_f 300 dX6_next_273 rfl h31) ?_
                      refine Cv.go (pc' := 277) (go_iload_n (i := 1) (x := v12) dX6_next_276 rfl rfl) ?_
                      refine Cv.go (pc' := 279) (go_bipush dX6_next_277 ib_45) ?_
                      refine Cv.ite (fun h32 => ?_) (fun h32 => ?_)
                      · refine Cv.go (pc' := 300) (go_icmp_eq_t (tgt := 300) dX6_next_279 rfl h32) ?_
                        exact c_X6_next_300 m24 v12 hS
                      · refine Cv.go (pc' := 282) (go_icmp_eq_f 300 dX6_next_279 rfl h32) ?_
                        refine Cv.go (pc' := 283) (go_iload_n (i := 1) (x := v12) dX6_next_282 rfl rfl) ?_
                        refine Cv.go (pc' := 285) (go_bipush dX6_next_283 ib_42) ?_
                        refine Cv.ite (fun h33 => ?_) (fun h33 => ?_)
                        · refine Cv.go (pc' := 300) (go_icmp_eq_t (tgt := 300) dX6_next_285 rfl h33) ?_
                          exact c_X6_next_300 m24 v12 hS
                        · refine Cv.go (pc' := 288) (go_icmp_eq_f 300 dX6_next_285 rfl h33) ?_
                          refine Cv.go (pc' := 289) (go_iload_n (i := 1) (x := v12) dX6_next_288 rfl rfl) ?_
                          refine Cv.go (pc' := 291) (go_bipush dX6_next_289 ib_60) ?_
                          refine Cv.ite (fun h34 => ?_) (fun h34 => ?_)
                          · refine Cv.go (pc' := 300) (go_icmp_eq_t (tgt := 300) dX6_next_291 rfl h34) ?_
                            exact c_X6_next_300 m24 v12 hS
                          · refine Cv.go (pc' := 294) (go_icmp_eq_f 300 dX6_next_291 rfl h34) ?_
                            refine Cv.go (pc' := 295) (go_iload_n (i := 1) (x := v12) dX6_next_294 rfl rfl) ?_
                            refine Cv.go (pc' := 297) (go_bipush dX6_next_295 ib_61) ?_
                            refine Cv.ite (fun h35 => ?_) (fun h35 => ?_)
                            · refine Cv.go (pc' := 300) (go_icmp_ne_f 321 dX6_next_297 rfl h35) ?_
                              exact c_X6_next_300 m24 v12 hS
                            · refine Cv.go (pc' := 321) (go_icmp_ne_t (tgt := 321) dX6_next_297 rfl h35) ?_
                              exact Cv.ret dX6_next_321 rfl
            · refine Cv.go (pc' := 148) (go_if_eq_f 252 dX6_next_145 rfl h27) ?_
              refine Cv.go (pc' := 149) (go_aload_n (i := 0) (x := 40) dX6_next_148 rfl rfl) ?_
              refine Cv.go (pc' := 150) (go_iconst dX6_next_149 ic_2) ?_
              refine Cv.go (pc' := 153) (go_putI (i := 20) cls6 (sx_k40 hS) (by decide) rfl lf_X6_139 (by decide) rfl rfl rfl dX6_next_150) ?_
              refine Cv.namM fun m36 em36 => ?_
              have zm36 : SameSh m24 m36 := em36 ▸ SameSh.d
              have hS := hS.sh zm36
              refine Cv.go (pc' := 154) (go_aload_n (i := 0) (x := 40) dX6_next_153 rfl rfl) ?_
              refine Cv.go (pc' := 155) (go_lconst (v := 0) dX6_next_154 (by decide)) ?_
              refine Cv.go (pc' := 158) (go_putL (i := 22) cls6 (sx_k40 hS) (by decide) rfl lf_X6_150 rfl rfl dX6_next_155) ?_
              refine Cv.namM fun m37 em37 => ?_
              have zm37 : SameSh m36 m37 := em37 ▸ SameSh.l
              have hS := hS.sh zm37
              refine Cv.go (pc' := 159) (go_iconst dX6_next_158 ic_0) ?_
              refine Cv.go (pc' := 160) (ls' := [.ref 40, .int v12, .int (0 : Int32)]) (go_istore_n dX6_next_159 rfl (by decide) rfl) ?_
              refine Cv.weak (ls' := [.ref 40, .null, .int (0 : Int32)]) (⟨Or.inr rfl, ⟨Or.inl rfl, ⟨Or.inr rfl, True.intro⟩⟩⟩) ?_
              exact c_X6_next_160 FU m37 (0 : Int32) hS
          · refine Cv.go (pc' := 95) (go_if_eq_f 134 dX6_next_92 rfl h22) ?_
            refine Cv.go (pc' := 96) (go_aload_n (i := 0) (x := 40) dX6_next_95 rfl rfl) ?_
            refine Cv.go (pc' := 97) (go_iconst dX6_next_96 ic_1) ?_
            refine Cv.go (pc' := 100) (go_putI (i := 20) cls6 (sx_k40 hS) (by decide) rfl lf_X6_139 (by decide) rfl rfl rfl dX6_next_97) ?_
            refine Cv.namM fun m38 em38 => ?_
            have zm38 : SameSh m19 m38 := em38 ▸ SameSh.d
            have hS := hS.sh zm38
            refine Cv.weak (ls' := [.ref 40, .null, .null]) (⟨Or.inr rfl, ⟨Or.inl rfl, ⟨Or.inr rfl, True.intro⟩⟩⟩) ?_
            exact c_X6_next_100 FU m38 hS
        · refine Cv.go (pc' := 65) (go_if_ge_f 81 dX6_next_62 rfl h17) ?_
          refine Cv.go (pc' := 66) (go_aload_n (i := 0) (x := 40) dX6_next_65 rfl rfl) ?_
          refine Cv.go (pc' := 67) (go_iconst dX6_next_66 ic_0) ?_
          refine Cv.go (pc' := 70) (go_putI (i := 20) cls6 (sx_k40 hS) (by decide) rfl lf_X6_139 (by decide) rfl rfl rfl dX6_next_67) ?_
          refine Cv.namM fun m39 em39 => ?_
          have zm39 : SameSh m16 m39 := em39 ▸ SameSh.d
          have hS := hS.sh zm39
          refine Cv.go (pc' := 71) (go_aload_n (i := 0) (x := 40) dX6_next_70 rfl rfl) ?_
          refine Cv.go (pc' := 72) (go_aload_n (i := 0) (x := 40) dX6_next_71 rfl rfl) ?_
          refine Cv.go (pc' := 75) (go_getI (i := 18) cls6 (sx_k40 hS) (by decide) rfl lf_X6_124 (by decide) dX6_next_72) ?_
          refine Cv.go (pc' := 78) (go_putI (i := 21) cls6 (sx_k40 hS) (by decide) rfl lf_X6_136 (by decide) rfl rfl rfl dX6_next_75) ?_
          refine Cv.namM fun m40 em40 => ?_
          have zm40 : SameSh m39 m40 := em40 ▸ SameSh.d
          have hS := hS.sh zm40
          refine Cv.go (pc' := 321) (go_goto (tgt := 321) dX6_next_78 rfl) ?_
          exact Cv.ret dX6_next_321 rfl
theorem kc_X6_next (m : Mem) (hS : ShM m) : ∀ v mE, F_X6_next m = some (v, mE) → Con true kX6_next 1 [.ref 40] m (eV v) mE := by
  refine Con.of (ini := false) (ls0 := [.ref 40, .null, .null]) (ri := .return_) (by decide) (by intro z; cases z) rfl (Nat.le_of_ble_eq_true rfl) (fun v mE _ => RetTy.v) ?_
  show Cv true (cX6_next, 3, RX6, 1, ((false, none) : IK)) .return_ eV (F_X6_next m) m 0 [.ref 40, .null, .null] []
  unfold F_X6_next
  exact c_X6_next_0 FU m hS
theorem kc_X6_isLetter (m : Mem) (a1 : Int32) (a2 : Int32) (hS : ShM m) : ∀ v mE, F_X6_isLetter m a1 a2 = some (v, mE) → Con true kX6_isLetter 1 [.ref 40, .int a1, .int a2] m (eZ v) mE := by
  refine Con.of (ini := false) (ls0 := [.ref 40, .int a1, .int a2]) (ri := .ireturn) (by decide) (by intro z; cases z) rfl (Nat.le_of_ble_eq_true rfl) (fun v mE _ => RetTy.z) ?_
  show Cv true (cX6_isLetter, 3, RX6, 1, ((false, none) : IK)) .ireturn eZ (F_X6_isLetter m a1 a2) m 0 [.ref 40, .int a1, .int a2] []
  unfold F_X6_isLetter
  refine Cv.go (pc' := 1) (go_aload_n (i := 0) (x := 40) dX6_isLetter_0 rfl rfl) ?_
  refine Cv.go (pc' := 4) (go_getI (i := 21) cls6 (sx_k40 hS) (by decide) rfl lf_X6_136 (by decide) dX6_isLetter_1) ?_
  refine Cv.go (pc' := 5) (go_iload_n (i := 1) (x := a1) dX6_isLetter_4 rfl rfl) ?_
  refine Cv.go (pc' := 6) (go_iadd dX6_isLetter_5) ?_
  refine Cv.go (pc' := 7) (go_aload_n (i := 0) (x := 40) dX6_isLetter_6 rfl rfl) ?_
  refine Cv.go (pc' := 10) (go_getI (i := 19) cls6 (sx_k40 hS) (by decide) rfl lf_X6_130 (by decide) dX6_isLetter_7) ?_
  refine Cv.ite (fun h1 => ?_) (fun h1 => ?_)
  · refine Cv.go (pc' := 35) (go_icmp_ge_t (tgt := 35) dX6_isLetter_10 rfl h1) ?_
    refine Cv.go (pc' := 36) (go_iload_n (i := 2) (x := a2) dX6_isLetter_35 rfl rfl) ?_
    refine Cv.ite (fun h2 => ?_) (fun h2 => ?_)
    · refine Cv.go (pc' := 39) (go_if_ne_f 43 dX6_isLetter_36 rfl h2) ?_
      refine Cv.go (pc' := 40) (go_iconst dX6_isLetter_39 ic_1) ?_
      refine Cv.go (pc' := 44) (go_goto (tgt := 44) dX6_isLetter_40 rfl) ?_
      exact Cv.ret dX6_isLetter_44 rfl
    · refine Cv.go (pc' := 43) (go_if_ne_t (tgt := 43) dX6_isLetter_36 rfl h2) ?_
      refine Cv.go (pc' := 44) (go_iconst dX6_isLetter_43 ic_0) ?_
      exact Cv.ret dX6_isLetter_44 rfl
  · refine Cv.go (pc' := 13) (go_icmp_ge_f 35 dX6_isLetter_10 rfl h1) ?_
    refine Cv.go (pc' := 14) (go_aload_n (i := 0) (x := 40) dX6_isLetter_13 rfl rfl) ?_
    refine Cv.go (pc' := 15) (go_aload_n (i := 0) (x := 40) dX6_isLetter_14 rfl rfl) ?_
    refine Cv.go (pc' := 18) (go_getI (i := 21) cls6 (sx_k40 hS) (by decide) rfl lf_X6_136 (by decide) dX6_isLetter_15) ?_
    refine Cv.go (pc' := 19) (go_iload_n (i := 1) (x := a1) dX6_isLetter_18 rfl rfl) ?_
    refine Cv.go (pc' := 20) (go_iadd dX6_isLetter_19) ?_
    refine Cv.bnd fun v3 m4 e5 => ?_
    have C6 := kc_X6_byteAt m ((mD m 40 21) + a1) hS v3 m4 e5
    refine Cv.go (pc' := 23) (st' := [.int v3]) (go_callV (As := [.int ((mD m 40 21) + a1)]) (st := []) C6 (by decide) ok_X6_byteAt li_X6_byteAt ls_X6_byteAt lm_X6_133 cls6 (sx_k40 hS) rfl rfl (Nat.le_of_ble_eq_true rfl) dX6_isLetter_20) ?_
    have zm4 := C6.1.2.2 rfl
    have hS := hS.sh zm4
    refine Cv.go (pc' := 24) (go_iload_n (i := 2) (x := a2) dX6_isLetter_23 rfl rfl) ?_
    refine Cv.ite (fun h7 => ?_) (fun h7 => ?_)
    · refine Cv.go (pc' := 27) (go_icmp_ne_f 31 dX6_isLetter_24 rfl h7) ?_
      refine Cv.go (pc' := 28) (go_iconst dX6_isLetter_27 ic_1) ?_
      refine Cv.go (pc' := 44) (go_goto (tgt := 44) dX6_isLetter_28 rfl) ?_
      exact Cv.ret dX6_isLetter_44 rfl
    · refine Cv.go (pc' := 31) (go_icmp_ne_t (tgt := 31) dX6_isLetter_24 rfl h7) ?_
      refine Cv.go (pc' := 32) (go_iconst dX6_isLetter_31 ic_0) ?_
      refine Cv.go (pc' := 44) (go_goto (tgt := 44) dX6_isLetter_32 rfl) ?_
      exact Cv.ret dX6_isLetter_44 rfl
theorem kc_X6_isWord (m : Mem) (a1 : Int32) (a2 : Int32) (a3 : Int32) (a4 : Int32) (a5 : Int32) (a6 : Int32) (a7 : Int32) (a8 : Int32) (hS : ShM m) : ∀ v mE, F_X6_isWord m a1 a2 a3 a4 a5 a6 a7 a8 = some (v, mE) → Con true kX6_isWord 2 [.ref 40, .int a1, .int a2, .int a3, .int a4, .int a5, .int a6, .int a7, .int a8] m (eZ v) mE := by
  refine Con.of (ini := false) (ls0 := [.ref 40, .int a1, .int a2, .int a3, .int a4, .int a5, .int a6, .int a7, .int a8]) (ri := .ireturn) (by decide) (by intro z; cases z) rfl (Nat.le_of_ble_eq_true rfl) (fun v mE _ => RetTy.z) ?_
  show Cv true (cX6_isWord, 9, RX6, 2, ((false, none) : IK)) .ireturn eZ (F_X6_isWord m a1 a2 a3 a4 a5 a6 a7 a8) m 0 [.ref 40, .int a1, .int a2, .int a3, .int a4, .int a5, .int a6, .int a7, .int a8] []
  unfold F_X6_isWord
  refine Cv.go (pc' := 1) (go_aload_n (i := 0) (x := 40) dX6_isWord_0 rfl rfl) ?_
  refine Cv.go (pc' := 4) (go_getI (i := 24) cls6 (sx_k40 hS) (by decide) rfl lf_X6_156 (by decide) dX6_isWord_1) ?_
  refine Cv.ite (fun h1 => ?_) (fun h1 => ?_)
  · refine Cv.go (pc' := 7) (go_if_ne_f 112 dX6_isWord_4 rfl h1) ?_
    refine Cv.go (pc' := 8) (go_aload_n (i := 0) (x := 40) dX6_isWord_7 rfl rfl) ?_
    refine Cv.go (pc' := 11) (go_getI (i := 20) cls6 (sx_k40 hS) (by decide) rfl lf_X6_139 (by decide) dX6_isWord_8) ?_
    refine Cv.go (pc' := 12) (go_iconst dX6_isWord_11 ic_1) ?_
    refine Cv.ite (fun h2 => ?_) (fun h2 => ?_)
    · refine Cv.go (pc' := 15) (go_icmp_ne_f 112 dX6_isWord_12 rfl h2) ?_
      refine Cv.go (pc' := 16) (go_aload_n (i := 0) (x := 40) dX6_isWord_15 rfl rfl) ?_
      refine Cv.go (pc' := 19) (go_getI (i := 19) cls6 (sx_k40 hS) (by decide) rfl lf_X6_130 (by decide) dX6_isWord_16) ?_
      refine Cv.go (pc' := 20) (go_aload_n (i := 0) (x := 40) dX6_isWord_19 rfl rfl) ?_
      refine Cv.go (pc' := 23) (go_getI (i := 21) cls6 (sx_k40 hS) (by decide) rfl lf_X6_136 (by decide) dX6_isWord_20) ?_
      refine Cv.go (pc' := 25) (go_bipush dX6_isWord_23 ib_8) ?_
      refine Cv.go (pc' := 26) (go_iadd dX6_isWord_25) ?_
      refine Cv.ite (fun h3 => ?_) (fun h3 => ?_)
      · refine Cv.go (pc' := 112) (go_icmp_gt_t (tgt := 112) dX6_isWord_26 rfl h3) ?_
        refine Cv.go (pc' := 113) (go_iconst dX6_isWord_112 ic_0) ?_
        exact Cv.ret dX6_isWord_113 rfl
      · refine Cv.go (pc' := 29) (go_icmp_gt_f 112 dX6_isWord_26 rfl h3) ?_
        refine Cv.go (pc' := 30) (go_aload_n (i := 0) (x := 40) dX6_isWord_29 rfl rfl) ?_
        refine Cv.go (pc' := 31) (go_iconst dX6_isWord_30 ic_0) ?_
        refine Cv.go (pc' := 32) (go_iload_n (i := 1) (x := a1) dX6_isWord_31 rfl rfl) ?_
        refine Cv.bnd fun v4 m5 e6 => ?_
        have C7 := kc_X6_isLetter m (0 : Int32) a1 hS v4 m5 e6
        refine Cv.go (pc' := 35) (st' := [.int (bz v4)]) (go_callV (As := [.int (0 : Int32), .int a1]) (st := []) C7 (by decide) ok_X6_isLetter li_X6_isLetter ls_X6_isLetter lm_X6_163 cls6 (sx_k40 hS) rfl rfl (Nat.le_of_ble_eq_true rfl) dX6_isWord_32) ?_
        have zm5 := C7.1.2.2 rfl
        have hS := hS.sh zm5
        refine Cv.ite (fun h8 => ?_) (fun h8 => ?_)
        · refine Cv.go (pc' := 112) (go_if_eq_t (tgt := 112) dX6_isWord_35 rfl h8) ?_
          refine Cv.go (pc' := 113) (go_iconst dX6_isWord_112 ic_0) ?_
          exact Cv.ret dX6_isWord_113 rfl
        · refine Cv.go (pc' := 38) (go_if_eq_f 112 dX6_isWord_35 rfl h8) ?_
          refine Cv.go (pc' := 39) (go_aload_n (i := 0) (x := 40) dX6_isWord_38 rfl rfl) ?_
          refine Cv.go (pc' := 40) (go_iconst dX6_isWord_39 ic_1) ?_
          refine Cv.go (pc' := 41) (go_iload_n (i := 2) (x := a2) dX6_isWord_40 rfl rfl) ?_
          refine Cv.bnd fun v9 m10 e11 => ?_
          have C12 := kc_X6_isLetter m5 (1 : Int32) a2 hS v9 m10 e11
          refine Cv.go (pc' := 44) (st' := [.int (bz v9)]) (go_callV (As := [.int (1 : Int32), .int a2]) (st := []) C12 (by decide) ok_X6_isLetter li_X6_isLetter ls_X6_isLetter lm_X6_163 cls6 (sx_k40 hS) rfl rfl (Nat.le_of_ble_eq_true rfl) dX6_isWord_41) ?_
          have zm10 := C12.1.2.2 rfl
          have hS := hS.sh zm10
          refine Cv.ite (fun h13 => ?_) (fun h13 => ?_)
          · refine Cv.go (pc' := 112) (go_if_eq_t (tgt := 112) dX6_isWord_44 rfl h13) ?_
            refine Cv.go (pc' := 113) (go_iconst dX6_isWord_112 ic_0) ?_
            exact Cv.ret dX6_isWord_113 rfl
          · refine Cv.go (pc' := 47) (go_if_eq_f 112 dX6_isWord_44 rfl h13) ?_
            refine Cv.go (pc' := 48) (go_aload_n (i := 0) (x := 40) dX6_isWord_47 rfl rfl) ?_
            refine Cv.go (pc' := 49) (go_iconst dX6_isWord_48 ic_2) ?_
            refine Cv.go (pc' := 50) (go_iload_n (i := 3) (x := a3) dX6_isWord_49 rfl rfl) ?_
            refine Cv.bnd fun v14 m15 e16 => ?_
            have C17 := kc_X6_isLetter m10 (2 : Int32) a3 hS v14 m15 e16
            refine Cv.go (pc' := 53) (st' := [.int (bz v14)]) (go_callV (As := [.int (2 : Int32), .int a3]) (st := []) C17 (by decide) ok_X6_isLetter li_X6_isLetter ls_X6_isLetter lm_X6_163 cls6 (sx_k40 hS) rfl rfl (Nat.le_of_ble_eq_true rfl) dX6_isWord_50) ?_
            have zm15 := C17.1.2.2 rfl
            have hS := hS.sh zm15
            refine Cv.ite (fun h18 => ?_) (fun h18 => ?_)
            · refine Cv.go (pc' := 112) (go_if_eq_t (tgt := 112) dX6_isWord_53 rfl h18) ?_
              refine Cv.go (pc' := 113) (go_iconst dX6_isWord_112 ic_0) ?_
              exact Cv.ret dX6_isWord_113 rfl
            · refine Cv.go (pc' := 56) (go_if_eq_f 112 dX6_isWord_53 rfl h18) ?_
              refine Cv.go (pc' := 57) (go_aload_n (i := 0) (x := 40) dX6_isWord_56 rfl rfl) ?_
              refine Cv.go (pc' := 58) (go_iconst dX6_isWord_57 ic_3) ?_
              refine Cv.go (pc' := 60) (go_iload (i := 4) (x := a4) dX6_isWord_58 rfl) ?_
              refine Cv.bnd fun v19 m20 e21 => ?_
              have C22 := kc_X6_isLetter m15 (3 : Int32) a4 hS v19 m20 e21
              refine Cv.go (pc' := 63) (st' := [.int (bz v19)]) (go_callV (As := [.int (3 : Int32), .int a4]) (st := []) C22 (by decide) ok_X6_isLetter li_X6_isLetter ls_X6_isLetter lm_X6_163 cls6 (sx_k40 hS) rfl rfl (Nat.le_of_ble_eq_true rfl) dX6_isWord_60) ?_
              have zm20 := C22.1.2.2 rfl
              have hS := hS.sh zm20
              refine Cv.ite (fun h23 => ?_) (fun h23 => ?_)
              · refine Cv.go (pc' := 112) (go_if_eq_t (tgt := 112) dX6_isWord_63 rfl h23) ?_
                refine Cv.go (pc' := 113) (go_iconst dX6_isWord_112 ic_0) ?_
                exact Cv.ret dX6_isWord_113 rfl
              · refine Cv.go (pc' := 66) (go_if_eq_f 112 dX6_isWord_63 rfl h23) ?_
                refine Cv.go (pc' := 67) (go_aload_n (i := 0) (x := 40) dX6_isWord_66 rfl rfl) ?_
                refine Cv.go (pc' := 68) (go_iconst dX6_isWord_67 ic_4) ?_
                refine Cv.go (pc' := 70) (go_iload (i := 5) (x := a5) dX6_isWord_68 rfl) ?_
                refine Cv.bnd fun v24 m25 e26 => ?_
                have C27 := kc_X6_isLetter m20 (4 : Int32) a5 hS v24 m25 e26
                refine Cv.go (pc' := 73) (st' := [.int (bz v24)]) (go_callV (As := [.int (4 : Int32), .int a5]) (st := []) C27 (by decide) ok_X6_isLetter li_X6_isLetter ls_X6_isLetter lm_X6_163 cls6 (sx_k40 hS) rfl rfl (Nat.le_of_ble_eq_true rfl) dX6_isWord_70) ?_
                have zm25 := C27.1.2.2 rfl
                have hS := hS.sh zm25
                refine Cv.ite (fun h28 => ?_) (fun h28 => ?_)
                · refine Cv.go (pc' := 112) (go_if_eq_t (tgt := 112) dX6_isWord_73 rfl h28) ?_
                  refine Cv.go (pc' := 113) (go_iconst dX6_isWord_112 ic_0) ?_
                  exact Cv.ret dX6_isWord_113 rfl
                · refine Cv.go (pc' := 76) (go_if_eq_f 112 dX6_isWord_73 rfl h28) ?_
                  refine Cv.go (pc' := 77) (go_aload_n (i := 0) (x := 40) dX6_isWord_76 rfl rfl) ?_
                  refine Cv.go (pc' := 78) (go_iconst dX6_isWord_77 ic_5) ?_
                  refine Cv.go (pc' := 80) (go_iload (i := 6) (x := a6) dX6_isWord_78 rfl) ?_
                  refine Cv.bnd fun v29 m30 e31 => ?_
                  have C32 := kc_X6_isLetter m25 (5 : Int32) a6 hS v29 m30 e31
                  refine Cv.go (pc' := 83) (st' := [.int (bz v29)]) (go_callV (As := [.int (5 : Int32), .int a6]) (st := []) C32 (by decide) ok_X6_isLetter li_X6_isLetter ls_X6_isLetter lm_X6_163 cls6 (sx_k40 hS) rfl rfl (Nat.le_of_ble_eq_true rfl) dX6_isWord_80) ?_
                  have zm30 := C32.1.2.2 rfl
                  have hS := hS.sh zm30
                  refine Cv.ite (fun h33 => ?_) (fun h33 => ?_)
                  · refine Cv.go (pc' := 112) (go_if_eq_t (tgt := 112) dX6_isWord_83 rfl h33) ?_
                    refine Cv.go (pc' := 113) (go_iconst dX6_isWord_112 ic_0) ?_
                    exact Cv.ret dX6_isWord_113 rfl
                  · refine Cv.go (pc' := 86) (go_if_eq_f 112 dX6_isWord_83 rfl h33) ?_
                    refine Cv.go (pc' := 87) (go_aload_n (i := 0) (x := 40) dX6_isWord_86 rfl rfl) ?_
                    refine Cv.go (pc' := 89) (go_bipush dX6_isWord_87 ib_6) ?_
                    refine Cv.go (pc' := 91) (go_iload (i := 7) (x := a7) dX6_isWord_89 rfl) ?_
                    refine Cv.bnd fun v34 m35 e36 => ?_
                    have C37 := kc_X6_isLetter m30 (6 : Int32) a7 hS v34 m35 e36
                    refine Cv.go (pc' := 94) (st' := [.int (bz v34)]) (go_callV (As := [.int (6 : Int32), .int a7]) (st := []) C37 (by decide) ok_X6_isLetter li_X6_isLetter ls_X6_isLetter lm_X6_163 cls6 (sx_k40 hS) rfl rfl (Nat.le_of_ble_eq_true rfl) dX6_isWord_91) ?_
                    have zm35 := C37.1.2.2 rfl
                    have hS := hS.sh zm35
                    refine Cv.ite (fun h38 => ?_) (fun h38 => ?_)
                    · refine Cv.go (pc' := 112) (go_if_eq_t (tgt := 112) dX6_isWord_94 rfl h38) ?_
                      refine Cv.go (pc' := 113) (go_iconst dX6_isWord_112 ic_0) ?_
                      exact Cv.ret dX6_isWord_113 rfl
                    · refine Cv.go (pc' := 97) (go_if_eq_f 112 dX6_isWord_94 rfl h38) ?_
                      refine Cv.go (pc' := 98) (go_aload_n (i := 0) (x := 40) dX6_isWord_97 rfl rfl) ?_
                      refine Cv.go (pc' := 100) (go_bipush dX6_isWord_98 ib_7) ?_
                      refine Cv.go (pc' := 102) (go_iload (i := 8) (x := a8) dX6_isWord_100 rfl) ?_
                      refine Cv.bnd fun v39 m40 e41 => ?_
                      have C42 := kc_X6_isLetter m35 (7 : Int32) a8 hS v39 m40 e41
                      refine Cv.go (pc' := 105) (st' := [.int (bz v39)]) (go_callV (As := [.int (7 : Int32), .int a8]) (st := []) C42 (by decide) ok_X6_isLetter li_X6_isLetter ls_X6_isLetter lm_X6_163 cls6 (sx_k40 hS) rfl rfl (Nat.le_of_ble_eq_true rfl) dX6_isWord_102) ?_
                      have zm40 := C42.1.2.2 rfl
                      have hS := hS.sh zm40
                      refine Cv.ite (fun h43 => ?_) (fun h43 => ?_)
                      · refine Cv.go (pc' := 112) (go_if_eq_t (tgt := 112) dX6_isWord_105 rfl h43) ?_
                        refine Cv.go (pc' := 113) (go_iconst dX6_isWord_112 ic_0) ?_
                        exact Cv.ret dX6_isWord_113 rfl
                      · refine Cv.go (pc' := 108) (go_if_eq_f 112 dX6_isWord_105 rfl h43) ?_
                        refine Cv.go (pc' := 109) (go_iconst dX6_isWord_108 ic_1) ?_
                        refine Cv.go (pc' := 113) (go_goto (tgt := 113) dX6_isWord_109 rfl) ?_
                        exact Cv.ret dX6_isWord_113 rfl
    · refine Cv.go (pc' := 112) (go_icmp_ne_t (tgt := 112) dX6_isWord_12 rfl h2) ?_
      refine Cv.go (pc' := 113) (go_iconst dX6_isWord_112 ic_0) ?_
      exact Cv.ret dX6_isWord_113 rfl
  · refine Cv.go (pc' := 112) (go_if_ne_t (tgt := 112) dX6_isWord_4 rfl h1) ?_
    refine Cv.go (pc' := 113) (go_iconst dX6_isWord_112 ic_0) ?_
    exact Cv.ret dX6_isWord_113 rfl
theorem kc_X6_fail (m : Mem) (hS : ShM m) : ∀ v mE, F_X6_fail m = some (v, mE) → Con true kX6_fail 0 [.ref 40] m (eV v) mE := by
  refine Con.of (ini := false) (ls0 := [.ref 40]) (ri := .return_) (by decide) (by intro z; cases z) rfl (Nat.le_of_ble_eq_true rfl) (fun v mE _ => RetTy.v) ?_
  show Cv true (cX6_fail, 1, RX6, 0, ((false, none) : IK)) .return_ eV (F_X6_fail m) m 0 [.ref 40] []
  unfold F_X6_fail
  refine Cv.go (pc' := 1) (go_aload_n (i := 0) (x := 40) dX6_fail_0 rfl rfl) ?_
  refine Cv.go (pc' := 4) (go_getI (i := 24) cls6 (sx_k40 hS) (by decide) rfl lf_X6_156 (by decide) dX6_fail_1) ?_
  refine Cv.ite (fun h1 => ?_) (fun h1 => ?_)
  · refine Cv.go (pc' := 7) (go_if_ne_f 20 dX6_fail_4 rfl h1) ?_
    refine Cv.go (pc' := 8) (go_aload_n (i := 0) (x := 40) dX6_fail_7 rfl rfl) ?_
    refine Cv.go (pc' := 9) (go_iconst dX6_fail_8 ic_1) ?_
    refine Cv.go (pc' := 12) (go_putI (i := 24) cls6 (sx_k40 hS) (by decide) rfl lf_X6_156 (by decide) rfl rfl rfl dX6_fail_9) ?_
    refine Cv.namM fun m2 em2 => ?_
    have zm2 : SameSh m m2 := em2 ▸ SameSh.d
    have hS := hS.sh zm2
    refine Cv.go (pc' := 13) (go_aload_n (i := 0) (x := 40) dX6_fail_12 rfl rfl) ?_
    refine Cv.go (pc' := 14) (go_aload_n (i := 0) (x := 40) dX6_fail_13 rfl rfl) ?_
    refine Cv.go (pc' := 17) (go_getI (i := 21) cls6 (sx_k40 hS) (by decide) rfl lf_X6_136 (by decide) dX6_fail_14) ?_
    refine Cv.go (pc' := 20) (go_putI (i := 25) cls6 (sx_k40 hS) (by decide) rfl lf_X6_160 (by decide) rfl rfl rfl dX6_fail_17) ?_
    refine Cv.namM fun m3 em3 => ?_
    have zm3 : SameSh m2 m3 := em3 ▸ SameSh.d
    have hS := hS.sh zm3
    exact Cv.ret dX6_fail_20 rfl
  · refine Cv.go (pc' := 20) (go_if_ne_t (tgt := 20) dX6_fail_4 rfl h1) ?_
    exact Cv.ret dX6_fail_20 rfl
theorem kc_X6_isSign (m : Mem) (a1 : Int32) (hS : ShM m) : ∀ v mE, F_X6_isSign m a1 = some (v, mE) → Con true kX6_isSign 0 [.ref 40, .int a1] m (eZ v) mE := by
  refine Con.of (ini := false) (ls0 := [.ref 40, .int a1]) (ri := .ireturn) (by decide) (by intro z; cases z) rfl (Nat.le_of_ble_eq_true rfl) (fun v mE _ => RetTy.z) ?_
  show Cv true (cX6_isSign, 2, RX6, 0, ((false, none) : IK)) .ireturn eZ (F_X6_isSign m a1) m 0 [.ref 40, .int a1] []
  unfold F_X6_isSign
  refine Cv.go (pc' := 1) (go_aload_n (i := 0) (x := 40) dX6_isSign_0 rfl rfl) ?_
  refine Cv.go (pc' := 4) (go_getI (i := 24) cls6 (sx_k40 hS) (by decide) rfl lf_X6_156 (by decide) dX6_isSign_1) ?_
  refine Cv.ite (fun h1 => ?_) (fun h1 => ?_)
  · refine Cv.go (pc' := 7) (go_if_ne_f 29 dX6_isSign_4 rfl h1) ?_
    refine Cv.go (pc' := 8) (go_aload_n (i := 0) (x := 40) dX6_isSign_7 rfl rfl) ?_
    refine Cv.go (pc' := 11) (go_getI (i := 20) cls6 (sx_k40 hS) (by decide) rfl lf_X6_139 (by decide) dX6_isSign_8) ?_
    refine Cv.go (pc' := 12) (go_iconst dX6_isSign_11 ic_3) ?_
    refine Cv.ite (fun h2 => ?_) (fun h2 => ?_)
    · refine Cv.go (pc' := 15) (go_icmp_ne_f 29 dX6_isSign_12 rfl h2) ?_
      refine Cv.go (pc' := 16) (go_aload_n (i := 0) (x := 40) dX6_isSign_15 rfl rfl) ?_
      refine Cv.go (pc' := 19) (go_getL (i := 22) cls6 (sx_k40 hS) (by decide) rfl lf_X6_150 rfl dX6_isSign_16) ?_
      refine Cv.go (pc' := 20) (go_iload_n (i := 1) (x := a1) dX6_isSign_19 rfl rfl) ?_
      refine Cv.go (pc' := 21) (go_i2l dX6_isSign_20) ?_
      refine Cv.go (pc' := 22) (go_lcmp dX6_isSign_21) ?_
      refine Cv.ite (fun h3 => ?_) (fun h3 => ?_)
      · refine Cv.go (pc' := 25) (go_if_ne_f 29 dX6_isSign_22 rfl h3) ?_
        refine Cv.go (pc' := 26) (go_iconst dX6_isSign_25 ic_1) ?_
        refine Cv.go (pc' := 30) (go_goto (tgt := 30) dX6_isSign_26 rfl) ?_
        exact Cv.ret dX6_isSign_30 rfl
      · refine Cv.go (pc' := 29) (go_if_ne_t (tgt := 29) dX6_isSign_22 rfl h3) ?_
        refine Cv.go (pc' := 30) (go_iconst dX6_isSign_29 ic_0) ?_
        exact Cv.ret dX6_isSign_30 rfl
    · refine Cv.go (pc' := 29) (go_icmp_ne_t (tgt := 29) dX6_isSign_12 rfl h2) ?_
      refine Cv.go (pc' := 30) (go_iconst dX6_isSign_29 ic_0) ?_
      exact Cv.ret dX6_isSign_30 rfl
  · refine Cv.go (pc' := 29) (go_if_ne_t (tgt := 29) dX6_isSign_4 rfl h1) ?_
    refine Cv.go (pc' := 30) (go_iconst dX6_isSign_29 ic_0) ?_
    exact Cv.ret dX6_isSign_30 rfl
theorem kc_X6_opens (m : Mem) (hS : ShM m) : ∀ v mE, F_X6_opens m = some (v, mE) → Con true kX6_opens 2 [.ref 40] m (eZ v) mE := by
  refine Con.of (ini := false) (ls0 := [.ref 40]) (ri := .ireturn) (by decide) (by intro z; cases z) rfl (Nat.le_of_ble_eq_true rfl) (fun v mE _ => RetTy.z) ?_
  show Cv true (cX6_opens, 1, RX6, 2, ((false, none) : IK)) .ireturn eZ (F_X6_opens m) m 0 [.ref 40] []
  unfold F_X6_opens
  refine Cv.go (pc' := 1) (go_aload_n (i := 0) (x := 40) dX6_opens_0 rfl rfl) ?_
  refine Cv.go (pc' := 4) (go_getI (i := 23) cls6 (sx_k40 hS) (by decide) rfl lf_X6_167 (by decide) dX6_opens_1) ?_
  refine Cv.go (pc' := 5) (go_iconst dX6_opens_4 ic_5) ?_
  refine Cv.ite (fun h1 => ?_) (fun h1 => ?_)
  · refine Cv.go (pc' := 8) (go_icmp_ne_f 14 dX6_opens_5 rfl h1) ?_
    refine Cv.go (pc' := 9) (go_aload_n (i := 0) (x := 40) dX6_opens_8 rfl rfl) ?_
    refine Cv.bnd fun v7 m8 e9 => ?_
    have C10 := kc_X6_fail m hS v7 m8 e9
    refine Cv.go (pc' := 12) (st' := []) (go_callV (As := []) (st := []) C10 (by decide) ok_X6_fail li_X6_fail ls_X6_fail lm_X6_170 cls6 (sx_k40 hS) rfl rfl (Nat.le_of_ble_eq_true rfl) dX6_opens_9) ?_
    have zm8 := C10.1.2.2 rfl
    have hS := hS.sh zm8
    refine Cv.go (pc' := 13) (go_iconst dX6_opens_12 ic_0) ?_
    exact Cv.ret dX6_opens_13 rfl
  · refine Cv.go (pc' := 14) (go_icmp_ne_t (tgt := 14) dX6_opens_5 rfl h1) ?_
    refine Cv.go (pc' := 15) (go_aload_n (i := 0) (x := 40) dX6_opens_14 rfl rfl) ?_
    refine Cv.go (pc' := 16) (go_dup_a dX6_opens_15) ?_
    refine Cv.go (pc' := 19) (go_getI (i := 23) cls6 (sx_k40 hS) (by decide) rfl lf_X6_167 (by decide) dX6_opens_16) ?_
    refine Cv.go (pc' := 20) (go_iconst dX6_opens_19 ic_1) ?_
    refine Cv.go (pc' := 21) (go_iadd dX6_opens_20) ?_
    refine Cv.go (pc' := 24) (go_putI (i := 23) cls6 (sx_k40 hS) (by decide) rfl lf_X6_167 (by decide) rfl rfl rfl dX6_opens_21) ?_
    refine Cv.namM fun m2 em2 => ?_
    have zm2 : SameSh m m2 := em2 ▸ SameSh.d
    have hS := hS.sh zm2
    refine Cv.go (pc' := 25) (go_aload_n (i := 0) (x := 40) dX6_opens_24 rfl rfl) ?_
    refine Cv.bnd fun v3 m4 e5 => ?_
    have C6 := kc_X6_next m2 hS v3 m4 e5
    refine Cv.go (pc' := 28) (st' := []) (go_callV (As := []) (st := []) C6 (by decide) ok_X6_next li_X6_next ls_X6_next lm_X6_173 cls6 (sx_k40 hS) rfl rfl (Nat.le_of_ble_eq_true rfl) dX6_opens_25) ?_
    have zm4 := C6.1.2.2 rfl
    have hS := hS.sh zm4
    refine Cv.go (pc' := 29) (go_iconst dX6_opens_28 ic_1) ?_
    exact Cv.ret dX6_opens_29 rfl
theorem kc_X6_name (m : Mem) (hS : ShM m) : ∀ v mE, F_X6_name m = some (v, mE) → Con true kX6_name 3 [.ref 40] m (eI v) mE := by
  refine Con.of (ini := false) (ls0 := [.ref 40]) (ri := .ireturn) (by decide) (by intro z; cases z) rfl (Nat.le_of_ble_eq_true rfl) (fun v mE _ => RetTy.i) ?_
  show Cv true (cX6_name, 1, RX6, 3, ((false, none) : IK)) .ireturn eI (F_X6_name m) m 0 [.ref 40] []
  unfold F_X6_name
  refine Cv.go (pc' := 1) (go_aload_n (i := 0) (x := 40) dX6_name_0 rfl rfl) ?_
  refine Cv.go (pc' := 3) (go_bipush dX6_name_1 ib_118) ?_
  refine Cv.go (pc' := 5) (go_bipush dX6_name_3 ib_97) ?_
  refine Cv.go (pc' := 7) (go_bipush dX6_name_5 ib_108) ?_
  refine Cv.go (pc' := 9) (go_bipush dX6_name_7 ib_117) ?_
  refine Cv.go (pc' := 11) (go_bipush dX6_name_9 ib_101) ?_
  refine Cv.go (pc' := 12) (go_iconst dX6_name_11 ic_0) ?_
  refine Cv.go (pc' := 13) (go_iconst dX6_name_12 ic_0) ?_
  refine Cv.go (pc' := 14) (go_iconst dX6_name_13 ic_0) ?_
  refine Cv.bnd fun v1 m2 e3 => ?_
  have C4 := kc_X6_isWord m (118 : Int32) (97 : Int32) (108 : Int32) (117 : Int32) (101 : Int32) (0 : Int32) (0 : Int32) (0 : Int32) hS v1 m2 e3
  refine Cv.go (pc' := 17) (st' := [.int (bz v1)]) (go_callV (As := [.int (118 : Int32), .int (97 : Int32), .int (108 : Int32), .int (117 : Int32), .int (101 : Int32), .int (0 : Int32), .int (0 : Int32), .int (0 : Int32)]) (st := []) C4 (by decide) ok_X6_isWord li_X6_isWord ls_X6_isWord lm_X6_176 cls6 (sx_k40 hS) rfl rfl (Nat.le_of_ble_eq_true rfl) dX6_name_14) ?_
  have zm2 := C4.1.2.2 rfl
  have hS := hS.sh zm2
  refine Cv.ite (fun h5 => ?_) (fun h5 => ?_)
  · refine Cv.go (pc' := 25) (go_if_eq_t (tgt := 25) dX6_name_17 rfl h5) ?_
    refine Cv.go (pc' := 26) (go_aload_n (i := 0) (x := 40) dX6_name_25 rfl rfl) ?_
    refine Cv.go (pc' := 28) (go_bipush dX6_name_26 ib_102) ?_
    refine Cv.go (pc' := 30) (go_bipush dX6_name_28 ib_105) ?_
    refine Cv.go (pc' := 32) (go_bipush dX6_name_30 ib_114) ?_
    refine Cv.go (pc' := 34) (go_bipush dX6_name_32 ib_115) ?_
    refine Cv.go (pc' := 36) (go_bipush dX6_name_34 ib_116) ?_
    refine Cv.go (pc' := 37) (go_iconst dX6_name_36 ic_0) ?_
    refine Cv.go (pc' := 38) (go_iconst dX6_name_37 ic_0) ?_
    refine Cv.go (pc' := 39) (go_iconst dX6_name_38 ic_0) ?_
    refine Cv.bnd fun v6 m7 e8 => ?_
    have C9 := kc_X6_isWord m2 (102 : Int32) (105 : Int32) (114 : Int32) (115 : Int32) (116 : Int32) (0 : Int32) (0 : Int32) (0 : Int32) hS v6 m7 e8
    refine Cv.go (pc' := 42) (st' := [.int (bz v6)]) (go_callV (As := [.int (102 : Int32), .int (105 : Int32), .int (114 : Int32), .int (115 : Int32), .int (116 : Int32), .int (0 : Int32), .int (0 : Int32), .int (0 : Int32)]) (st := []) C9 (by decide) ok_X6_isWord li_X6_isWord ls_X6_isWord lm_X6_176 cls6 (sx_k40 hS) rfl rfl (Nat.le_of_ble_eq_true rfl) dX6_name_39) ?_
    have zm7 := C9.1.2.2 rfl
    have hS := hS.sh zm7
    refine Cv.ite (fun h10 => ?_) (fun h10 => ?_)
    · refine Cv.go (pc' := 50) (go_if_eq_t (tgt := 50) dX6_name_42 rfl h10) ?_
      refine Cv.go (pc' := 51) (go_aload_n (i := 0) (x := 40) dX6_name_50 rfl rfl) ?_
      refine Cv.go (pc' := 53) (go_bipush dX6_name_51 ib_110) ?_
      refine Cv.go (pc' := 55) (go_bipush dX6_name_53 ib_117) ?_
      refine Cv.go (pc' := 57) (go_bipush dX6_name_55 ib_109) ?_
      refine Cv.go (pc' := 59) (go_bipush dX6_name_57 ib_98) ?_
      refine Cv.go (pc' := 61) (go_bipush dX6_name_59 ib_101) ?_
      refine Cv.go (pc' := 63) (go_bipush dX6_name_61 ib_114) ?_
      refine Cv.go (pc' := 64) (go_iconst dX6_name_63 ic_0) ?_
      refine Cv.go (pc' := 65) (go_iconst dX6_name_64 ic_0) ?_
      refine Cv.bnd fun v11 m12 e13 => ?_
      have C14 := kc_X6_isWord m7 (110 : Int32) (117 : Int32) (109 : Int32) (98 : Int32) (101 : Int32) (114 : Int32) (0 : Int32) (0 : Int32) hS v11 m12 e13
      refine Cv.go (pc' := 68) (st' := [.int (bz v11)]) (go_callV (As := [.int (110 : Int32), .int (117 : Int32), .int (109 : Int32), .int (98 : Int32), .int (101 : Int32), .int (114 : Int32), .int (0 : Int32), .int (0 : Int32)]) (st := []) C14 (by decide) ok_X6_isWord li_X6_isWord ls_X6_isWord lm_X6_176 cls6 (sx_k40 hS) rfl rfl (Nat.le_of_ble_eq_true rfl) dX6_name_65) ?_
      have zm12 := C14.1.2.2 rfl
      have hS := hS.sh zm12
      refine Cv.ite (fun h15 => ?_) (fun h15 => ?_)
      · refine Cv.go (pc' := 76) (go_if_eq_t (tgt := 76) dX6_name_68 rfl h15) ?_
        refine Cv.go (pc' := 77) (go_aload_n (i := 0) (x := 40) dX6_name_76 rfl rfl) ?_
        refine Cv.go (pc' := 79) (go_bipush dX6_name_77 ib_97) ?_
        refine Cv.go (pc' := 81) (go_bipush dX6_name_79 ib_103) ?_
        refine Cv.go (pc' := 83) (go_bipush dX6_name_81 ib_101) ?_
        refine Cv.go (pc' := 84) (go_iconst dX6_name_83 ic_0) ?_
        refine Cv.go (pc' := 85) (go_iconst dX6_name_84 ic_0) ?_
        refine Cv.go (pc' := 86) (go_iconst dX6_name_85 ic_0) ?_
        refine Cv.go (pc' := 87) (go_iconst dX6_name_86 ic_0) ?_
        refine Cv.go (pc' := 88) (go_iconst dX6_name_87 ic_0) ?_
        refine Cv.bnd fun v16 m17 e18 => ?_
        have C19 := kc_X6_isWord m12 (97 : Int32) (103 : Int32) (101 : Int32) (0 : Int32) (0 : Int32) (0 : Int32) (0 : Int32) (0 : Int32) hS v16 m17 e18
        refine Cv.go (pc' := 91) (st' := [.int (bz v16)]) (go_callV (As := [.int (97 : Int32), .int (103 : Int32), .int (101 : Int32), .int (0 : Int32), .int (0 : Int32), .int (0 : Int32), .int (0 : Int32), .int (0 : Int32)]) (st := []) C19 (by decide) ok_X6_isWord li_X6_isWord ls_X6_isWord lm_X6_176 cls6 (sx_k40 hS) rfl rfl (Nat.le_of_ble_eq_true rfl) dX6_name_88) ?_
        have zm17 := C19.1.2.2 rfl
        have hS := hS.sh zm17
        refine Cv.ite (fun h20 => ?_) (fun h20 => ?_)
        · refine Cv.go (pc' := 99) (go_if_eq_t (tgt := 99) dX6_name_91 rfl h20) ?_
          refine Cv.go (pc' := 100) (go_aload_n (i := 0) (x := 40) dX6_name_99 rfl rfl) ?_
          refine Cv.go (pc' := 102) (go_bipush dX6_name_100 ib_111) ?_
          refine Cv.go (pc' := 104) (go_bipush dX6_name_102 ib_119) ?_
          refine Cv.go (pc' := 106) (go_bipush dX6_name_104 ib_110) ?_
          refine Cv.go (pc' := 108) (go_bipush dX6_name_106 ib_101) ?_
          refine Cv.go (pc' := 110) (go_bipush dX6_name_108 ib_114) ?_
          refine Cv.go (pc' := 111) (go_iconst dX6_name_110 ic_0) ?_
          refine Cv.go (pc' := 112) (go_iconst dX6_name_111 ic_0) ?_
          refine Cv.go (pc' := 113) (go_iconst dX6_name_112 ic_0) ?_
          refine Cv.bnd fun v21 m22 e23 => ?_
          have C24 := kc_X6_isWord m17 (111 : Int32) (119 : Int32) (110 : Int32) (101 : Int32) (114 : Int32) (0 : Int32) (0 : Int32) (0 : Int32) hS v21 m22 e23
          refine Cv.go (pc' := 116) (st' := [.int (bz v21)]) (go_callV (As := [.int (111 : Int32), .int (119 : Int32), .int (110 : Int32), .int (101 : Int32), .int (114 : Int32), .int (0 : Int32), .int (0 : Int32), .int (0 : Int32)]) (st := []) C24 (by decide) ok_X6_isWord li_X6_isWord ls_X6_isWord lm_X6_176 cls6 (sx_k40 hS) rfl rfl (Nat.le_of_ble_eq_true rfl) dX6_name_113) ?_
          have zm22 := C24.1.2.2 rfl
          have hS := hS.sh zm22
          refine Cv.ite (fun h25 => ?_) (fun h25 => ?_)
          · refine Cv.go (pc' := 124) (go_if_eq_t (tgt := 124) dX6_name_116 rfl h25) ?_
            refine Cv.go (pc' := 125) (go_aload_n (i := 0) (x := 40) dX6_name_124 rfl rfl) ?_
            refine Cv.go (pc' := 127) (go_bipush dX6_name_125 ib_100) ?_
            refine Cv.go (pc' := 129) (go_bipush dX6_name_127 ib_97) ?_
            refine Cv.go (pc' := 131) (go_bipush dX6_name_129 ib_121) ?_
            refine Cv.go (pc' := 132) (go_iconst dX6_name_131 ic_0) ?_
            refine Cv.go (pc' := 133) (go_iconst dX6_name_132 ic_0) ?_
            refine Cv.go (pc' := 134) (go_iconst dX6_name_133 ic_0) ?_
            refine Cv.go (pc' := 135) (go_iconst dX6_name_134 ic_0) ?_
            refine Cv.go (pc' := 136) (go_iconst dX6_name_135 ic_0) ?_
            refine Cv.bnd fun v26 m27 e28 => ?_
            have C29 := kc_X6_isWord m22 (100 : Int32) (97 : Int32) (121 : Int32) (0 : Int32) (0 : Int32) (0 : Int32) (0 : Int32) (0 : Int32) hS v26 m27 e28
            refine Cv.go (pc' := 139) (st' := [.int (bz v26)]) (go_callV (As := [.int (100 : Int32), .int (97 : Int32), .int (121 : Int32), .int (0 : Int32), .int (0 : Int32), .int (0 : Int32), .int (0 : Int32), .int (0 : Int32)]) (st := []) C29 (by decide) ok_X6_isWord li_X6_isWord ls_X6_isWord lm_X6_176 cls6 (sx_k40 hS) rfl rfl (Nat.le_of_ble_eq_true rfl) dX6_name_136) ?_
            have zm27 := C29.1.2.2 rfl
            have hS := hS.sh zm27
            refine Cv.ite (fun h30 => ?_) (fun h30 => ?_)
            · refine Cv.go (pc' := 147) (go_if_eq_t (tgt := 147) dX6_name_139 rfl h30) ?_
              refine Cv.go (pc' := 148) (go_aload_n (i := 0) (x := 40) dX6_name_147 rfl rfl) ?_
              refine Cv.bnd fun v31 m32 e33 => ?_
              have C34 := kc_X6_fail m27 hS v31 m32 e33
              refine Cv.go (pc' := 151) (st' := []) (go_callV (As := []) (st := []) C34 (by decide) ok_X6_fail li_X6_fail ls_X6_fail lm_X6_170 cls6 (sx_k40 hS) rfl rfl (Nat.le_of_ble_eq_true rfl) dX6_name_148) ?_
              have zm32 := C34.1.2.2 rfl
              have hS := hS.sh zm32
              refine Cv.go (pc' := 152) (go_iconst dX6_name_151 ic_0) ?_
              exact Cv.ret dX6_name_152 rfl
            · refine Cv.go (pc' := 142) (go_if_eq_f 147 dX6_name_139 rfl h30) ?_
              refine Cv.go (pc' := 143) (go_aload_n (i := 0) (x := 40) dX6_name_142 rfl rfl) ?_
              refine Cv.go (pc' := 146) (go_getI (i := 16) cls6 (sx_k40 hS) (by decide) rfl lf_X6_195 (by decide) dX6_name_143) ?_
              exact Cv.ret dX6_name_146 rfl
          · refine Cv.go (pc' := 119) (go_if_eq_f 124 dX6_name_116 rfl h25) ?_
            refine Cv.go (pc' := 120) (go_aload_n (i := 0) (x := 40) dX6_name_119 rfl rfl) ?_
            refine Cv.go (pc' := 123) (go_getI (i := 15) cls6 (sx_k40 hS) (by decide) rfl lf_X6_192 (by decide) dX6_name_120) ?_
            exact Cv.ret dX6_name_123 rfl
        · refine Cv.go (pc' := 94) (go_if_eq_f 99 dX6_name_91 rfl h20) ?_
          refine Cv.go (pc' := 95) (go_aload_n (i := 0) (x := 40) dX6_name_94 rfl rfl) ?_
          refine Cv.go (pc' := 98) (go_getI (i := 14) cls6 (sx_k40 hS) (by decide) rfl lf_X6_189 (by decide) dX6_name_95) ?_
          exact Cv.ret dX6_name_98 rfl
      · refine Cv.go (pc' := 71) (go_if_eq_f 76 dX6_name_68 rfl h15) ?_
        refine Cv.go (pc' := 72) (go_aload_n (i := 0) (x := 40) dX6_name_71 rfl rfl) ?_
        refine Cv.go (pc' := 75) (go_getI (i := 13) cls6 (sx_k40 hS) (by decide) rfl lf_X6_186 (by decide) dX6_name_72) ?_
        exact Cv.ret dX6_name_75 rfl
    · refine Cv.go (pc' := 45) (go_if_eq_f 50 dX6_name_42 rfl h10) ?_
      refine Cv.go (pc' := 46) (go_aload_n (i := 0) (x := 40) dX6_name_45 rfl rfl) ?_
      refine Cv.go (pc' := 49) (go_getI (i := 12) cls6 (sx_k40 hS) (by decide) rfl lf_X6_183 (by decide) dX6_name_46) ?_
      exact Cv.ret dX6_name_49 rfl
  · refine Cv.go (pc' := 20) (go_if_eq_f 25 dX6_name_17 rfl h5) ?_
    refine Cv.go (pc' := 21) (go_aload_n (i := 0) (x := 40) dX6_name_20 rfl rfl) ?_
    refine Cv.go (pc' := 24) (go_getI (i := 11) cls6 (sx_k40 hS) (by decide) rfl lf_X6_180 (by decide) dX6_name_21) ?_
    exact Cv.ret dX6_name_24 rfl
theorem c_X6_atom5_98 : ∀ (m : Mem) (a1 : Int32) (hS : ShM m), Cv true (cX6_atom5, 2, RX6, 4, ((false, none) : IK)) .ireturn eI (F_X6_atom5_98 m a1) m 98 [.ref 40, .int a1] [] := by
  intro m a1 hS
  unfold F_X6_atom5_98
  refine Cv.go (pc' := 99) (go_aload_n (i := 0) (x := 40) dX6_atom5_98 rfl rfl) ?_
  refine Cv.bnd fun v37 m38 e39 => ?_
  have C40 := kc_X6_fail m hS v37 m38 e39
  refine Cv.go (pc' := 102) (st' := []) (go_callV (As := []) (st := []) C40 (by decide) ok_X6_fail li_X6_fail ls_X6_fail lm_X6_170 cls6 (sx_k40 hS) rfl rfl (Nat.le_of_ble_eq_true rfl) dX6_atom5_99) ?_
  have zm38 := C40.1.2.2 rfl
  have hS := hS.sh zm38
  refine Cv.go (pc' := 103) (go_iload_n (i := 1) (x := a1) dX6_atom5_102 rfl rfl) ?_
  exact Cv.ret dX6_atom5_103 rfl
theorem c_X6_atom5_64 : ∀ (m : Mem) (a1 : Int32) (hS : ShM m), Cv true (cX6_atom5, 2, RX6, 4, ((false, none) : IK)) .ireturn eI (F_X6_atom5_64 m a1) m 64 [.ref 40, .int a1] [] := by
  intro m a1 hS
  unfold F_X6_atom5_64
  refine Cv.go (pc' := 65) (go_aload_n (i := 0) (x := 40) dX6_atom5_64 rfl rfl) ?_
  refine Cv.go (pc' := 68) (go_getI (i := 24) cls6 (sx_k40 hS) (by decide) rfl lf_X6_156 (by decide) dX6_atom5_65) ?_
  refine Cv.ite (fun h26 => ?_) (fun h26 => ?_)
  · refine Cv.go (pc' := 71) (go_if_ne_f 98 dX6_atom5_68 rfl h26) ?_
    refine Cv.go (pc' := 72) (go_aload_n (i := 0) (x := 40) dX6_atom5_71 rfl rfl) ?_
    refine Cv.go (pc' := 75) (go_getI (i := 20) cls6 (sx_k40 hS) (by decide) rfl lf_X6_139 (by decide) dX6_atom5_72) ?_
    refine Cv.go (pc' := 76) (go_iconst dX6_atom5_75 ic_1) ?_
    refine Cv.ite (fun h27 => ?_) (fun h27 => ?_)
    · refine Cv.go (pc' := 79) (go_icmp_ne_f 98 dX6_atom5_76 rfl h27) ?_
      refine Cv.go (pc' := 80) (go_aload_n (i := 0) (x := 40) dX6_atom5_79 rfl rfl) ?_
      refine Cv.bnd fun v28 m29 e30 => ?_
      have C31 := kc_X6_name m hS v28 m29 e30
      refine Cv.go (pc' := 83) (st' := [.int v28]) (go_callV (As := []) (st := []) C31 (by decide) ok_X6_name li_X6_name ls_X6_name lm_X6_205 cls6 (sx_k40 hS) rfl rfl (Nat.le_of_ble_eq_true rfl) dX6_atom5_80) ?_
      have zm29 := C31.1.2.2 rfl
      have hS := hS.sh zm29
      refine Cv.go (pc' := 84) (ls' := [.ref 40, .int v28]) (go_istore_n dX6_atom5_83 rfl (by decide) rfl) ?_
      refine Cv.go (pc' := 85) (go_aload_n (i := 0) (x := 40) dX6_atom5_84 rfl rfl) ?_
      refine Cv.go (pc' := 88) (go_getI (i := 24) cls6 (sx_k40 hS) (by decide) rfl lf_X6_156 (by decide) dX6_atom5_85) ?_
      refine Cv.ite (fun h32 => ?_) (fun h32 => ?_)
      · refine Cv.go (pc' := 91) (go_if_ne_f 102 dX6_atom5_88 rfl h32) ?_
        refine Cv.go (pc' := 92) (go_aload_n (i := 0) (x := 40) dX6_atom5_91 rfl rfl) ?_
        refine Cv.bnd fun v33 m34 e35 => ?_
        have C36 := kc_X6_next m29 hS v33 m34 e35
        refine Cv.go (pc' := 95) (st' := []) (go_callV (As := []) (st := []) C36 (by decide) ok_X6_next li_X6_next ls_X6_next lm_X6_173 cls6 (sx_k40 hS) rfl rfl (Nat.le_of_ble_eq_true rfl) dX6_atom5_92) ?_
        have zm34 := C36.1.2.2 rfl
        have hS := hS.sh zm34
        refine Cv.go (pc' := 102) (go_goto (tgt := 102) dX6_atom5_95 rfl) ?_
        refine Cv.go (pc' := 103) (go_iload_n (i := 1) (x := v28) dX6_atom5_102 rfl rfl) ?_
        exact Cv.ret dX6_atom5_103 rfl
      · refine Cv.go (pc' := 102) (go_if_ne_t (tgt := 102) dX6_atom5_88 rfl h32) ?_
        refine Cv.go (pc' := 103) (go_iload_n (i := 1) (x := v28) dX6_atom5_102 rfl rfl) ?_
        exact Cv.ret dX6_atom5_103 rfl
    · refine Cv.go (pc' := 98) (go_icmp_ne_t (tgt := 98) dX6_atom5_76 rfl h27) ?_
      exact c_X6_atom5_98 m a1 hS
  · refine Cv.go (pc' := 98) (go_if_ne_t (tgt := 98) dX6_atom5_68 rfl h26) ?_
    exact c_X6_atom5_98 m a1 hS
theorem kc_X6_atom5 (m : Mem) (hS : ShM m) : ∀ v mE, F_X6_atom5 m = some (v, mE) → Con true kX6_atom5 4 [.ref 40] m (eI v) mE := by
  refine Con.of (ini := false) (ls0 := [.ref 40, .null]) (ri := .ireturn) (by decide) (by intro z; cases z) rfl (Nat.le_of_ble_eq_true rfl) (fun v mE _ => RetTy.i) ?_
  show Cv true (cX6_atom5, 2, RX6, 4, ((false, none) : IK)) .ireturn eI (F_X6_atom5 m) m 0 [.ref 40, .null] []
  unfold F_X6_atom5
  refine Cv.go (pc' := 1) (go_iconst dX6_atom5_0 ic_0) ?_
  refine Cv.go (pc' := 2) (ls' := [.ref 40, .int (0 : Int32)]) (go_istore_n dX6_atom5_1 rfl (by decide) rfl) ?_
  refine Cv.go (pc' := 3) (go_aload_n (i := 0) (x := 40) dX6_atom5_2 rfl rfl) ?_
  refine Cv.go (pc' := 5) (go_bipush dX6_atom5_3 ib_45) ?_
  refine Cv.bnd fun v1 m2 e3 => ?_
  have C4 := kc_X6_isSign m (45 : Int32) hS v1 m2 e3
  refine Cv.go (pc' := 8) (st' := [.int (bz v1)]) (go_callV (As := [.int (45 : Int32)]) (st := []) C4 (by decide) ok_X6_isSign li_X6_isSign ls_X6_isSign lm_X6_198 cls6 (sx_k40 hS) rfl rfl (Nat.le_of_ble_eq_true rfl) dX6_atom5_5) ?_
  have zm2 := C4.1.2.2 rfl
  have hS := hS.sh zm2
  refine Cv.ite (fun h5 => ?_) (fun h5 => ?_)
  · refine Cv.go (pc' := 19) (go_if_eq_t (tgt := 19) dX6_atom5_8 rfl h5) ?_
    refine Cv.go (pc' := 20) (go_aload_n (i := 0) (x := 40) dX6_atom5_19 rfl rfl) ?_
    refine Cv.go (pc' := 22) (go_bipush dX6_atom5_20 ib_40) ?_
    refine Cv.bnd fun v6 m7 e8 => ?_
    have C9 := kc_X6_isSign m2 (40 : Int32) hS v6 m7 e8
    refine Cv.go (pc' := 25) (st' := [.int (bz v6)]) (go_callV (As := [.int (40 : Int32)]) (st := []) C9 (by decide) ok_X6_isSign li_X6_isSign ls_X6_isSign lm_X6_198 cls6 (sx_k40 hS) rfl rfl (Nat.le_of_ble_eq_true rfl) dX6_atom5_22) ?_
    have zm7 := C9.1.2.2 rfl
    have hS := hS.sh zm7
    refine Cv.ite (fun h10 => ?_) (fun h10 => ?_)
    · refine Cv.go (pc' := 36) (go_if_eq_t (tgt := 36) dX6_atom5_25 rfl h10) ?_
      refine Cv.go (pc' := 37) (go_aload_n (i := 0) (x := 40) dX6_atom5_36 rfl rfl) ?_
      refine Cv.go (pc' := 40) (go_getI (i := 24) cls6 (sx_k40 hS) (by decide) rfl lf_X6_156 (by decide) dX6_atom5_37) ?_
      refine Cv.ite (fun h11 => ?_) (fun h11 => ?_)
      · refine Cv.go (pc' := 43) (go_if_ne_f 64 dX6_atom5_40 rfl h11) ?_
        refine Cv.go (pc' := 44) (go_aload_n (i := 0) (x := 40) dX6_atom5_43 rfl rfl) ?_
        refine Cv.go (pc' := 47) (go_getI (i := 20) cls6 (sx_k40 hS) (by decide) rfl lf_X6_139 (by decide) dX6_atom5_44) ?_
        refine Cv.go (pc' := 48) (go_iconst dX6_atom5_47 ic_2) ?_
        refine Cv.ite (fun h12 => ?_) (fun h12 => ?_)
        · refine Cv.go (pc' := 51) (go_icmp_ne_f 64 dX6_atom5_48 rfl h12) ?_
          refine Cv.go (pc' := 52) (go_aload_n (i := 0) (x := 40) dX6_atom5_51 rfl rfl) ?_
          refine Cv.go (pc' := 55) (go_getL (i := 22) cls6 (sx_k40 hS) (by decide) rfl lf_X6_150 rfl dX6_atom5_52) ?_
          refine Cv.go (pc' := 56) (go_l2i dX6_atom5_55) ?_
          refine Cv.namI fun x13 ex13 => ?_
          refine Cv.go (pc' := 57) (ls' := [.ref 40, .int x13]) (go_istore_n dX6_atom5_56 rfl (by decide) rfl) ?_
          refine Cv.go (pc' := 58) (go_aload_n (i := 0) (x := 40) dX6_atom5_57 rfl rfl) ?_
          refine Cv.bnd fun v14 m15 e16 => ?_
          have C17 := kc_X6_next m7 hS v14 m15 e16
          refine Cv.go (pc' := 61) (st' := []) (go_callV (As := []) (st := []) C17 (by decide) ok_X6_next li_X6_next ls_X6_next lm_X6_173 cls6 (sx_k40 hS) rfl rfl (Nat.le_of_ble_eq_true rfl) dX6_atom5_58) ?_
          have zm15 := C17.1.2.2 rfl
          have hS := hS.sh zm15
          refine Cv.go (pc' := 102) (go_goto (tgt := 102) dX6_atom5_61 rfl) ?_
          refine Cv.go (pc' := 103) (go_iload_n (i := 1) (x := x13) dX6_atom5_102 rfl rfl) ?_
          exact Cv.ret dX6_atom5_103 rfl
        · refine Cv.go (pc' := 64) (go_icmp_ne_t (tgt := 64) dX6_atom5_48 rfl h12) ?_
          exact c_X6_atom5_64 m7 (0 : Int32) hS
      · refine Cv.go (pc' := 64) (go_if_ne_t (tgt := 64) dX6_atom5_40 rfl h11) ?_
        exact c_X6_atom5_64 m7 (0 : Int32) hS
    · refine Cv.go (pc' := 28) (go_if_eq_f 36 dX6_atom5_25 rfl h10) ?_
      refine Cv.go (pc' := 29) (go_aload_n (i := 0) (x := 40) dX6_atom5_28 rfl rfl) ?_
      refine Cv.bnd fun v18 m19 e20 => ?_
      have C21 := kc_X6_opens m7 hS v18 m19 e20
      refine Cv.go (pc' := 32) (st' := [.int (bz v18)]) (go_callV (As := []) (st := []) C21 (by decide) ok_X6_opens li_X6_opens ls_X6_opens lm_X6_201 cls6 (sx_k40 hS) rfl rfl (Nat.le_of_ble_eq_true rfl) dX6_atom5_29) ?_
      have zm19 := C21.1.2.2 rfl
      have hS := hS.sh zm19
      refine Cv.go (pc' := 33) (go_pop_i dX6_atom5_32) ?_
      refine Cv.go (pc' := 102) (go_goto (tgt := 102) dX6_atom5_33 rfl) ?_
      refine Cv.go (pc' := 103) (go_iload_n (i := 1) (x := (0 : Int32)) dX6_atom5_102 rfl rfl) ?_
      exact Cv.ret dX6_atom5_103 rfl
  · refine Cv.go (pc' := 11) (go_if_eq_f 19 dX6_atom5_8 rfl h5) ?_
    refine Cv.go (pc' := 12) (go_aload_n (i := 0) (x := 40) dX6_atom5_11 rfl rfl) ?_
    refine Cv.bnd fun v22 m23 e24 => ?_
    have C25 := kc_X6_opens m2 hS v22 m23 e24
    refine Cv.go (pc' := 15) (st' := [.int (bz v22)]) (go_callV (As := []) (st := []) C25 (by decide) ok_X6_opens li_X6_opens ls_X6_opens lm_X6_201 cls6 (sx_k40 hS) rfl rfl (Nat.le_of_ble_eq_true rfl) dX6_atom5_12) ?_
    have zm23 := C25.1.2.2 rfl
    have hS := hS.sh zm23
    refine Cv.go (pc' := 16) (go_pop_i dX6_atom5_15) ?_
    refine Cv.go (pc' := 102) (go_goto (tgt := 102) dX6_atom5_16 rfl) ?_
    refine Cv.go (pc' := 103) (go_iload_n (i := 1) (x := (0 : Int32)) dX6_atom5_102 rfl rfl) ?_
    exact Cv.ret dX6_atom5_103 rfl
theorem c_X6_term5_5 : ∀ n, ∀ (m : Mem) (a1 : Int32) (hS : ShM m), Cv true (cX6_term5, 2, RX6, 5, ((false, none) : IK)) .ireturn eI (F_X6_term5_5 n m a1) m 5 [.ref 40, .int a1] [] := by
  intro n
  induction n with
  | zero => intro m a1 hS; exact Cv.no
  | succ n ih =>
    intro m a1 hS
    unfold F_X6_term5_5
    refine Cv.go (pc' := 6) (go_aload_n (i := 0) (x := 40) dX6_term5_5 rfl rfl) ?_
    refine Cv.go (pc' := 8) (go_bipush dX6_term5_6 ib_42) ?_
    refine Cv.bnd fun v5 m6 e7 => ?_
    have C8 := kc_X6_isSign m (42 : Int32) hS v5 m6 e7
    refine Cv.go (pc' := 11) (st' := [.int (bz v5)]) (go_callV (As := [.int (42 : Int32)]) (st := []) C8 (by decide) ok_X6_isSign li_X6_isSign ls_X6_isSign lm_X6_198 cls6 (sx_k40 hS) rfl rfl (Nat.le_of_ble_eq_true rfl) dX6_term5_8) ?_
    have zm6 := C8.1.2.2 rfl
    have hS := hS.sh zm6
    refine Cv.ite (fun h9 => ?_) (fun h9 => ?_)
    · refine Cv.go (pc' := 28) (go_if_eq_t (tgt := 28) dX6_term5_11 rfl h9) ?_
      refine Cv.go (pc' := 29) (go_iload_n (i := 1) (x := a1) dX6_term5_28 rfl rfl) ?_
      exact Cv.ret dX6_term5_29 rfl
    · refine Cv.go (pc' := 14) (go_if_eq_f 28 dX6_term5_11 rfl h9) ?_
      refine Cv.go (pc' := 15) (go_aload_n (i := 0) (x := 40) dX6_term5_14 rfl rfl) ?_
      refine Cv.bnd fun v10 m11 e12 => ?_
      have C13 := kc_X6_next m6 hS v10 m11 e12
      refine Cv.go (pc' := 18) (st' := []) (go_callV (As := []) (st := []) C13 (by decide) ok_X6_next li_X6_next ls_X6_next lm_X6_173 cls6 (sx_k40 hS) rfl rfl (Nat.le_of_ble_eq_true rfl) dX6_term5_15) ?_
      have zm11 := C13.1.2.2 rfl
      have hS := hS.sh zm11
      refine Cv.go (pc' := 19) (go_iload_n (i := 1) (x := a1) dX6_term5_18 rfl rfl) ?_
      refine Cv.go (pc' := 20) (go_aload_n (i := 0) (x := 40) dX6_term5_19 rfl rfl) ?_
      refine Cv.bnd fun v14 m15 e16 => ?_
      have C17 := kc_X6_atom5 m11 hS v14 m15 e16
      refine Cv.go (pc' := 23) (st' := [.int v14, .int a1]) (go_callV (As := []) (st := [.int a1]) C17 (by decide) ok_X6_atom5 li_X6_atom5 ls_X6_atom5 lm_X6_209 cls6 (sx_k40 hS) rfl rfl (Nat.le_of_ble_eq_true rfl) dX6_term5_20) ?_
      have zm15 := C17.1.2.2 rfl
      have hS := hS.sh zm15
      refine Cv.go (pc' := 24) (go_imul dX6_term5_23) ?_
      refine Cv.namI fun x18 ex18 => ?_
      refine Cv.go (pc' := 25) (ls' := [.ref 40, .int x18]) (go_istore_n dX6_term5_24 rfl (by decide) rfl) ?_
      refine Cv.go (pc' := 5) (go_goto (tgt := 5) dX6_term5_25 rfl) ?_
      exact ih m15 x18 hS
theorem kc_X6_term5 (m : Mem) (hS : ShM m) : ∀ v mE, F_X6_term5 m = some (v, mE) → Con true kX6_term5 5 [.ref 40] m (eI v) mE := by
  refine Con.of (ini := false) (ls0 := [.ref 40, .null]) (ri := .ireturn) (by decide) (by intro z; cases z) rfl (Nat.le_of_ble_eq_true rfl) (fun v mE _ => RetTy.i) ?_
  show Cv true (cX6_term5, 2, RX6, 5, ((false, none) : IK)) .ireturn eI (F_X6_term5 m) m 0 [.ref 40, .null] []
  unfold F_X6_term5
  refine Cv.go (pc' := 1) (go_aload_n (i := 0) (x := 40) dX6_term5_0 rfl rfl) ?_
  refine Cv.bnd fun v1 m2 e3 => ?_
  have C4 := kc_X6_atom5 m hS v1 m2 e3
  refine Cv.go (pc' := 4) (st' := [.int v1]) (go_callV (As := []) (st := []) C4 (by decide) ok_X6_atom5 li_X6_atom5 ls_X6_atom5 lm_X6_209 cls6 (sx_k40 hS) rfl rfl (Nat.le_of_ble_eq_true rfl) dX6_term5_1) ?_
  have zm2 := C4.1.2.2 rfl
  have hS := hS.sh zm2
  refine Cv.go (pc' := 5) (ls' := [.ref 40, .int v1]) (go_istore_n dX6_term5_4 rfl (by decide) rfl) ?_
  exact c_X6_term5_5 FU m2 v1 hS
theorem c_X6_added5_62 (K5 : Mem → Int32 → Option (Int32 × Mem)) (hK5 : ∀ (m : Mem) (a1 : Int32) (hS : ShM m), Cv true (cX6_added5, 4, RX6, 6, ((false, none) : IK)) .ireturn eI (K5 m a1) m 5 [.ref 40, .int a1, .null, .null] []) : ∀ (m : Mem) (s0 : Int32) (hS : ShM m), Cv true (cX6_added5, 4, RX6, 6, ((false, none) : IK)) .ireturn eI (F_X6_added5_62 K5 m s0) m 62 [.ref 40, .null, .null, .null] [.int s0] := by
  intro m s0 hS
  unfold F_X6_added5_62
  refine Cv.go (pc' := 63) (ls' := [.ref 40, .int s0, .null, .null]) (go_istore_n dX6_added5_62 rfl (by decide) rfl) ?_
  refine Cv.go (pc' := 5) (go_goto (tgt := 5) dX6_added5_63 rfl) ?_
  exact hK5 m s0 hS
theorem c_X6_added5_39 (K5 : Mem → Int32 → Option (Int32 × Mem)) (hK5 : ∀ (m : Mem) (a1 : Int32) (hS : ShM m), Cv true (cX6_added5, 4, RX6, 6, ((false, none) : IK)) .ireturn eI (K5 m a1) m 5 [.ref 40, .int a1, .null, .null] []) : ∀ (m : Mem) (a1 : Int32) (s0 : Int32) (hS : ShM m), Cv true (cX6_added5, 4, RX6, 6, ((false, none) : IK)) .ireturn eI (F_X6_added5_39 K5 m a1 s0) m 39 [.ref 40, .int a1, .null, .null] [.int s0] := by
  intro m a1 s0 hS
  unfold F_X6_added5_39
  refine Cv.go (pc' := 40) (ls' := [.ref 40, .int a1, .int s0, .null]) (go_istore_n dX6_added5_39 rfl (by decide) rfl) ?_
  refine Cv.go (pc' := 41) (go_aload_n (i := 0) (x := 40) dX6_added5_40 rfl rfl) ?_
  refine Cv.bnd fun v16 m17 e18 => ?_
  have C19 := kc_X6_next m hS v16 m17 e18
  refine Cv.go (pc' := 44) (st' := []) (go_callV (As := []) (st := []) C19 (by decide) ok_X6_next li_X6_next ls_X6_next lm_X6_173 cls6 (sx_k40 hS) rfl rfl (Nat.le_of_ble_eq_true rfl) dX6_added5_41) ?_
  have zm17 := C19.1.2.2 rfl
  have hS := hS.sh zm17
  refine Cv.go (pc' := 45) (go_aload_n (i := 0) (x := 40) dX6_added5_44 rfl rfl) ?_
  refine Cv.bnd fun v20 m21 e22 => ?_
  have C23 := kc_X6_term5 m17 hS v20 m21 e22
  refine Cv.go (pc' := 48) (st' := [.int v20]) (go_callV (As := []) (st := []) C23 (by decide) ok_X6_term5 li_X6_term5 ls_X6_term5 lm_X6_212 cls6 (sx_k40 hS) rfl rfl (Nat.le_of_ble_eq_true rfl) dX6_added5_45) ?_
  have zm21 := C23.1.2.2 rfl
  have hS := hS.sh zm21
  refine Cv.go (pc' := 49) (ls' := [.ref 40, .int a1, .int s0, .int v20]) (go_istore_n dX6_added5_48 rfl (by decide) rfl) ?_
  refine Cv.go (pc' := 50) (go_iload_n (i := 2) (x := s0) dX6_added5_49 rfl rfl) ?_
  refine Cv.ite (fun h24 => ?_) (fun h24 => ?_)
  · refine Cv.go (pc' := 59) (go_if_eq_t (tgt := 59) dX6_added5_50 rfl h24) ?_
    refine Cv.go (pc' := 60) (go_iload_n (i := 1) (x := a1) dX6_added5_59 rfl rfl) ?_
    refine Cv.go (pc' := 61) (go_iload_n (i := 3) (x := v20) dX6_added5_60 rfl rfl) ?_
    refine Cv.go (pc' := 62) (go_isub dX6_added5_61) ?_
    refine Cv.weak (ls' := [.ref 40, .null, .null, .null]) (⟨Or.inr rfl, ⟨Or.inl rfl, ⟨Or.inl rfl, ⟨Or.inl rfl, True.intro⟩⟩⟩⟩) ?_
    exact c_X6_added5_62 K5 hK5 m21 (a1 - v20) hS
  · refine Cv.go (pc' := 53) (go_if_eq_f 59 dX6_added5_50 rfl h24) ?_
    refine Cv.go (pc' := 54) (go_iload_n (i := 1) (x := a1) dX6_added5_53 rfl rfl) ?_
    refine Cv.go (pc' := 55) (go_iload_n (i := 3) (x := v20) dX6_added5_54 rfl rfl) ?_
    refine Cv.go (pc' := 56) (go_iadd dX6_added5_55) ?_
    refine Cv.go (pc' := 62) (go_goto (tgt := 62) dX6_added5_56 rfl) ?_
    refine Cv.weak (ls' := [.ref 40, .null, .null, .null]) (⟨Or.inr rfl, ⟨Or.inl rfl, ⟨Or.inl rfl, ⟨Or.inl rfl, True.intro⟩⟩⟩⟩) ?_
    exact c_X6_added5_62 K5 hK5 m21 (a1 + v20) hS
theorem c_X6_added5_23 (K5 : Mem → Int32 → Option (Int32 × Mem)) (hK5 : ∀ (m : Mem) (a1 : Int32) (hS : ShM m), Cv true (cX6_added5, 4, RX6, 6, ((false, none) : IK)) .ireturn eI (K5 m a1) m 5 [.ref 40, .int a1, .null, .null] []) : ∀ (m : Mem) (a1 : Int32) (hS : ShM m), Cv true (cX6_added5, 4, RX6, 6, ((false, none) : IK)) .ireturn eI (F_X6_added5_23 K5 m a1) m 23 [.ref 40, .int a1, .null, .null] [] := by
  intro m a1 hS
  unfold F_X6_added5_23
  refine Cv.go (pc' := 24) (go_aload_n (i := 0) (x := 40) dX6_added5_23 rfl rfl) ?_
  refine Cv.go (pc' := 27) (go_getL (i := 22) cls6 (sx_k40 hS) (by decide) rfl lf_X6_150 rfl dX6_added5_24) ?_
  refine Cv.go (pc' := 30) (go_ldc2 dX6_added5_27 ll_X6_215) ?_
  refine Cv.go (pc' := 31) (go_lcmp dX6_added5_30) ?_
  refine Cv.ite (fun h15 => ?_) (fun h15 => ?_)
  · refine Cv.go (pc' := 34) (go_if_ne_f 38 dX6_added5_31 rfl h15) ?_
    refine Cv.go (pc' := 35) (go_iconst dX6_added5_34 ic_1) ?_
    refine Cv.go (pc' := 39) (go_goto (tgt := 39) dX6_added5_35 rfl) ?_
    exact c_X6_added5_39 K5 hK5 m a1 (1 : Int32) hS
  · refine Cv.go (pc' := 38) (go_if_ne_t (tgt := 38) dX6_added5_31 rfl h15) ?_
    refine Cv.go (pc' := 39) (go_iconst dX6_added5_38 ic_0) ?_
    exact c_X6_added5_39 K5 hK5 m a1 (0 : Int32) hS
theorem c_X6_added5_5 : ∀ n, ∀ (m : Mem) (a1 : Int32) (hS : ShM m), Cv true (cX6_added5, 4, RX6, 6, ((false, none) : IK)) .ireturn eI (F_X6_added5_5 n m a1) m 5 [.ref 40, .int a1, .null, .null] [] := by
  intro n
  induction n with
  | zero => intro m a1 hS; exact Cv.no
  | succ n ih =>
    intro m a1 hS
    unfold F_X6_added5_5
    refine Cv.go (pc' := 6) (go_aload_n (i := 0) (x := 40) dX6_added5_5 rfl rfl) ?_
    refine Cv.go (pc' := 8) (go_bipush dX6_added5_6 ib_43) ?_
    refine Cv.bnd fun v5 m6 e7 => ?_
    have C8 := kc_X6_isSign m (43 : Int32) hS v5 m6 e7
    refine Cv.go (pc' := 11) (st' := [.int (bz v5)]) (go_callV (As := [.int (43 : Int32)]) (st := []) C8 (by decide) ok_X6_isSign li_X6_isSign ls_X6_isSign lm_X6_198 cls6 (sx_k40 hS) rfl rfl (Nat.le_of_ble_eq_true rfl) dX6_added5_8) ?_
    have zm6 := C8.1.2.2 rfl
    have hS := hS.sh zm6
    refine Cv.ite (fun h9 => ?_) (fun h9 => ?_)
    · refine Cv.go (pc' := 14) (go_if_ne_f 23 dX6_added5_11 rfl h9) ?_
      refine Cv.go (pc' := 15) (go_aload_n (i := 0) (x := 40) dX6_added5_14 rfl rfl) ?_
      refine Cv.go (pc' := 17) (go_bipush dX6_added5_15 ib_45) ?_
      refine Cv.bnd fun v10 m11 e12 => ?_
      have C13 := kc_X6_isSign m6 (45 : Int32) hS v10 m11 e12
      refine Cv.go (pc' := 20) (st' := [.int (bz v10)]) (go_callV (As := [.int (45 : Int32)]) (st := []) C13 (by decide) ok_X6_isSign li_X6_isSign ls_X6_isSign lm_X6_198 cls6 (sx_k40 hS) rfl rfl (Nat.le_of_ble_eq_true rfl) dX6_added5_17) ?_
      have zm11 := C13.1.2.2 rfl
      have hS := hS.sh zm11
      refine Cv.ite (fun h14 => ?_) (fun h14 => ?_)
      · refine Cv.go (pc' := 66) (go_if_eq_t (tgt := 66) dX6_added5_20 rfl h14) ?_
        refine Cv.go (pc' := 67) (go_iload_n (i := 1) (x := a1) dX6_added5_66 rfl rfl) ?_
        exact Cv.ret dX6_added5_67 rfl
      · refine Cv.go (pc' := 23) (go_if_eq_f 66 dX6_added5_20 rfl h14) ?_
        exact c_X6_added5_23 (F_X6_added5_5 n) ih m11 a1 hS
    · refine Cv.go (pc' := 23) (go_if_ne_t (tgt := 23) dX6_added5_11 rfl h9) ?_
      exact c_X6_added5_23 (F_X6_added5_5 n) ih m6 a1 hS
theorem kc_X6_added5 (m : Mem) (hS : ShM m) : ∀ v mE, F_X6_added5 m = some (v, mE) → Con true kX6_added5 6 [.ref 40] m (eI v) mE := by
  refine Con.of (ini := false) (ls0 := [.ref 40, .null, .null, .null]) (ri := .ireturn) (by decide) (by intro z; cases z) rfl (Nat.le_of_ble_eq_true rfl) (fun v mE _ => RetTy.i) ?_
  show Cv true (cX6_added5, 4, RX6, 6, ((false, none) : IK)) .ireturn eI (F_X6_added5 m) m 0 [.ref 40, .null, .null, .null] []
  unfold F_X6_added5
  refine Cv.go (pc' := 1) (go_aload_n (i := 0) (x := 40) dX6_added5_0 rfl rfl) ?_
  refine Cv.bnd fun v1 m2 e3 => ?_
  have C4 := kc_X6_term5 m hS v1 m2 e3
  refine Cv.go (pc' := 4) (st' := [.int v1]) (go_callV (As := []) (st := []) C4 (by decide) ok_X6_term5 li_X6_term5 ls_X6_term5 lm_X6_212 cls6 (sx_k40 hS) rfl rfl (Nat.le_of_ble_eq_true rfl) dX6_added5_1) ?_
  have zm2 := C4.1.2.2 rfl
  have hS := hS.sh zm2
  refine Cv.go (pc' := 5) (ls' := [.ref 40, .int v1, .null, .null]) (go_istore_n dX6_added5_4 rfl (by decide) rfl) ?_
  exact c_X6_added5_5 FU m2 v1 hS
theorem c_X6_not5_66 : ∀ (m : Mem) (a1 : Int32) (s0 : Int32) (hS : ShM m), Cv true (cX6_not5, 4, RX6, 7, ((false, none) : IK)) .ireturn eI (F_X6_not5_66 m a1 s0) m 66 [.ref 40, .int a1, .null, .null] [.int s0] := by
  intro m a1 s0 hS
  unfold F_X6_not5_66
  refine Cv.go (pc' := 67) (ls' := [.ref 40, .int a1, .int s0, .null]) (go_istore_n dX6_not5_66 rfl (by decide) rfl) ?_
  refine Cv.go (pc' := 68) (go_aload_n (i := 0) (x := 40) dX6_not5_67 rfl rfl) ?_
  refine Cv.bnd fun v25 m26 e27 => ?_
  have C28 := kc_X6_next m hS v25 m26 e27
  refine Cv.go (pc' := 71) (st' := []) (go_callV (As := []) (st := []) C28 (by decide) ok_X6_next li_X6_next ls_X6_next lm_X6_173 cls6 (sx_k40 hS) rfl rfl (Nat.le_of_ble_eq_true rfl) dX6_not5_68) ?_
  have zm26 := C28.1.2.2 rfl
  have hS := hS.sh zm26
  refine Cv.go (pc' := 72) (go_aload_n (i := 0) (x := 40) dX6_not5_71 rfl rfl) ?_
  refine Cv.bnd fun v29 m30 e31 => ?_
  have C32 := kc_X6_added5 m26 hS v29 m30 e31
  refine Cv.go (pc' := 75) (st' := [.int v29]) (go_callV (As := []) (st := []) C32 (by decide) ok_X6_added5 li_X6_added5 ls_X6_added5 lm_X6_217 cls6 (sx_k40 hS) rfl rfl (Nat.le_of_ble_eq_true rfl) dX6_not5_72) ?_
  have zm30 := C32.1.2.2 rfl
  have hS := hS.sh zm30
  refine Cv.go (pc' := 76) (ls' := [.ref 40, .int a1, .int s0, .int v29]) (go_istore_n dX6_not5_75 rfl (by decide) rfl) ?_
  refine Cv.go (pc' := 77) (go_iload_n (i := 2) (x := s0) dX6_not5_76 rfl rfl) ?_
  refine Cv.ite (fun h33 => ?_) (fun h33 => ?_)
  · refine Cv.go (pc' := 88) (go_if_eq_t (tgt := 88) dX6_not5_77 rfl h33) ?_
    refine Cv.go (pc' := 89) (go_iload_n (i := 1) (x := a1) dX6_not5_88 rfl rfl) ?_
    refine Cv.go (pc' := 90) (go_iload_n (i := 3) (x := v29) dX6_not5_89 rfl rfl) ?_
    refine Cv.ite (fun h34 => ?_) (fun h34 => ?_)
    · refine Cv.go (pc' := 93) (go_icmp_ne_f 97 dX6_not5_90 rfl h34) ?_
      refine Cv.go (pc' := 94) (go_iconst dX6_not5_93 ic_1) ?_
      refine Cv.go (pc' := 98) (go_goto (tgt := 98) dX6_not5_94 rfl) ?_
      exact Cv.ret dX6_not5_98 rfl
    · refine Cv.go (pc' := 97) (go_icmp_ne_t (tgt := 97) dX6_not5_90 rfl h34) ?_
      refine Cv.go (pc' := 98) (go_iconst dX6_not5_97 ic_0) ?_
      exact Cv.ret dX6_not5_98 rfl
  · refine Cv.go (pc' := 80) (go_if_eq_f 88 dX6_not5_77 rfl h33) ?_
    refine Cv.go (pc' := 81) (go_iload_n (i := 1) (x := a1) dX6_not5_80 rfl rfl) ?_
    refine Cv.go (pc' := 82) (go_iload_n (i := 3) (x := v29) dX6_not5_81 rfl rfl) ?_
    refine Cv.ite (fun h35 => ?_) (fun h35 => ?_)
    · refine Cv.go (pc' := 97) (go_icmp_ge_t (tgt := 97) dX6_not5_82 rfl h35) ?_
      refine Cv.go (pc' := 98) (go_iconst dX6_not5_97 ic_0) ?_
      exact Cv.ret dX6_not5_98 rfl
    · refine Cv.go (pc' := 85) (go_icmp_ge_f 97 dX6_not5_82 rfl h35) ?_
      refine Cv.go (pc' := 93) (go_goto (tgt := 93) dX6_not5_85 rfl) ?_
      refine Cv.go (pc' := 94) (go_iconst dX6_not5_93 ic_1) ?_
      refine Cv.go (pc' := 98) (go_goto (tgt := 98) dX6_not5_94 rfl) ?_
      exact Cv.ret dX6_not5_98 rfl
theorem c_X6_not5_50 : ∀ (m : Mem) (a1 : Int32) (hS : ShM m), Cv true (cX6_not5, 4, RX6, 7, ((false, none) : IK)) .ireturn eI (F_X6_not5_50 m a1) m 50 [.ref 40, .int a1, .null, .null] [] := by
  intro m a1 hS
  unfold F_X6_not5_50
  refine Cv.go (pc' := 51) (go_aload_n (i := 0) (x := 40) dX6_not5_50 rfl rfl) ?_
  refine Cv.go (pc' := 54) (go_getL (i := 22) cls6 (sx_k40 hS) (by decide) rfl lf_X6_150 rfl dX6_not5_51) ?_
  refine Cv.go (pc' := 57) (go_ldc2 dX6_not5_54 ll_X6_220) ?_
  refine Cv.go (pc' := 58) (go_lcmp dX6_not5_57) ?_
  refine Cv.ite (fun h24 => ?_) (fun h24 => ?_)
  · refine Cv.go (pc' := 61) (go_if_ne_f 65 dX6_not5_58 rfl h24) ?_
    refine Cv.go (pc' := 62) (go_iconst dX6_not5_61 ic_1) ?_
    refine Cv.go (pc' := 66) (go_goto (tgt := 66) dX6_not5_62 rfl) ?_
    exact c_X6_not5_66 m a1 (1 : Int32) hS
  · refine Cv.go (pc' := 65) (go_if_ne_t (tgt := 65) dX6_not5_58 rfl h24) ?_
    refine Cv.go (pc' := 66) (go_iconst dX6_not5_65 ic_0) ?_
    exact c_X6_not5_66 m a1 (0 : Int32) hS
theorem kc_X6_not5 (m : Mem) (hS : ShM m) : ∀ v mE, F_X6_not5 m = some (v, mE) → Con true kX6_not5 7 [.ref 40] m (eI v) mE := by
  refine Con.of (ini := false) (ls0 := [.ref 40, .null, .null, .null]) (ri := .ireturn) (by decide) (by intro z; cases z) rfl (Nat.le_of_ble_eq_true rfl) (fun v mE _ => RetTy.i) ?_
  show Cv true (cX6_not5, 4, RX6, 7, ((false, none) : IK)) .ireturn eI (F_X6_not5 m) m 0 [.ref 40, .null, .null, .null] []
  unfold F_X6_not5
  refine Cv.go (pc' := 1) (go_aload_n (i := 0) (x := 40) dX6_not5_0 rfl rfl) ?_
  refine Cv.go (pc' := 3) (go_bipush dX6_not5_1 ib_110) ?_
  refine Cv.go (pc' := 5) (go_bipush dX6_not5_3 ib_111) ?_
  refine Cv.go (pc' := 7) (go_bipush dX6_not5_5 ib_116) ?_
  refine Cv.go (pc' := 8) (go_iconst dX6_not5_7 ic_0) ?_
  refine Cv.go (pc' := 9) (go_iconst dX6_not5_8 ic_0) ?_
  refine Cv.go (pc' := 10) (go_iconst dX6_not5_9 ic_0) ?_
  refine Cv.go (pc' := 11) (go_iconst dX6_not5_10 ic_0) ?_
  refine Cv.go (pc' := 12) (go_iconst dX6_not5_11 ic_0) ?_
  refine Cv.bnd fun v1 m2 e3 => ?_
  have C4 := kc_X6_isWord m (110 : Int32) (111 : Int32) (116 : Int32) (0 : Int32) (0 : Int32) (0 : Int32) (0 : Int32) (0 : Int32) hS v1 m2 e3
  refine Cv.go (pc' := 15) (st' := [.int (bz v1)]) (go_callV (As := [.int (110 : Int32), .int (111 : Int32), .int (116 : Int32), .int (0 : Int32), .int (0 : Int32), .int (0 : Int32), .int (0 : Int32), .int (0 : Int32)]) (st := []) C4 (by decide) ok_X6_isWord li_X6_isWord ls_X6_isWord lm_X6_176 cls6 (sx_k40 hS) rfl rfl (Nat.le_of_ble_eq_true rfl) dX6_not5_12) ?_
  have zm2 := C4.1.2.2 rfl
  have hS := hS.sh zm2
  refine Cv.ite (fun h5 => ?_) (fun h5 => ?_)
  · refine Cv.go (pc' := 25) (go_if_eq_t (tgt := 25) dX6_not5_15 rfl h5) ?_
    refine Cv.go (pc' := 26) (go_aload_n (i := 0) (x := 40) dX6_not5_25 rfl rfl) ?_
    refine Cv.bnd fun v6 m7 e8 => ?_
    have C9 := kc_X6_added5 m2 hS v6 m7 e8
    refine Cv.go (pc' := 29) (st' := [.int v6]) (go_callV (As := []) (st := []) C9 (by decide) ok_X6_added5 li_X6_added5 ls_X6_added5 lm_X6_217 cls6 (sx_k40 hS) rfl rfl (Nat.le_of_ble_eq_true rfl) dX6_not5_26) ?_
    have zm7 := C9.1.2.2 rfl
    have hS := hS.sh zm7
    refine Cv.go (pc' := 30) (ls' := [.ref 40, .int v6, .null, .null]) (go_istore_n dX6_not5_29 rfl (by decide) rfl) ?_
    refine Cv.go (pc' := 31) (go_aload_n (i := 0) (x := 40) dX6_not5_30 rfl rfl) ?_
    refine Cv.go (pc' := 33) (go_bipush dX6_not5_31 ib_60) ?_
    refine Cv.bnd fun v10 m11 e12 => ?_
    have C13 := kc_X6_isSign m7 (60 : Int32) hS v10 m11 e12
    refine Cv.go (pc' := 36) (st' := [.int (bz v10)]) (go_callV (As := [.int (60 : Int32)]) (st := []) C13 (by decide) ok_X6_isSign li_X6_isSign ls_X6_isSign lm_X6_198 cls6 (sx_k40 hS) rfl rfl (Nat.le_of_ble_eq_true rfl) dX6_not5_33) ?_
    have zm11 := C13.1.2.2 rfl
    have hS := hS.sh zm11
    refine Cv.ite (fun h14 => ?_) (fun h14 => ?_)
    · refine Cv.go (pc' := 39) (go_if_ne_f 50 dX6_not5_36 rfl h14) ?_
      refine Cv.go (pc' := 40) (go_aload_n (i := 0) (x := 40) dX6_not5_39 rfl rfl) ?_
      refine Cv.go (pc' := 42) (go_bipush dX6_not5_40 ib_61) ?_
      refine Cv.bnd fun v15 m16 e17 => ?_
      have C18 := kc_X6_isSign m11 (61 : Int32) hS v15 m16 e17
      refine Cv.go (pc' := 45) (st' := [.int (bz v15)]) (go_callV (As := [.int (61 : Int32)]) (st := []) C18 (by decide) ok_X6_isSign li_X6_isSign ls_X6_isSign lm_X6_198 cls6 (sx_k40 hS) rfl rfl (Nat.le_of_ble_eq_true rfl) dX6_not5_42) ?_
      have zm16 := C18.1.2.2 rfl
      have hS := hS.sh zm16
      refine Cv.ite (fun h19 => ?_) (fun h19 => ?_)
      · refine Cv.go (pc' := 48) (go_if_ne_f 50 dX6_not5_45 rfl h19) ?_
        refine Cv.go (pc' := 49) (go_iload_n (i := 1) (x := v6) dX6_not5_48 rfl rfl) ?_
        exact Cv.ret dX6_not5_49 rfl
      · refine Cv.go (pc' := 50) (go_if_ne_t (tgt := 50) dX6_not5_45 rfl h19) ?_
        exact c_X6_not5_50 m16 v6 hS
    · refine Cv.go (pc' := 50) (go_if_ne_t (tgt := 50) dX6_not5_36 rfl h14) ?_
      exact c_X6_not5_50 m11 v6 hS
  · refine Cv.go (pc' := 18) (go_if_eq_f 25 dX6_not5_15 rfl h5) ?_
    refine Cv.go (pc' := 19) (go_aload_n (i := 0) (x := 40) dX6_not5_18 rfl rfl) ?_
    refine Cv.bnd fun v20 m21 e22 => ?_
    have C23 := kc_X6_opens m2 hS v20 m21 e22
    refine Cv.go (pc' := 22) (st' := [.int (bz v20)]) (go_callV (As := []) (st := []) C23 (by decide) ok_X6_opens li_X6_opens ls_X6_opens lm_X6_201 cls6 (sx_k40 hS) rfl rfl (Nat.le_of_ble_eq_true rfl) dX6_not5_19) ?_
    have zm21 := C23.1.2.2 rfl
    have hS := hS.sh zm21
    refine Cv.go (pc' := 23) (go_pop_i dX6_not5_22) ?_
    refine Cv.go (pc' := 24) (go_iconst dX6_not5_23 ic_0) ?_
    exact Cv.ret dX6_not5_24 rfl
theorem c_X6_both5_45 (K5 : Mem → Int32 → Option (Int32 × Mem)) (hK5 : ∀ (m : Mem) (a1 : Int32) (hS : ShM m), Cv true (cX6_both5, 3, RX6, 8, ((false, none) : IK)) .ireturn eI (K5 m a1) m 5 [.ref 40, .int a1, .null] []) : ∀ (m : Mem) (s0 : Int32) (hS : ShM m), Cv true (cX6_both5, 3, RX6, 8, ((false, none) : IK)) .ireturn eI (F_X6_both5_45 K5 m s0) m 45 [.ref 40, .null, .null] [.int s0] := by
  intro m s0 hS
  unfold F_X6_both5_45
  refine Cv.go (pc' := 46) (ls' := [.ref 40, .int s0, .null]) (go_istore_n dX6_both5_45 rfl (by decide) rfl) ?_
  refine Cv.go (pc' := 5) (go_goto (tgt := 5) dX6_both5_46 rfl) ?_
  exact hK5 m s0 hS
theorem c_X6_both5_44 (K5 : Mem → Int32 → Option (Int32 × Mem)) (hK5 : ∀ (m : Mem) (a1 : Int32) (hS : ShM m), Cv true (cX6_both5, 3, RX6, 8, ((false, none) : IK)) .ireturn eI (K5 m a1) m 5 [.ref 40, .int a1, .null] []) : ∀ (m : Mem) (hS : ShM m), Cv true (cX6_both5, 3, RX6, 8, ((false, none) : IK)) .ireturn eI (F_X6_both5_44 K5 m) m 44 [.ref 40, .null, .null] [] := by
  intro m hS
  unfold F_X6_both5_44
  refine Cv.go (pc' := 45) (go_iconst dX6_both5_44 ic_0) ?_
  exact c_X6_both5_45 K5 hK5 m (0 : Int32) hS
theorem c_X6_both5_5 : ∀ n, ∀ (m : Mem) (a1 : Int32) (hS : ShM m), Cv true (cX6_both5, 3, RX6, 8, ((false, none) : IK)) .ireturn eI (F_X6_both5_5 n m a1) m 5 [.ref 40, .int a1, .null] [] := by
  intro n
  induction n with
  | zero => intro m a1 hS; exact Cv.no
  | succ n ih =>
    intro m a1 hS
    unfold F_X6_both5_5
    refine Cv.go (pc' := 6) (go_aload_n (i := 0) (x := 40) dX6_both5_5 rfl rfl) ?_
    refine Cv.go (pc' := 8) (go_bipush dX6_both5_6 ib_97) ?_
    refine Cv.go (pc' := 10) (go_bipush dX6_both5_8 ib_110) ?_
    refine Cv.go (pc' := 12) (go_bipush dX6_both5_10 ib_100) ?_
    refine Cv.go (pc' := 13) (go_iconst dX6_both5_12 ic_0) ?_
    refine Cv.go (pc' := 14) (go_iconst dX6_both5_13 ic_0) ?_
    refine Cv.go (pc' := 15) (go_iconst dX6_both5_14 ic_0) ?_
    refine Cv.go (pc' := 16) (go_iconst dX6_both5_15 ic_0) ?_
    refine Cv.go (pc' := 17) (go_iconst dX6_both5_16 ic_0) ?_
    refine Cv.bnd fun v5 m6 e7 => ?_
    have C8 := kc_X6_isWord m (97 : Int32) (110 : Int32) (100 : Int32) (0 : Int32) (0 : Int32) (0 : Int32) (0 : Int32) (0 : Int32) hS v5 m6 e7
    refine Cv.go (pc' := 20) (st' := [.int (bz v5)]) (go_callV (As := [.int (97 : Int32), .int (110 : Int32), .int (100 : Int32), .int (0 : Int32), .int (0 : Int32), .int (0 : Int32), .int (0 : Int32), .int (0 : Int32)]) (st := []) C8 (by decide) ok_X6_isWord li_X6_isWord ls_X6_isWord lm_X6_176 cls6 (sx_k40 hS) rfl rfl (Nat.le_of_ble_eq_true rfl) dX6_both5_17) ?_
    have zm6 := C8.1.2.2 rfl
    have hS := hS.sh zm6
    refine Cv.ite (fun h9 => ?_) (fun h9 => ?_)
    · refine Cv.go (pc' := 49) (go_if_eq_t (tgt := 49) dX6_both5_20 rfl h9) ?_
      refine Cv.go (pc' := 50) (go_iload_n (i := 1) (x := a1) dX6_both5_49 rfl rfl) ?_
      exact Cv.ret dX6_both5_50 rfl
    · refine Cv.go (pc' := 23) (go_if_eq_f 49 dX6_both5_20 rfl h9) ?_
      refine Cv.go (pc' := 24) (go_aload_n (i := 0) (x := 40) dX6_both5_23 rfl rfl) ?_
      refine Cv.bnd fun v10 m11 e12 => ?_
      have C13 := kc_X6_next m6 hS v10 m11 e12
      refine Cv.go (pc' := 27) (st' := []) (go_callV (As := []) (st := []) C13 (by decide) ok_X6_next li_X6_next ls_X6_next lm_X6_173 cls6 (sx_k40 hS) rfl rfl (Nat.le_of_ble_eq_true rfl) dX6_both5_24) ?_
      have zm11 := C13.1.2.2 rfl
      have hS := hS.sh zm11
      refine Cv.go (pc' := 28) (go_aload_n (i := 0) (x := 40) dX6_both5_27 rfl rfl) ?_
      refine Cv.bnd fun v14 m15 e16 => ?_
      have C17 := kc_X6_not5 m11 hS v14 m15 e16
      refine Cv.go (pc' := 31) (st' := [.int v14]) (go_callV (As := []) (st := []) C17 (by decide) ok_X6_not5 li_X6_not5 ls_X6_not5 lm_X6_222 cls6 (sx_k40 hS) rfl rfl (Nat.le_of_ble_eq_true rfl) dX6_both5_28) ?_
      have zm15 := C17.1.2.2 rfl
      have hS := hS.sh zm15
      refine Cv.go (pc' := 32) (ls' := [.ref 40, .int a1, .int v14]) (go_istore_n dX6_both5_31 rfl (by decide) rfl) ?_
      refine Cv.go (pc' := 33) (go_iload_n (i := 1) (x := a1) dX6_both5_32 rfl rfl) ?_
      refine Cv.ite (fun h18 => ?_) (fun h18 => ?_)
      · refine Cv.go (pc' := 44) (go_if_eq_t (tgt := 44) dX6_both5_33 rfl h18) ?_
        refine Cv.weak (ls' := [.ref 40, .null, .null]) (⟨Or.inr rfl, ⟨Or.inl rfl, ⟨Or.inl rfl, True.intro⟩⟩⟩) ?_
        exact c_X6_both5_44 (F_X6_both5_5 n) ih m15 hS
      · refine Cv.go (pc' := 36) (go_if_eq_f 44 dX6_both5_33 rfl h18) ?_
        refine Cv.go (pc' := 37) (go_iload_n (i := 2) (x := v14) dX6_both5_36 rfl rfl) ?_
        refine Cv.ite (fun h19 => ?_) (fun h19 => ?_)
        · refine Cv.go (pc' := 44) (go_if_eq_t (tgt := 44) dX6_both5_37 rfl h19) ?_
          refine Cv.weak (ls' := [.ref 40, .null, .null]) (⟨Or.inr rfl, ⟨Or.inl rfl, ⟨Or.inl rfl, True.intro⟩⟩⟩) ?_
          exact c_X6_both5_44 (F_X6_both5_5 n) ih m15 hS
        · refine Cv.go (pc' := 40) (go_if_eq_f 44 dX6_both5_37 rfl h19) ?_
          refine Cv.go (pc' := 41) (go_iconst dX6_both5_40 ic_1) ?_
          refine Cv.go (pc' := 45) (go_goto (tgt := 45) dX6_both5_41 rfl) ?_
          refine Cv.weak (ls' := [.ref 40, .null, .null]) (⟨Or.inr rfl, ⟨Or.inl rfl, ⟨Or.inl rfl, True.intro⟩⟩⟩) ?_
          exact c_X6_both5_45 (F_X6_both5_5 n) ih m15 (1 : Int32) hS
theorem kc_X6_both5 (m : Mem) (hS : ShM m) : ∀ v mE, F_X6_both5 m = some (v, mE) → Con true kX6_both5 8 [.ref 40] m (eI v) mE := by
  refine Con.of (ini := false) (ls0 := [.ref 40, .null, .null]) (ri := .ireturn) (by decide) (by intro z; cases z) rfl (Nat.le_of_ble_eq_true rfl) (fun v mE _ => RetTy.i) ?_
  show Cv true (cX6_both5, 3, RX6, 8, ((false, none) : IK)) .ireturn eI (F_X6_both5 m) m 0 [.ref 40, .null, .null] []
  unfold F_X6_both5
  refine Cv.go (pc' := 1) (go_aload_n (i := 0) (x := 40) dX6_both5_0 rfl rfl) ?_
  refine Cv.bnd fun v1 m2 e3 => ?_
  have C4 := kc_X6_not5 m hS v1 m2 e3
  refine Cv.go (pc' := 4) (st' := [.int v1]) (go_callV (As := []) (st := []) C4 (by decide) ok_X6_not5 li_X6_not5 ls_X6_not5 lm_X6_222 cls6 (sx_k40 hS) rfl rfl (Nat.le_of_ble_eq_true rfl) dX6_both5_1) ?_
  have zm2 := C4.1.2.2 rfl
  have hS := hS.sh zm2
  refine Cv.go (pc' := 5) (ls' := [.ref 40, .int v1, .null]) (go_istore_n dX6_both5_4 rfl (by decide) rfl) ?_
  exact c_X6_both5_5 FU m2 v1 hS
