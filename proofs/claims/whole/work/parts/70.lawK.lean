theorem c_L_law_1101 (L0 : Nat) (xs : Nat → Int32) (K18 : Mem → Int32 → Option (Bool × Mem)) (hK18 : ∀ (m : Mem) (a3 : Int32) (hS : ShX m) (hSM : ShM m), Cv false (cL_law, 4, RL, 88, ((false, some (L0, xs)) : IK)) .ireturn eZ (K18 m a3) m 18 [.retAddr 0, .ref 0, .ref 40, .int a3] []) : ∀ (m : Mem) (a3 : Int32) (hS : ShX m) (hSM : ShM m), Cv false (cL_law, 4, RL, 88, ((false, some (L0, xs)) : IK)) .ireturn eZ (F_L_law_1101 L0 xs K18 m a3) m 1101 [.retAddr 0, .ref 0, .ref 40, .int a3] [] := by
  intro m a3 hS hSM
  unfold F_L_law_1101
  refine Cv.go (pc' := 1104) (ls' := [.retAddr 0, .ref 0, .ref 40, .int (a3 + (6 : Int32))]) (go_iinc (x := a3) (v := a3 + (6 : Int32)) dL_law_1101 rfl rfl (by decide) rfl) ?_
  refine Cv.go (pc' := 18) (go_goto (tgt := 18) dL_law_1104 rfl) ?_
  exact hK18 m (a3 + (6 : Int32)) hS hSM
theorem c_L_law_18 (L0 : Nat) (xs : Nat → Int32) : ∀ n, ∀ (m : Mem) (a3 : Int32) (hS : ShX m) (hSM : ShM m), Cv false (cL_law, 4, RL, 88, ((false, some (L0, xs)) : IK)) .ireturn eZ (F_L_law_18 L0 xs n m a3) m 18 [.retAddr 0, .ref 0, .ref 40, .int a3] [] := by
  intro n
  induction n with
  | zero => intro m a3 hS hSM; exact Cv.no
  | succ n ih =>
    intro m a3 hS hSM
    unfold F_L_law_18
    refine Cv.go (pc' := 19) (go_iload_n (i := 3) (x := a3) dL_law_18 rfl rfl) ?_
    refine Cv.go (pc' := 20) (go_aload_nr (i := 0) (x := 0) dL_law_19 rfl rfl) ?_
    refine Cv.go (pc' := 21) (go_lenX dL_law_20) ?_
    refine Cv.go (pc' := 23) (go_bipush dL_law_21 ib_6) ?_
    refine Cv.go (pc' := 24) (go_isub dL_law_23) ?_
    refine Cv.ite (fun h13 => ?_) (fun h13 => ?_)
    · refine Cv.go (pc' := 1107) (go_icmp_gt_t (tgt := 1107) dL_law_24 rfl h13) ?_
      refine Cv.go (pc' := 1108) (go_iconst dL_law_1107 ic_1) ?_
      exact Cv.ret dL_law_1108 rfl
    · refine Cv.go (pc' := 27) (go_icmp_gt_f 1107 dL_law_24 rfl h13) ?_
      refine Cv.go (pc' := 28) (go_aload_nr (i := 0) (x := 0) dL_law_27 rfl rfl) ?_
      refine Cv.go (pc' := 29) (go_iload_n (i := 3) (x := a3) dL_law_28 rfl rfl) ?_
      refine Cv.gif fun g14 => ?_
      refine Cv.go (pc' := 30) (go_rdX g14 dL_law_29) ?_
      refine Cv.go (pc' := 32) (go_bipush dL_law_30 ib_31) ?_
      refine Cv.go (pc' := 33) (go_iand dL_law_32) ?_
      refine Cv.namI fun x15 ex15 => ?_
      refine Cv.ite (fun h16 => ?_) (fun h16 => ?_)
      · refine Cv.go (pc' := 152) (go_tsIn (off := 119) (tgt := 152) dL_law_33 (by rw [h16]; decide) (by rw [h16]; decide) (by rw [h16]; rfl) rfl) ?_
        refine Cv.go (pc' := 153) (go_aload_n (i := 1) (x := 0) dL_law_152 rfl rfl) ?_
        refine Cv.go (pc' := 154) (go_aload_nr (i := 0) (x := 0) dL_law_153 rfl rfl) ?_
        refine Cv.go (pc' := 155) (go_iload_n (i := 3) (x := a3) dL_law_154 rfl rfl) ?_
        refine Cv.go (pc' := 156) (go_iconst dL_law_155 ic_1) ?_
        refine Cv.go (pc' := 157) (go_iadd dL_law_156) ?_
        refine Cv.gif fun g17 => ?_
        refine Cv.go (pc' := 158) (go_rdX g17 dL_law_157) ?_
        refine Cv.go (pc' := 159) (go_aload_nr (i := 0) (x := 0) dL_law_158 rfl rfl) ?_
        refine Cv.go (pc' := 160) (go_iload_n (i := 3) (x := a3) dL_law_159 rfl rfl) ?_
        refine Cv.go (pc' := 161) (go_iconst dL_law_160 ic_2) ?_
        refine Cv.go (pc' := 162) (go_iadd dL_law_161) ?_
        refine Cv.gif fun g18 => ?_
        refine Cv.go (pc' := 163) (go_rdX g18 dL_law_162) ?_
        refine Cv.go (pc' := 164) (go_aload_nr (i := 0) (x := 0) dL_law_163 rfl rfl) ?_
        refine Cv.go (pc' := 165) (go_iload_n (i := 3) (x := a3) dL_law_164 rfl rfl) ?_
        refine Cv.go (pc' := 166) (go_iconst dL_law_165 ic_3) ?_
        refine Cv.go (pc' := 167) (go_iadd dL_law_166) ?_
        refine Cv.gif fun g19 => ?_
        refine Cv.go (pc' := 168) (go_rdX g19 dL_law_167) ?_
        refine Cv.bnd fun v20 m21 e22 => ?_
        have C23 := kc_X5_set m (xs (a3 + (1 : Int32)).toNatClampNeg) (xs (a3 + (2 : Int32)).toNatClampNeg) (xs (a3 + (3 : Int32)).toNatClampNeg) hS v20 m21 e22
        have C23 := C23.wk (sp' := false) (fun z => by cases z)
        refine Cv.go (pc' := 171) (st' := [.int v20]) (go_callV (As := [.int (xs (a3 + (1 : Int32)).toNatClampNeg), .int (xs (a3 + (2 : Int32)).toNatClampNeg), .int (xs (a3 + (3 : Int32)).toNatClampNeg)]) (st := []) C23 (by decide) ok_X5_set li_X5_set ls_X5_set lm_L_13 cls5 (sx_k0 hS) rfl rfl (Nat.le_of_ble_eq_true rfl) dL_law_168) ?_
        have zm21 : SameSh m m21 := (kc_X5_set m (xs (a3 + (1 : Int32)).toNatClampNeg) (xs (a3 + (2 : Int32)).toNatClampNeg) (xs (a3 + (3 : Int32)).toNatClampNeg) hS v20 m21 e22).1.2.2 rfl
        have hS := hS.sh zm21
        have hSM := hSM.sh zm21
        refine Cv.go (pc' := 172) (go_aload_n (i := 2) (x := 40) dL_law_171 rfl rfl) ?_
        refine Cv.go (pc' := 173) (go_aload_nr (i := 0) (x := 0) dL_law_172 rfl rfl) ?_
        refine Cv.go (pc' := 174) (go_iload_n (i := 3) (x := a3) dL_law_173 rfl rfl) ?_
        refine Cv.go (pc' := 175) (go_iconst dL_law_174 ic_1) ?_
        refine Cv.go (pc' := 176) (go_iadd dL_law_175) ?_
        refine Cv.gif fun g24 => ?_
        refine Cv.go (pc' := 177) (go_rdX g24 dL_law_176) ?_
        refine Cv.go (pc' := 178) (go_aload_nr (i := 0) (x := 0) dL_law_177 rfl rfl) ?_
        refine Cv.go (pc' := 179) (go_iload_n (i := 3) (x := a3) dL_law_178 rfl rfl) ?_
        refine Cv.go (pc' := 180) (go_iconst dL_law_179 ic_2) ?_
        refine Cv.go (pc' := 181) (go_iadd dL_law_180) ?_
        refine Cv.gif fun g25 => ?_
        refine Cv.go (pc' := 182) (go_rdX g25 dL_law_181) ?_
        refine Cv.go (pc' := 183) (go_aload_nr (i := 0) (x := 0) dL_law_182 rfl rfl) ?_
        refine Cv.go (pc' := 184) (go_iload_n (i := 3) (x := a3) dL_law_183 rfl rfl) ?_
        refine Cv.go (pc' := 185) (go_iconst dL_law_184 ic_3) ?_
        refine Cv.go (pc' := 186) (go_iadd dL_law_185) ?_
        refine Cv.gif fun g26 => ?_
        refine Cv.go (pc' := 187) (go_rdX g26 dL_law_186) ?_
        refine Cv.bnd fun v27 m28 e29 => ?_
        have C30 := kc_X6_set m21 (xs (a3 + (1 : Int32)).toNatClampNeg) (xs (a3 + (2 : Int32)).toNatClampNeg) (xs (a3 + (3 : Int32)).toNatClampNeg) hSM v27 m28 e29
        have C30 := C30.wk (sp' := false) (fun z => by cases z)
        refine Cv.go (pc' := 190) (st' := [.int v27, .int v20]) (go_callV (As := [.int (xs (a3 + (1 : Int32)).toNatClampNeg), .int (xs (a3 + (2 : Int32)).toNatClampNeg), .int (xs (a3 + (3 : Int32)).toNatClampNeg)]) (st := [.int v20]) C30 (by decide) ok_X6_set li_X6_set ls_X6_set lm_L_17 cls6 (sx_k40 hSM) rfl rfl (Nat.le_of_ble_eq_true rfl) dL_law_187) ?_
        have zm28 : SameSh m21 m28 := (kc_X6_set m21 (xs (a3 + (1 : Int32)).toNatClampNeg) (xs (a3 + (2 : Int32)).toNatClampNeg) (xs (a3 + (3 : Int32)).toNatClampNeg) hSM v27 m28 e29).1.2.2 rfl
        have hS := hS.sh zm28
        have hSM := hSM.sh zm28
        refine Cv.ite (fun h31 => ?_) (fun h31 => ?_)
        · refine Cv.go (pc' := 1101) (go_icmp_eq_t (tgt := 1101) dL_law_190 rfl h31) ?_
          exact c_L_law_1101 L0 xs (F_L_law_18 L0 xs n) ih m28 a3 hS hSM
        · refine Cv.go (pc' := 193) (go_icmp_eq_f 1101 dL_law_190 rfl h31) ?_
          refine Cv.go (pc' := 194) (go_iconst dL_law_193 ic_0) ?_
          exact Cv.ret dL_law_194 rfl
      · refine Cv.ite (fun h32 => ?_) (fun h32 => ?_)
        · refine Cv.go (pc' := 195) (go_tsIn (off := 162) (tgt := 195) dL_law_33 (by rw [h32]; decide) (by rw [h32]; decide) (by rw [h32]; rfl) rfl) ?_
          refine Cv.go (pc' := 196) (go_aload_n (i := 1) (x := 0) dL_law_195 rfl rfl) ?_
          refine Cv.go (pc' := 197) (go_aload_nr (i := 0) (x := 0) dL_law_196 rfl rfl) ?_
          refine Cv.go (pc' := 198) (go_iload_n (i := 3) (x := a3) dL_law_197 rfl rfl) ?_
          refine Cv.go (pc' := 199) (go_iconst dL_law_198 ic_1) ?_
          refine Cv.go (pc' := 200) (go_iadd dL_law_199) ?_
          refine Cv.gif fun g33 => ?_
          refine Cv.go (pc' := 201) (go_rdX g33 dL_law_200) ?_
          refine Cv.go (pc' := 202) (go_aload_nr (i := 0) (x := 0) dL_law_201 rfl rfl) ?_
          refine Cv.go (pc' := 203) (go_iload_n (i := 3) (x := a3) dL_law_202 rfl rfl) ?_
          refine Cv.go (pc' := 204) (go_iconst dL_law_203 ic_2) ?_
          refine Cv.go (pc' := 205) (go_iadd dL_law_204) ?_
          refine Cv.gif fun g34 => ?_
          refine Cv.go (pc' := 206) (go_rdX g34 dL_law_205) ?_
          refine Cv.go (pc' := 207) (go_aload_nr (i := 0) (x := 0) dL_law_206 rfl rfl) ?_
          refine Cv.go (pc' := 208) (go_iload_n (i := 3) (x := a3) dL_law_207 rfl rfl) ?_
          refine Cv.go (pc' := 209) (go_iconst dL_law_208 ic_3) ?_
          refine Cv.go (pc' := 210) (go_iadd dL_law_209) ?_
          refine Cv.gif fun g35 => ?_
          refine Cv.go (pc' := 211) (go_rdX g35 dL_law_210) ?_
          refine Cv.bnd fun v36 m37 e38 => ?_
          have C39 := kc_X5_coin m (xs (a3 + (1 : Int32)).toNatClampNeg) (xs (a3 + (2 : Int32)).toNatClampNeg) (xs (a3 + (3 : Int32)).toNatClampNeg) hS v36 m37 e38
          have C39 := C39.wk (sp' := false) (fun z => by cases z)
          refine Cv.go (pc' := 214) (st' := [.int v36]) (go_callV (As := [.int (xs (a3 + (1 : Int32)).toNatClampNeg), .int (xs (a3 + (2 : Int32)).toNatClampNeg), .int (xs (a3 + (3 : Int32)).toNatClampNeg)]) (st := []) C39 (by decide) ok_X5_coin li_X5_coin ls_X5_coin lm_L_18 cls5 (sx_k0 hS) rfl rfl (Nat.le_of_ble_eq_true rfl) dL_law_211) ?_
          have zm37 : SameSh m m37 := (kc_X5_coin m (xs (a3 + (1 : Int32)).toNatClampNeg) (xs (a3 + (2 : Int32)).toNatClampNeg) (xs (a3 + (3 : Int32)).toNatClampNeg) hS v36 m37 e38).1.2.2 rfl
          have hS := hS.sh zm37
          have hSM := hSM.sh zm37
          refine Cv.go (pc' := 215) (go_aload_n (i := 2) (x := 40) dL_law_214 rfl rfl) ?_
          refine Cv.go (pc' := 216) (go_aload_nr (i := 0) (x := 0) dL_law_215 rfl rfl) ?_
          refine Cv.go (pc' := 217) (go_iload_n (i := 3) (x := a3) dL_law_216 rfl rfl) ?_
          refine Cv.go (pc' := 218) (go_iconst dL_law_217 ic_1) ?_
          refine Cv.go (pc' := 219) (go_iadd dL_law_218) ?_
          refine Cv.gif fun g40 => ?_
          refine Cv.go (pc' := 220) (go_rdX g40 dL_law_219) ?_
          refine Cv.go (pc' := 221) (go_aload_nr (i := 0) (x := 0) dL_law_220 rfl rfl) ?_
          refine Cv.go (pc' := 222) (go_iload_n (i := 3) (x := a3) dL_law_221 rfl rfl) ?_
          refine Cv.go (pc' := 223) (go_iconst dL_law_222 ic_2) ?_
          refine Cv.go (pc' := 224) (go_iadd dL_law_223) ?_
          refine Cv.gif fun g41 => ?_
          refine Cv.go (pc' := 225) (go_rdX g41 dL_law_224) ?_
          refine Cv.go (pc' := 226) (go_aload_nr (i := 0) (x := 0) dL_law_225 rfl rfl) ?_
          refine Cv.go (pc' := 227) (go_iload_n (i := 3) (x := a3) dL_law_226 rfl rfl) ?_
          refine Cv.go (pc' := 228) (go_iconst dL_law_227 ic_3) ?_
          refine Cv.go (pc' := 229) (go_iadd dL_law_228) ?_
          refine Cv.gif fun g42 => ?_
          refine Cv.go (pc' := 230) (go_rdX g42 dL_law_229) ?_
          refine Cv.bnd fun v43 m44 e45 => ?_
          have C46 := kc_X6_coin m37 (xs (a3 + (1 : Int32)).toNatClampNeg) (xs (a3 + (2 : Int32)).toNatClampNeg) (xs (a3 + (3 : Int32)).toNatClampNeg) hSM v43 m44 e45
          have C46 := C46.wk (sp' := false) (fun z => by cases z)
          refine Cv.go (pc' := 233) (st' := [.int v43, .int v36]) (go_callV (As := [.int (xs (a3 + (1 : Int32)).toNatClampNeg), .int (xs (a3 + (2 : Int32)).toNatClampNeg), .int (xs (a3 + (3 : Int32)).toNatClampNeg)]) (st := [.int v36]) C46 (by decide) ok_X6_coin li_X6_coin ls_X6_coin lm_L_21 cls6 (sx_k40 hSM) rfl rfl (Nat.le_of_ble_eq_true rfl) dL_law_230) ?_
          have zm44 : SameSh m37 m44 := (kc_X6_coin m37 (xs (a3 + (1 : Int32)).toNatClampNeg) (xs (a3 + (2 : Int32)).toNatClampNeg) (xs (a3 + (3 : Int32)).toNatClampNeg) hSM v43 m44 e45).1.2.2 rfl
          have hS := hS.sh zm44
          have hSM := hSM.sh zm44
          refine Cv.ite (fun h47 => ?_) (fun h47 => ?_)
          · refine Cv.go (pc' := 1101) (go_icmp_eq_t (tgt := 1101) dL_law_233 rfl h47) ?_
            exact c_L_law_1101 L0 xs (F_L_law_18 L0 xs n) ih m44 a3 hS hSM
          · refine Cv.go (pc' := 236) (go_icmp_eq_f 1101 dL_law_233 rfl h47) ?_
            refine Cv.go (pc' := 237) (go_iconst dL_law_236 ic_0) ?_
            exact Cv.ret dL_law_237 rfl
        · refine Cv.ite (fun h48 => ?_) (fun h48 => ?_)
          · refine Cv.go (pc' := 238) (go_tsIn (off := 205) (tgt := 238) dL_law_33 (by rw [h48]; decide) (by rw [h48]; decide) (by rw [h48]; rfl) rfl) ?_
            refine Cv.go (pc' := 239) (go_aload_n (i := 1) (x := 0) dL_law_238 rfl rfl) ?_
            refine Cv.go (pc' := 240) (go_aload_nr (i := 0) (x := 0) dL_law_239 rfl rfl) ?_
            refine Cv.go (pc' := 241) (go_iload_n (i := 3) (x := a3) dL_law_240 rfl rfl) ?_
            refine Cv.go (pc' := 242) (go_iconst dL_law_241 ic_1) ?_
            refine Cv.go (pc' := 243) (go_iadd dL_law_242) ?_
            refine Cv.gif fun g49 => ?_
            refine Cv.go (pc' := 244) (go_rdX g49 dL_law_243) ?_
            refine Cv.go (pc' := 245) (go_aload_nr (i := 0) (x := 0) dL_law_244 rfl rfl) ?_
            refine Cv.go (pc' := 246) (go_iload_n (i := 3) (x := a3) dL_law_245 rfl rfl) ?_
            refine Cv.go (pc' := 247) (go_iconst dL_law_246 ic_2) ?_
            refine Cv.go (pc' := 248) (go_iadd dL_law_247) ?_
            refine Cv.gif fun g50 => ?_
            refine Cv.go (pc' := 249) (go_rdX g50 dL_law_248) ?_
            refine Cv.bnd fun v51 m52 e53 => ?_
            have C54 := kc_X5_told m (xs (a3 + (1 : Int32)).toNatClampNeg) (xs (a3 + (2 : Int32)).toNatClampNeg) hS v51 m52 e53
            have C54 := C54.wk (sp' := false) (fun z => by cases z)
            refine Cv.go (pc' := 252) (st' := [.int v51]) (go_callV (As := [.int (xs (a3 + (1 : Int32)).toNatClampNeg), .int (xs (a3 + (2 : Int32)).toNatClampNeg)]) (st := []) C54 (by decide) ok_X5_told li_X5_told ls_X5_told lm_L_22 cls5 (sx_k0 hS) rfl rfl (Nat.le_of_ble_eq_true rfl) dL_law_249) ?_
            have zm52 : SameSh m m52 := (kc_X5_told m (xs (a3 + (1 : Int32)).toNatClampNeg) (xs (a3 + (2 : Int32)).toNatClampNeg) hS v51 m52 e53).1.2.2 rfl
            have hS := hS.sh zm52
            have hSM := hSM.sh zm52
            refine Cv.go (pc' := 253) (go_aload_n (i := 2) (x := 40) dL_law_252 rfl rfl) ?_
            refine Cv.go (pc' := 254) (go_aload_nr (i := 0) (x := 0) dL_law_253 rfl rfl) ?_
            refine Cv.go (pc' := 255) (go_iload_n (i := 3) (x := a3) dL_law_254 rfl rfl) ?_
            refine Cv.go (pc' := 256) (go_iconst dL_law_255 ic_1) ?_
            refine Cv.go (pc' := 257) (go_iadd dL_law_256) ?_
            refine Cv.gif fun g55 => ?_
            refine Cv.go (pc' := 258) (go_rdX g55 dL_law_257) ?_
            refine Cv.go (pc' := 259) (go_aload_nr (i := 0) (x := 0) dL_law_258 rfl rfl) ?_
            refine Cv.go (pc' := 260) (go_iload_n (i := 3) (x := a3) dL_law_259 rfl rfl) ?_
            refine Cv.go (pc' := 261) (go_iconst dL_law_260 ic_2) ?_
            refine Cv.go (pc' := 262) (go_iadd dL_law_261) ?_
            refine Cv.gif fun g56 => ?_
            refine Cv.go (pc' := 263) (go_rdX g56 dL_law_262) ?_
            refine Cv.bnd fun v57 m58 e59 => ?_
            have C60 := kc_X6_told m52 (xs (a3 + (1 : Int32)).toNatClampNeg) (xs (a3 + (2 : Int32)).toNatClampNeg) hSM v57 m58 e59
            have C60 := C60.wk (sp' := false) (fun z => by cases z)
            refine Cv.go (pc' := 266) (st' := [.int v57, .int v51]) (go_callV (As := [.int (xs (a3 + (1 : Int32)).toNatClampNeg), .int (xs (a3 + (2 : Int32)).toNatClampNeg)]) (st := [.int v51]) C60 (by decide) ok_X6_told li_X6_told ls_X6_told lm_L_26 cls6 (sx_k40 hSM) rfl rfl (Nat.le_of_ble_eq_true rfl) dL_law_263) ?_
            have zm58 : SameSh m52 m58 := (kc_X6_told m52 (xs (a3 + (1 : Int32)).toNatClampNeg) (xs (a3 + (2 : Int32)).toNatClampNeg) hSM v57 m58 e59).1.2.2 rfl
            have hS := hS.sh zm58
            have hSM := hSM.sh zm58
            refine Cv.ite (fun h61 => ?_) (fun h61 => ?_)
            · refine Cv.go (pc' := 1101) (go_icmp_eq_t (tgt := 1101) dL_law_266 rfl h61) ?_
              exact c_L_law_1101 L0 xs (F_L_law_18 L0 xs n) ih m58 a3 hS hSM
            · refine Cv.go (pc' := 269) (go_icmp_eq_f 1101 dL_law_266 rfl h61) ?_
              refine Cv.go (pc' := 270) (go_iconst dL_law_269 ic_0) ?_
              exact Cv.ret dL_law_270 rfl
          · refine Cv.ite (fun h62 => ?_) (fun h62 => ?_)
            · refine Cv.go (pc' := 271) (go_tsIn (off := 238) (tgt := 271) dL_law_33 (by rw [h62]; decide) (by rw [h62]; decide) (by rw [h62]; rfl) rfl) ?_
              refine Cv.go (pc' := 272) (go_aload_n (i := 1) (x := 0) dL_law_271 rfl rfl) ?_
              refine Cv.go (pc' := 273) (go_aload_nr (i := 0) (x := 0) dL_law_272 rfl rfl) ?_
              refine Cv.go (pc' := 274) (go_iload_n (i := 3) (x := a3) dL_law_273 rfl rfl) ?_
              refine Cv.go (pc' := 275) (go_iconst dL_law_274 ic_1) ?_
              refine Cv.go (pc' := 276) (go_iadd dL_law_275) ?_
              refine Cv.gif fun g63 => ?_
              refine Cv.go (pc' := 277) (go_rdX g63 dL_law_276) ?_
              refine Cv.bnd fun v64 m65 e66 => ?_
              have C67 := kc_X5_feed m (xs (a3 + (1 : Int32)).toNatClampNeg) hS v64 m65 e66
              have C67 := C67.wk (sp' := false) (fun z => by cases z)
              refine Cv.go (pc' := 280) (st' := [.int v64]) (go_callV (As := [.int (xs (a3 + (1 : Int32)).toNatClampNeg)]) (st := []) C67 (by decide) ok_X5_feed li_X5_feed ls_X5_feed lm_L_27 cls5 (sx_k0 hS) rfl rfl (Nat.le_of_ble_eq_true rfl) dL_law_277) ?_
              have zm65 : SameSh m m65 := (kc_X5_feed m (xs (a3 + (1 : Int32)).toNatClampNeg) hS v64 m65 e66).1.2.2 rfl
              have hS := hS.sh zm65
              have hSM := hSM.sh zm65
              refine Cv.go (pc' := 281) (go_aload_n (i := 2) (x := 40) dL_law_280 rfl rfl) ?_
              refine Cv.go (pc' := 282) (go_aload_nr (i := 0) (x := 0) dL_law_281 rfl rfl) ?_
              refine Cv.go (pc' := 283) (go_iload_n (i := 3) (x := a3) dL_law_282 rfl rfl) ?_
              refine Cv.go (pc' := 284) (go_iconst dL_law_283 ic_1) ?_
              refine Cv.go (pc' := 285) (go_iadd dL_law_284) ?_
              refine Cv.gif fun g68 => ?_
              refine Cv.go (pc' := 286) (go_rdX g68 dL_law_285) ?_
              refine Cv.bnd fun v69 m70 e71 => ?_
              have C72 := kc_X6_feed m65 (xs (a3 + (1 : Int32)).toNatClampNeg) hSM v69 m70 e71
              have C72 := C72.wk (sp' := false) (fun z => by cases z)
              refine Cv.go (pc' := 289) (st' := [.int v69, .int v64]) (go_callV (As := [.int (xs (a3 + (1 : Int32)).toNatClampNeg)]) (st := [.int v64]) C72 (by decide) ok_X6_feed li_X6_feed ls_X6_feed lm_L_31 cls6 (sx_k40 hSM) rfl rfl (Nat.le_of_ble_eq_true rfl) dL_law_286) ?_
              have zm70 : SameSh m65 m70 := (kc_X6_feed m65 (xs (a3 + (1 : Int32)).toNatClampNeg) hSM v69 m70 e71).1.2.2 rfl
              have hS := hS.sh zm70
              have hSM := hSM.sh zm70
              refine Cv.ite (fun h73 => ?_) (fun h73 => ?_)
              · refine Cv.go (pc' := 1101) (go_icmp_eq_t (tgt := 1101) dL_law_289 rfl h73) ?_
                exact c_L_law_1101 L0 xs (F_L_law_18 L0 xs n) ih m70 a3 hS hSM
              · refine Cv.go (pc' := 292) (go_icmp_eq_f 1101 dL_law_289 rfl h73) ?_
                refine Cv.go (pc' := 293) (go_iconst dL_law_292 ic_0) ?_
                exact Cv.ret dL_law_293 rfl
            · refine Cv.ite (fun h74 => ?_) (fun h74 => ?_)
              · refine Cv.go (pc' := 294) (go_tsIn (off := 261) (tgt := 294) dL_law_33 (by rw [h74]; decide) (by rw [h74]; decide) (by rw [h74]; rfl) rfl) ?_
                refine Cv.go (pc' := 295) (go_aload_n (i := 1) (x := 0) dL_law_294 rfl rfl) ?_
                refine Cv.bnd fun v75 m76 e77 => ?_
                have C78 := kc_X5_text m 0 v75 m76 e77
                refine Cv.go (pc' := 298) (st' := [.int v75]) (go_callV (As := []) (st := []) C78 (by decide) ok_X5_text li_X5_text ls_X5_text lm_L_32 cls5 (sx_k0 hS) rfl rfl (Nat.le_of_ble_eq_true rfl) dL_law_295) ?_
                refine Cv.gif fun g79 => ?_
                obtain ⟨hS, hSM⟩ := g79
                refine Cv.go (pc' := 299) (go_aload_n (i := 2) (x := 40) dL_law_298 rfl rfl) ?_
                refine Cv.bnd fun v80 m81 e82 => ?_
                have C83 := kc_X6_text m76 hSM v80 m81 e82
                have C83 := C83.wk (sp' := false) (fun z => by cases z)
                refine Cv.go (pc' := 302) (st' := [.int v80, .int v75]) (go_callV (As := []) (st := [.int v75]) C83 (by decide) ok_X6_text li_X6_text ls_X6_text lm_L_36 cls6 (sx_k40 hSM) rfl rfl (Nat.le_of_ble_eq_true rfl) dL_law_299) ?_
                have zm81 : SameSh m76 m81 := (kc_X6_text m76 hSM v80 m81 e82).1.2.2 rfl
                have hS := hS.sh zm81
                have hSM := hSM.sh zm81
                refine Cv.ite (fun h84 => ?_) (fun h84 => ?_)
                · refine Cv.go (pc' := 1101) (go_icmp_eq_t (tgt := 1101) dL_law_302 rfl h84) ?_
                  exact c_L_law_1101 L0 xs (F_L_law_18 L0 xs n) ih m81 a3 hS hSM
                · refine Cv.go (pc' := 305) (go_icmp_eq_f 1101 dL_law_302 rfl h84) ?_
                  refine Cv.go (pc' := 306) (go_iconst dL_law_305 ic_0) ?_
                  exact Cv.ret dL_law_306 rfl
              · refine Cv.ite (fun h85 => ?_) (fun h85 => ?_)
                · refine Cv.go (pc' := 307) (go_tsIn (off := 274) (tgt := 307) dL_law_33 (by rw [h85]; decide) (by rw [h85]; decide) (by rw [h85]; rfl) rfl) ?_
                  refine Cv.go (pc' := 308) (go_aload_n (i := 1) (x := 0) dL_law_307 rfl rfl) ?_
                  refine Cv.go (pc' := 309) (go_aload_nr (i := 0) (x := 0) dL_law_308 rfl rfl) ?_
                  refine Cv.go (pc' := 310) (go_iload_n (i := 3) (x := a3) dL_law_309 rfl rfl) ?_
                  refine Cv.go (pc' := 311) (go_iconst dL_law_310 ic_1) ?_
                  refine Cv.go (pc' := 312) (go_iadd dL_law_311) ?_
                  refine Cv.gif fun g86 => ?_
                  refine Cv.go (pc' := 313) (go_rdX g86 dL_law_312) ?_
                  refine Cv.bnd fun v87 m88 e89 => ?_
                  have C90 := kc_X5_force m (xs (a3 + (1 : Int32)).toNatClampNeg) hS v87 m88 e89
                  have C90 := C90.wk (sp' := false) (fun z => by cases z)
                  refine Cv.go (pc' := 316) (st' := [.int v87]) (go_callV (As := [.int (xs (a3 + (1 : Int32)).toNatClampNeg)]) (st := []) C90 (by decide) ok_X5_force li_X5_force ls_X5_force lm_L_37 cls5 (sx_k0 hS) rfl rfl (Nat.le_of_ble_eq_true rfl) dL_law_313) ?_
                  have zm88 : SameSh m m88 := (kc_X5_force m (xs (a3 + (1 : Int32)).toNatClampNeg) hS v87 m88 e89).1.2.2 rfl
                  have hS := hS.sh zm88
                  have hSM := hSM.sh zm88
                  refine Cv.go (pc' := 317) (go_aload_n (i := 2) (x := 40) dL_law_316 rfl rfl) ?_
                  refine Cv.go (pc' := 318) (go_aload_nr (i := 0) (x := 0) dL_law_317 rfl rfl) ?_
                  refine Cv.go (pc' := 319) (go_iload_n (i := 3) (x := a3) dL_law_318 rfl rfl) ?_
                  refine Cv.go (pc' := 320) (go_iconst dL_law_319 ic_1) ?_
                  refine Cv.go (pc' := 321) (go_iadd dL_law_320) ?_
                  refine Cv.gif fun g91 => ?_
                  refine Cv.go (pc' := 322) (go_rdX g91 dL_law_321) ?_
                  refine Cv.bnd fun v92 m93 e94 => ?_
                  have C95 := kc_X6_force m88 (xs (a3 + (1 : Int32)).toNatClampNeg) hSM v92 m93 e94
                  have C95 := C95.wk (sp' := false) (fun z => by cases z)
                  refine Cv.go (pc' := 325) (st' := [.int v92, .int v87]) (go_callV (As := [.int (xs (a3 + (1 : Int32)).toNatClampNeg)]) (st := [.int v87]) C95 (by decide) ok_X6_force li_X6_force ls_X6_force lm_L_40 cls6 (sx_k40 hSM) rfl rfl (Nat.le_of_ble_eq_true rfl) dL_law_322) ?_
                  have zm93 : SameSh m88 m93 := (kc_X6_force m88 (xs (a3 + (1 : Int32)).toNatClampNeg) hSM v92 m93 e94).1.2.2 rfl
                  have hS := hS.sh zm93
                  have hSM := hSM.sh zm93
                  refine Cv.ite (fun h96 => ?_) (fun h96 => ?_)
                  · refine Cv.go (pc' := 1101) (go_icmp_eq_t (tgt := 1101) dL_law_325 rfl h96) ?_
                    exact c_L_law_1101 L0 xs (F_L_law_18 L0 xs n) ih m93 a3 hS hSM
                  · refine Cv.go (pc' := 328) (go_icmp_eq_f 1101 dL_law_325 rfl h96) ?_
                    refine Cv.go (pc' := 329) (go_iconst dL_law_328 ic_0) ?_
                    exact Cv.ret dL_law_329 rfl
                · refine Cv.ite (fun h97 => ?_) (fun h97 => ?_)
                  · refine Cv.go (pc' := 330) (go_tsIn (off := 297) (tgt := 330) dL_law_33 (by rw [h97]; decide) (by rw [h97]; decide) (by rw [h97]; rfl) rfl) ?_
                    refine Cv.go (pc' := 331) (go_aload_n (i := 1) (x := 0) dL_law_330 rfl rfl) ?_
                    refine Cv.bnd fun v98 m99 e100 => ?_
                    have C101 := kc_X5_day m hS v98 m99 e100
                    have C101 := C101.wk (sp' := false) (fun z => by cases z)
                    refine Cv.go (pc' := 334) (st' := [.int v98]) (go_callV (As := []) (st := []) C101 (by decide) ok_X5_day li_X5_day ls_X5_day lm_L_41 cls5 (sx_k0 hS) rfl rfl (Nat.le_of_ble_eq_true rfl) dL_law_331) ?_
                    have zm99 : SameSh m m99 := (kc_X5_day m hS v98 m99 e100).1.2.2 rfl
                    have hS := hS.sh zm99
                    have hSM := hSM.sh zm99
                    refine Cv.go (pc' := 335) (go_aload_n (i := 2) (x := 40) dL_law_334 rfl rfl) ?_
                    refine Cv.bnd fun v102 m103 e104 => ?_
                    have C105 := kc_X6_day m99 hSM v102 m103 e104
                    have C105 := C105.wk (sp' := false) (fun z => by cases z)
                    refine Cv.go (pc' := 338) (st' := [.int v102, .int v98]) (go_callV (As := []) (st := [.int v98]) C105 (by decide) ok_X6_day li_X6_day ls_X6_day lm_L_44 cls6 (sx_k40 hSM) rfl rfl (Nat.le_of_ble_eq_true rfl) dL_law_335) ?_
                    have zm103 : SameSh m99 m103 := (kc_X6_day m99 hSM v102 m103 e104).1.2.2 rfl
                    have hS := hS.sh zm103
                    have hSM := hSM.sh zm103
                    refine Cv.ite (fun h106 => ?_) (fun h106 => ?_)
                    · refine Cv.go (pc' := 1101) (go_icmp_eq_t (tgt := 1101) dL_law_338 rfl h106) ?_
                      exact c_L_law_1101 L0 xs (F_L_law_18 L0 xs n) ih m103 a3 hS hSM
                    · refine Cv.go (pc' := 341) (go_icmp_eq_f 1101 dL_law_338 rfl h106) ?_
                      refine Cv.go (pc' := 342) (go_iconst dL_law_341 ic_0) ?_
                      exact Cv.ret dL_law_342 rfl
                  · refine Cv.ite (fun h107 => ?_) (fun h107 => ?_)
                    · refine Cv.go (pc' := 343) (go_tsIn (off := 310) (tgt := 343) dL_law_33 (by rw [h107]; decide) (by rw [h107]; decide) (by rw [h107]; rfl) rfl) ?_
                      refine Cv.go (pc' := 344) (go_aload_n (i := 1) (x := 0) dL_law_343 rfl rfl) ?_
                      refine Cv.go (pc' := 345) (go_aload_nr (i := 0) (x := 0) dL_law_344 rfl rfl) ?_
                      refine Cv.go (pc' := 346) (go_iload_n (i := 3) (x := a3) dL_law_345 rfl rfl) ?_
                      refine Cv.go (pc' := 347) (go_iconst dL_law_346 ic_1) ?_
                      refine Cv.go (pc' := 348) (go_iadd dL_law_347) ?_
                      refine Cv.gif fun g108 => ?_
                      refine Cv.go (pc' := 349) (go_rdX g108 dL_law_348) ?_
                      refine Cv.go (pc' := 350) (go_aload_nr (i := 0) (x := 0) dL_law_349 rfl rfl) ?_
                      refine Cv.go (pc' := 351) (go_iload_n (i := 3) (x := a3) dL_law_350 rfl rfl) ?_
                      refine Cv.go (pc' := 352) (go_iconst dL_law_351 ic_2) ?_
                      refine Cv.go (pc' := 353) (go_iadd dL_law_352) ?_
                      refine Cv.gif fun g109 => ?_
                      refine Cv.go (pc' := 354) (go_rdX g109 dL_law_353) ?_
                      refine Cv.bnd fun v110 m111 e112 => ?_
                      have C113 := kc_X5_pay m (xs (a3 + (1 : Int32)).toNatClampNeg) (xs (a3 + (2 : Int32)).toNatClampNeg) hS v110 m111 e112
                      have C113 := C113.wk (sp' := false) (fun z => by cases z)
                      refine Cv.go (pc' := 357) (st' := [.int v110]) (go_callV (As := [.int (xs (a3 + (1 : Int32)).toNatClampNeg), .int (xs (a3 + (2 : Int32)).toNatClampNeg)]) (st := []) C113 (by decide) ok_X5_pay li_X5_pay ls_X5_pay lm_L_45 cls5 (sx_k0 hS) rfl rfl (Nat.le_of_ble_eq_true rfl) dL_law_354) ?_
                      have zm111 : SameSh m m111 := (kc_X5_pay m (xs (a3 + (1 : Int32)).toNatClampNeg) (xs (a3 + (2 : Int32)).toNatClampNeg) hS v110 m111 e112).1.2.2 rfl
                      have hS := hS.sh zm111
                      have hSM := hSM.sh zm111
                      refine Cv.go (pc' := 358) (go_aload_n (i := 2) (x := 40) dL_law_357 rfl rfl) ?_
                      refine Cv.go (pc' := 359) (go_aload_nr (i := 0) (x := 0) dL_law_358 rfl rfl) ?_
                      refine Cv.go (pc' := 360) (go_iload_n (i := 3) (x := a3) dL_law_359 rfl rfl) ?_
                      refine Cv.go (pc' := 361) (go_iconst dL_law_360 ic_1) ?_
                      refine Cv.go (pc' := 362) (go_iadd dL_law_361) ?_
                      refine Cv.gif fun g114 => ?_
                      refine Cv.go (pc' := 363) (go_rdX g114 dL_law_362) ?_
                      refine Cv.go (pc' := 364) (go_aload_nr (i := 0) (x := 0) dL_law_363 rfl rfl) ?_
                      refine Cv.go (pc' := 365) (go_iload_n (i := 3) (x := a3) dL_law_364 rfl rfl) ?_
                      refine Cv.go (pc' := 366) (go_iconst dL_law_365 ic_2) ?_
                      refine Cv.go (pc' := 367) (go_iadd dL_law_366) ?_
                      refine Cv.gif fun g115 => ?_
                      refine Cv.go (pc' := 368) (go_rdX g115 dL_law_367) ?_
                      refine Cv.bnd fun v116 m117 e118 => ?_
                      have C119 := kc_X6_pay m111 (xs (a3 + (1 : Int32)).toNatClampNeg) (xs (a3 + (2 : Int32)).toNatClampNeg) hSM v116 m117 e118
                      have C119 := C119.wk (sp' := false) (fun z => by cases z)
                      refine Cv.go (pc' := 371) (st' := [.int v116, .int v110]) (go_callV (As := [.int (xs (a3 + (1 : Int32)).toNatClampNeg), .int (xs (a3 + (2 : Int32)).toNatClampNeg)]) (st := [.int v110]) C119 (by decide) ok_X6_pay li_X6_pay ls_X6_pay lm_L_48 cls6 (sx_k40 hSM) rfl rfl (Nat.le_of_ble_eq_true rfl) dL_law_368) ?_
                      have zm117 : SameSh m111 m117 := (kc_X6_pay m111 (xs (a3 + (1 : Int32)).toNatClampNeg) (xs (a3 + (2 : Int32)).toNatClampNeg) hSM v116 m117 e118).1.2.2 rfl
                      have hS := hS.sh zm117
                      have hSM := hSM.sh zm117
                      refine Cv.ite (fun h120 => ?_) (fun h120 => ?_)
                      · refine Cv.go (pc' := 1101) (go_icmp_eq_t (tgt := 1101) dL_law_371 rfl h120) ?_
                        exact c_L_law_1101 L0 xs (F_L_law_18 L0 xs n) ih m117 a3 hS hSM
                      · refine Cv.go (pc' := 374) (go_icmp_eq_f 1101 dL_law_371 rfl h120) ?_
                        refine Cv.go (pc' := 375) (go_iconst dL_law_374 ic_0) ?_
                        exact Cv.ret dL_law_375 rfl
                    · refine Cv.ite (fun h121 => ?_) (fun h121 => ?_)
                      · refine Cv.go (pc' := 376) (go_tsIn (off := 343) (tgt := 376) dL_law_33 (by rw [h121]; decide) (by rw [h121]; decide) (by rw [h121]; rfl) rfl) ?_
                        refine Cv.go (pc' := 377) (go_aload_n (i := 1) (x := 0) dL_law_376 rfl rfl) ?_
                        refine Cv.go (pc' := 378) (go_aload_nr (i := 0) (x := 0) dL_law_377 rfl rfl) ?_
                        refine Cv.go (pc' := 379) (go_iload_n (i := 3) (x := a3) dL_law_378 rfl rfl) ?_
                        refine Cv.go (pc' := 380) (go_iconst dL_law_379 ic_1) ?_
                        refine Cv.go (pc' := 381) (go_iadd dL_law_380) ?_
                        refine Cv.gif fun g122 => ?_
                        refine Cv.go (pc' := 382) (go_rdX g122 dL_law_381) ?_
                        refine Cv.go (pc' := 383) (go_aload_nr (i := 0) (x := 0) dL_law_382 rfl rfl) ?_
                        refine Cv.go (pc' := 384) (go_iload_n (i := 3) (x := a3) dL_law_383 rfl rfl) ?_
                        refine Cv.go (pc' := 385) (go_iconst dL_law_384 ic_2) ?_
                        refine Cv.go (pc' := 386) (go_iadd dL_law_385) ?_
                        refine Cv.gif fun g123 => ?_
                        refine Cv.go (pc' := 387) (go_rdX g123 dL_law_386) ?_
                        refine Cv.go (pc' := 388) (go_aload_nr (i := 0) (x := 0) dL_law_387 rfl rfl) ?_
                        refine Cv.go (pc' := 389) (go_iload_n (i := 3) (x := a3) dL_law_388 rfl rfl) ?_
                        refine Cv.go (pc' := 390) (go_iconst dL_law_389 ic_3) ?_
                        refine Cv.go (pc' := 391) (go_iadd dL_law_390) ?_
                        refine Cv.gif fun g124 => ?_
                        refine Cv.go (pc' := 392) (go_rdX g124 dL_law_391) ?_
                        refine Cv.bnd fun v125 m126 e127 => ?_
                        have C128 := kc_X5_buy m (xs (a3 + (1 : Int32)).toNatClampNeg) (xs (a3 + (2 : Int32)).toNatClampNeg) (xs (a3 + (3 : Int32)).toNatClampNeg) hS v125 m126 e127
                        have C128 := C128.wk (sp' := false) (fun z => by cases z)
                        refine Cv.go (pc' := 395) (st' := [.int v125]) (go_callV (As := [.int (xs (a3 + (1 : Int32)).toNatClampNeg), .int (xs (a3 + (2 : Int32)).toNatClampNeg), .int (xs (a3 + (3 : Int32)).toNatClampNeg)]) (st := []) C128 (by decide) ok_X5_buy li_X5_buy ls_X5_buy lm_L_49 cls5 (sx_k0 hS) rfl rfl (Nat.le_of_ble_eq_true rfl) dL_law_392) ?_
                        have zm126 : SameSh m m126 := (kc_X5_buy m (xs (a3 + (1 : Int32)).toNatClampNeg) (xs (a3 + (2 : Int32)).toNatClampNeg) (xs (a3 + (3 : Int32)).toNatClampNeg) hS v125 m126 e127).1.2.2 rfl
                        have hS := hS.sh zm126
                        have hSM := hSM.sh zm126
                        refine Cv.go (pc' := 396) (go_aload_n (i := 2) (x := 40) dL_law_395 rfl rfl) ?_
                        refine Cv.go (pc' := 397) (go_aload_nr (i := 0) (x := 0) dL_law_396 rfl rfl) ?_
                        refine Cv.go (pc' := 398) (go_iload_n (i := 3) (x := a3) dL_law_397 rfl rfl) ?_
                        refine Cv.go (pc' := 399) (go_iconst dL_law_398 ic_1) ?_
                        refine Cv.go (pc' := 400) (go_iadd dL_law_399) ?_
                        refine Cv.gif fun g129 => ?_
                        refine Cv.go (pc' := 401) (go_rdX g129 dL_law_400) ?_
                        refine Cv.go (pc' := 402) (go_aload_nr (i := 0) (x := 0) dL_law_401 rfl rfl) ?_
                        refine Cv.go (pc' := 403) (go_iload_n (i := 3) (x := a3) dL_law_402 rfl rfl) ?_
                        refine Cv.go (pc' := 404) (go_iconst dL_law_403 ic_2) ?_
                        refine Cv.go (pc' := 405) (go_iadd dL_law_404) ?_
                        refine Cv.gif fun g130 => ?_
                        refine Cv.go (pc' := 406) (go_rdX g130 dL_law_405) ?_
                        refine Cv.go (pc' := 407) (go_aload_nr (i := 0) (x := 0) dL_law_406 rfl rfl) ?_
                        refine Cv.go (pc' := 408) (go_iload_n (i := 3) (x := a3) dL_law_407 rfl rfl) ?_
                        refine Cv.go (pc' := 409) (go_iconst dL_law_408 ic_3) ?_
                        refine Cv.go (pc' := 410) (go_iadd dL_law_409) ?_
                        refine Cv.gif fun g131 => ?_
                        refine Cv.go (pc' := 411) (go_rdX g131 dL_law_410) ?_
                        refine Cv.bnd fun v132 m133 e134 => ?_
                        have C135 := kc_X6_buy m126 (xs (a3 + (1 : Int32)).toNatClampNeg) (xs (a3 + (2 : Int32)).toNatClampNeg) (xs (a3 + (3 : Int32)).toNatClampNeg) hSM v132 m133 e134
                        have C135 := C135.wk (sp' := false) (fun z => by cases z)
                        refine Cv.go (pc' := 414) (st' := [.int v132, .int v125]) (go_callV (As := [.int (xs (a3 + (1 : Int32)).toNatClampNeg), .int (xs (a3 + (2 : Int32)).toNatClampNeg), .int (xs (a3 + (3 : Int32)).toNatClampNeg)]) (st := [.int v125]) C135 (by decide) ok_X6_buy li_X6_buy ls_X6_buy lm_L_52 cls6 (sx_k40 hSM) rfl rfl (Nat.le_of_ble_eq_true rfl) dL_law_411) ?_
                        have zm133 : SameSh m126 m133 := (kc_X6_buy m126 (xs (a3 + (1 : Int32)).toNatClampNeg) (xs (a3 + (2 : Int32)).toNatClampNeg) (xs (a3 + (3 : Int32)).toNatClampNeg) hSM v132 m133 e134).1.2.2 rfl
                        have hS := hS.sh zm133
                        have hSM := hSM.sh zm133
                        refine Cv.ite (fun h136 => ?_) (fun h136 => ?_)
                        · refine Cv.go (pc' := 1101) (go_icmp_eq_t (tgt := 1101) dL_law_414 rfl h136) ?_
                          exact c_L_law_1101 L0 xs (F_L_law_18 L0 xs n) ih m133 a3 hS hSM
                        · refine Cv.go (pc' := 417) (go_icmp_eq_f 1101 dL_law_414 rfl h136) ?_
                          refine Cv.go (pc' := 418) (go_iconst dL_law_417 ic_0) ?_
                          exact Cv.ret dL_law_418 rfl
                      · refine Cv.ite (fun h137 => ?_) (fun h137 => ?_)
                        · refine Cv.go (pc' := 419) (go_tsIn (off := 386) (tgt := 419) dL_law_33 (by rw [h137]; decide) (by rw [h137]; decide) (by rw [h137]; rfl) rfl) ?_
                          refine Cv.go (pc' := 420) (go_aload_n (i := 1) (x := 0) dL_law_419 rfl rfl) ?_
                          refine Cv.go (pc' := 421) (go_aload_nr (i := 0) (x := 0) dL_law_420 rfl rfl) ?_
                          refine Cv.go (pc' := 422) (go_iload_n (i := 3) (x := a3) dL_law_421 rfl rfl) ?_
                          refine Cv.go (pc' := 423) (go_iconst dL_law_422 ic_1) ?_
                          refine Cv.go (pc' := 424) (go_iadd dL_law_423) ?_
                          refine Cv.gif fun g138 => ?_
                          refine Cv.go (pc' := 425) (go_rdX g138 dL_law_424) ?_
                          refine Cv.go (pc' := 426) (go_aload_nr (i := 0) (x := 0) dL_law_425 rfl rfl) ?_
                          refine Cv.go (pc' := 427) (go_iload_n (i := 3) (x := a3) dL_law_426 rfl rfl) ?_
                          refine Cv.go (pc' := 428) (go_iconst dL_law_427 ic_2) ?_
                          refine Cv.go (pc' := 429) (go_iadd dL_law_428) ?_
                          refine Cv.gif fun g139 => ?_
                          refine Cv.go (pc' := 430) (go_rdX g139 dL_law_429) ?_
                          refine Cv.bnd fun v140 m141 e142 => ?_
                          have C143 := kc_X5_has m (xs (a3 + (1 : Int32)).toNatClampNeg) (xs (a3 + (2 : Int32)).toNatClampNeg) hS v140 m141 e142
                          have C143 := C143.wk (sp' := false) (fun z => by cases z)
                          refine Cv.go (pc' := 433) (st' := [.int v140]) (go_callV (As := [.int (xs (a3 + (1 : Int32)).toNatClampNeg), .int (xs (a3 + (2 : Int32)).toNatClampNeg)]) (st := []) C143 (by decide) ok_X5_has li_X5_has ls_X5_has lm_L_53 cls5 (sx_k0 hS) rfl rfl (Nat.le_of_ble_eq_true rfl) dL_law_430) ?_
                          have zm141 : SameSh m m141 := (kc_X5_has m (xs (a3 + (1 : Int32)).toNatClampNeg) (xs (a3 + (2 : Int32)).toNatClampNeg) hS v140 m141 e142).1.2.2 rfl
                          have hS := hS.sh zm141
                          have hSM := hSM.sh zm141
                          refine Cv.go (pc' := 434) (go_aload_n (i := 2) (x := 40) dL_law_433 rfl rfl) ?_
                          refine Cv.go (pc' := 435) (go_aload_nr (i := 0) (x := 0) dL_law_434 rfl rfl) ?_
                          refine Cv.go (pc' := 436) (go_iload_n (i := 3) (x := a3) dL_law_435 rfl rfl) ?_
                          refine Cv.go (pc' := 437) (go_iconst dL_law_436 ic_1) ?_
                          refine Cv.go (pc' := 438) (go_iadd dL_law_437) ?_
                          refine Cv.gif fun g144 => ?_
                          refine Cv.go (pc' := 439) (go_rdX g144 dL_law_438) ?_
                          refine Cv.go (pc' := 440) (go_aload_nr (i := 0) (x := 0) dL_law_439 rfl rfl) ?_
                          refine Cv.go (pc' := 441) (go_iload_n (i := 3) (x := a3) dL_law_440 rfl rfl) ?_
                          refine Cv.go (pc' := 442) (go_iconst dL_law_441 ic_2) ?_
                          refine Cv.go (pc' := 443) (go_iadd dL_law_442) ?_
                          refine Cv.gif fun g145 => ?_
                          refine Cv.go (pc' := 444) (go_rdX g145 dL_law_443) ?_
                          refine Cv.bnd fun v146 m147 e148 => ?_
                          have C149 := kc_X6_has m141 (xs (a3 + (1 : Int32)).toNatClampNeg) (xs (a3 + (2 : Int32)).toNatClampNeg) hSM v146 m147 e148
                          have C149 := C149.wk (sp' := false) (fun z => by cases z)
                          refine Cv.go (pc' := 447) (st' := [.int v146, .int v140]) (go_callV (As := [.int (xs (a3 + (1 : Int32)).toNatClampNeg), .int (xs (a3 + (2 : Int32)).toNatClampNeg)]) (st := [.int v140]) C149 (by decide) ok_X6_has li_X6_has ls_X6_has lm_L_56 cls6 (sx_k40 hSM) rfl rfl (Nat.le_of_ble_eq_true rfl) dL_law_444) ?_
                          have zm147 : SameSh m141 m147 := (kc_X6_has m141 (xs (a3 + (1 : Int32)).toNatClampNeg) (xs (a3 + (2 : Int32)).toNatClampNeg) hSM v146 m147 e148).1.2.2 rfl
                          have hS := hS.sh zm147
                          have hSM := hSM.sh zm147
                          refine Cv.ite (fun h150 => ?_) (fun h150 => ?_)
                          · refine Cv.go (pc' := 1101) (go_icmp_eq_t (tgt := 1101) dL_law_447 rfl h150) ?_
                            exact c_L_law_1101 L0 xs (F_L_law_18 L0 xs n) ih m147 a3 hS hSM
                          · refine Cv.go (pc' := 450) (go_icmp_eq_f 1101 dL_law_447 rfl h150) ?_
                            refine Cv.go (pc' := 451) (go_iconst dL_law_450 ic_0) ?_
                            exact Cv.ret dL_law_451 rfl
                        · refine Cv.ite (fun h151 => ?_) (fun h151 => ?_)
                          · refine Cv.go (pc' := 452) (go_tsIn (off := 419) (tgt := 452) dL_law_33 (by rw [h151]; decide) (by rw [h151]; decide) (by rw [h151]; rfl) rfl) ?_
                            refine Cv.go (pc' := 453) (go_aload_n (i := 1) (x := 0) dL_law_452 rfl rfl) ?_
                            refine Cv.go (pc' := 454) (go_aload_nr (i := 0) (x := 0) dL_law_453 rfl rfl) ?_
                            refine Cv.go (pc' := 455) (go_iload_n (i := 3) (x := a3) dL_law_454 rfl rfl) ?_
                            refine Cv.go (pc' := 456) (go_iconst dL_law_455 ic_1) ?_
                            refine Cv.go (pc' := 457) (go_iadd dL_law_456) ?_
                            refine Cv.gif fun g152 => ?_
                            refine Cv.go (pc' := 458) (go_rdX g152 dL_law_457) ?_
                            refine Cv.go (pc' := 459) (go_aload_nr (i := 0) (x := 0) dL_law_458 rfl rfl) ?_
                            refine Cv.go (pc' := 460) (go_iload_n (i := 3) (x := a3) dL_law_459 rfl rfl) ?_
                            refine Cv.go (pc' := 461) (go_iconst dL_law_460 ic_2) ?_
                            refine Cv.go (pc' := 462) (go_iadd dL_law_461) ?_
                            refine Cv.gif fun g153 => ?_
                            refine Cv.go (pc' := 463) (go_rdX g153 dL_law_462) ?_
                            refine Cv.go (pc' := 464) (go_aload_nr (i := 0) (x := 0) dL_law_463 rfl rfl) ?_
                            refine Cv.go (pc' := 465) (go_iload_n (i := 3) (x := a3) dL_law_464 rfl rfl) ?_
                            refine Cv.go (pc' := 466) (go_iconst dL_law_465 ic_3) ?_
                            refine Cv.go (pc' := 467) (go_iadd dL_law_466) ?_
                            refine Cv.gif fun g154 => ?_
                            refine Cv.go (pc' := 468) (go_rdX g154 dL_law_467) ?_
                            refine Cv.bnd fun v155 m156 e157 => ?_
                            have C158 := kc_X5_run m (xs (a3 + (1 : Int32)).toNatClampNeg) (xs (a3 + (2 : Int32)).toNatClampNeg) (xs (a3 + (3 : Int32)).toNatClampNeg) hS v155 m156 e157
                            have C158 := C158.wk (sp' := false) (fun z => by cases z)
                            refine Cv.go (pc' := 471) (st' := [.int v155]) (go_callV (As := [.int (xs (a3 + (1 : Int32)).toNatClampNeg), .int (xs (a3 + (2 : Int32)).toNatClampNeg), .int (xs (a3 + (3 : Int32)).toNatClampNeg)]) (st := []) C158 (by decide) ok_X5_run li_X5_run ls_X5_run lm_L_57 cls5 (sx_k0 hS) rfl rfl (Nat.le_of_ble_eq_true rfl) dL_law_468) ?_
                            have zm156 : SameSh m m156 := (kc_X5_run m (xs (a3 + (1 : Int32)).toNatClampNeg) (xs (a3 + (2 : Int32)).toNatClampNeg) (xs (a3 + (3 : Int32)).toNatClampNeg) hS v155 m156 e157).1.2.2 rfl
                            have hS := hS.sh zm156
                            have hSM := hSM.sh zm156
                            refine Cv.go (pc' := 472) (go_aload_n (i := 2) (x := 40) dL_law_471 rfl rfl) ?_
                            refine Cv.go (pc' := 473) (go_aload_nr (i := 0) (x := 0) dL_law_472 rfl rfl) ?_
                            refine Cv.go (pc' := 474) (go_iload_n (i := 3) (x := a3) dL_law_473 rfl rfl) ?_
                            refine Cv.go (pc' := 475) (go_iconst dL_law_474 ic_1) ?_
                            refine Cv.go (pc' := 476) (go_iadd dL_law_475) ?_
                            refine Cv.gif fun g159 => ?_
                            refine Cv.go (pc' := 477) (go_rdX g159 dL_law_476) ?_
                            refine Cv.go (pc' := 478) (go_aload_nr (i := 0) (x := 0) dL_law_477 rfl rfl) ?_
                            refine Cv.go (pc' := 479) (go_iload_n (i := 3) (x := a3) dL_law_478 rfl rfl) ?_
                            refine Cv.go (pc' := 480) (go_iconst dL_law_479 ic_2) ?_
                            refine Cv.go (pc' := 481) (go_iadd dL_law_480) ?_
                            refine Cv.gif fun g160 => ?_
                            refine Cv.go (pc' := 482) (go_rdX g160 dL_law_481) ?_
                            refine Cv.go (pc' := 483) (go_aload_nr (i := 0) (x := 0) dL_law_482 rfl rfl) ?_
                            refine Cv.go (pc' := 484) (go_iload_n (i := 3) (x := a3) dL_law_483 rfl rfl) ?_
                            refine Cv.go (pc' := 485) (go_iconst dL_law_484 ic_3) ?_
                            refine Cv.go (pc' := 486) (go_iadd dL_law_485) ?_
                            refine Cv.gif fun g161 => ?_
                            refine Cv.go (pc' := 487) (go_rdX g161 dL_law_486) ?_
                            refine Cv.bnd fun v162 m163 e164 => ?_
                            have C165 := kc_X6_run m156 (xs (a3 + (1 : Int32)).toNatClampNeg) (xs (a3 + (2 : Int32)).toNatClampNeg) (xs (a3 + (3 : Int32)).toNatClampNeg) hSM v162 m163 e164
                            have C165 := C165.wk (sp' := false) (fun z => by cases z)
                            refine Cv.go (pc' := 490) (st' := [.int v162, .int v155]) (go_callV (As := [.int (xs (a3 + (1 : Int32)).toNatClampNeg), .int (xs (a3 + (2 : Int32)).toNatClampNeg), .int (xs (a3 + (3 : Int32)).toNatClampNeg)]) (st := [.int v155]) C165 (by decide) ok_X6_run li_X6_run ls_X6_run lm_L_60 cls6 (sx_k40 hSM) rfl rfl (Nat.le_of_ble_eq_true rfl) dL_law_487) ?_
                            have zm163 : SameSh m156 m163 := (kc_X6_run m156 (xs (a3 + (1 : Int32)).toNatClampNeg) (xs (a3 + (2 : Int32)).toNatClampNeg) (xs (a3 + (3 : Int32)).toNatClampNeg) hSM v162 m163 e164).1.2.2 rfl
                            have hS := hS.sh zm163
                            have hSM := hSM.sh zm163
                            refine Cv.ite (fun h166 => ?_) (fun h166 => ?_)
                            · refine Cv.go (pc' := 1101) (go_icmp_eq_t (tgt := 1101) dL_law_490 rfl h166) ?_
                              exact c_L_law_1101 L0 xs (F_L_law_18 L0 xs n) ih m163 a3 hS hSM
                            · refine Cv.go (pc' := 493) (go_icmp_eq_f 1101 dL_law_490 rfl h166) ?_
                              refine Cv.go (pc' := 494) (go_iconst dL_law_493 ic_0) ?_
                              exact Cv.ret dL_law_494 rfl
                          · refine Cv.ite (fun h167 => ?_) (fun h167 => ?_)
                            · refine Cv.go (pc' := 495) (go_tsIn (off := 462) (tgt := 495) dL_law_33 (by rw [h167]; decide) (by rw [h167]; decide) (by rw [h167]; rfl) rfl) ?_
                              refine Cv.go (pc' := 496) (go_aload_n (i := 1) (x := 0) dL_law_495 rfl rfl) ?_
                              refine Cv.go (pc' := 497) (go_aload_nr (i := 0) (x := 0) dL_law_496 rfl rfl) ?_
                              refine Cv.go (pc' := 498) (go_iload_n (i := 3) (x := a3) dL_law_497 rfl rfl) ?_
                              refine Cv.go (pc' := 499) (go_iconst dL_law_498 ic_1) ?_
                              refine Cv.go (pc' := 500) (go_iadd dL_law_499) ?_
                              refine Cv.gif fun g168 => ?_
                              refine Cv.go (pc' := 501) (go_rdX g168 dL_law_500) ?_
                              refine Cv.go (pc' := 502) (go_aload_nr (i := 0) (x := 0) dL_law_501 rfl rfl) ?_
                              refine Cv.go (pc' := 503) (go_iload_n (i := 3) (x := a3) dL_law_502 rfl rfl) ?_
                              refine Cv.go (pc' := 504) (go_iconst dL_law_503 ic_2) ?_
                              refine Cv.go (pc' := 505) (go_iadd dL_law_504) ?_
                              refine Cv.gif fun g169 => ?_
                              refine Cv.go (pc' := 506) (go_rdX g169 dL_law_505) ?_
                              refine Cv.go (pc' := 507) (go_aload_nr (i := 0) (x := 0) dL_law_506 rfl rfl) ?_
                              refine Cv.go (pc' := 508) (go_iload_n (i := 3) (x := a3) dL_law_507 rfl rfl) ?_
                              refine Cv.go (pc' := 509) (go_iconst dL_law_508 ic_3) ?_
                              refine Cv.go (pc' := 510) (go_iadd dL_law_509) ?_
                              refine Cv.gif fun g170 => ?_
                              refine Cv.go (pc' := 511) (go_rdX g170 dL_law_510) ?_
                              refine Cv.bnd fun v171 m172 e173 => ?_
                              have C174 := kc_X5_exact m (xs (a3 + (1 : Int32)).toNatClampNeg) (xs (a3 + (2 : Int32)).toNatClampNeg) (xs (a3 + (3 : Int32)).toNatClampNeg) hS v171 m172 e173
                              have C174 := C174.wk (sp' := false) (fun z => by cases z)
                              refine Cv.go (pc' := 514) (st' := [.int v171]) (go_callV (As := [.int (xs (a3 + (1 : Int32)).toNatClampNeg), .int (xs (a3 + (2 : Int32)).toNatClampNeg), .int (xs (a3 + (3 : Int32)).toNatClampNeg)]) (st := []) C174 (by decide) ok_X5_exact li_X5_exact ls_X5_exact lm_L_61 cls5 (sx_k0 hS) rfl rfl (Nat.le_of_ble_eq_true rfl) dL_law_511) ?_
                              have zm172 : SameSh m m172 := (kc_X5_exact m (xs (a3 + (1 : Int32)).toNatClampNeg) (xs (a3 + (2 : Int32)).toNatClampNeg) (xs (a3 + (3 : Int32)).toNatClampNeg) hS v171 m172 e173).1.2.2 rfl
                              have hS := hS.sh zm172
                              have hSM := hSM.sh zm172
                              refine Cv.go (pc' := 515) (go_aload_n (i := 2) (x := 40) dL_law_514 rfl rfl) ?_
                              refine Cv.go (pc' := 516) (go_aload_nr (i := 0) (x := 0) dL_law_515 rfl rfl) ?_
                              refine Cv.go (pc' := 517) (go_iload_n (i := 3) (x := a3) dL_law_516 rfl rfl) ?_
                              refine Cv.go (pc' := 518) (go_iconst dL_law_517 ic_1) ?_
                              refine Cv.go (pc' := 519) (go_iadd dL_law_518) ?_
                              refine Cv.gif fun g175 => ?_
                              refine Cv.go (pc' := 520) (go_rdX g175 dL_law_519) ?_
                              refine Cv.go (pc' := 521) (go_aload_nr (i := 0) (x := 0) dL_law_520 rfl rfl) ?_
                              refine Cv.go (pc' := 522) (go_iload_n (i := 3) (x := a3) dL_law_521 rfl rfl) ?_
                              refine Cv.go (pc' := 523) (go_iconst dL_law_522 ic_2) ?_
                              refine Cv.go (pc' := 524) (go_iadd dL_law_523) ?_
                              refine Cv.gif fun g176 => ?_
                              refine Cv.go (pc' := 525) (go_rdX g176 dL_law_524) ?_
                              refine Cv.go (pc' := 526) (go_aload_nr (i := 0) (x := 0) dL_law_525 rfl rfl) ?_
                              refine Cv.go (pc' := 527) (go_iload_n (i := 3) (x := a3) dL_law_526 rfl rfl) ?_
                              refine Cv.go (pc' := 528) (go_iconst dL_law_527 ic_3) ?_
                              refine Cv.go (pc' := 529) (go_iadd dL_law_528) ?_
                              refine Cv.gif fun g177 => ?_
                              refine Cv.go (pc' := 530) (go_rdX g177 dL_law_529) ?_
                              refine Cv.bnd fun v178 m179 e180 => ?_
                              have C181 := kc_X6_exact m172 (xs (a3 + (1 : Int32)).toNatClampNeg) (xs (a3 + (2 : Int32)).toNatClampNeg) (xs (a3 + (3 : Int32)).toNatClampNeg) hSM v178 m179 e180
                              have C181 := C181.wk (sp' := false) (fun z => by cases z)
                              refine Cv.go (pc' := 533) (st' := [.int v178, .int v171]) (go_callV (As := [.int (xs (a3 + (1 : Int32)).toNatClampNeg), .int (xs (a3 + (2 : Int32)).toNatClampNeg), .int (xs (a3 + (3 : Int32)).toNatClampNeg)]) (st := [.int v171]) C181 (by decide) ok_X6_exact li_X6_exact ls_X6_exact lm_L_64 cls6 (sx_k40 hSM) rfl rfl (Nat.le_of_ble_eq_true rfl) dL_law_530) ?_
                              have zm179 : SameSh m172 m179 := (kc_X6_exact m172 (xs (a3 + (1 : Int32)).toNatClampNeg) (xs (a3 + (2 : Int32)).toNatClampNeg) (xs (a3 + (3 : Int32)).toNatClampNeg) hSM v178 m179 e180).1.2.2 rfl
                              have hS := hS.sh zm179
                              have hSM := hSM.sh zm179
                              refine Cv.ite (fun h182 => ?_) (fun h182 => ?_)
                              · refine Cv.go (pc' := 1101) (go_icmp_eq_t (tgt := 1101) dL_law_533 rfl h182) ?_
                                exact c_L_law_1101 L0 xs (F_L_law_18 L0 xs n) ih m179 a3 hS hSM
                              · refine Cv.go (pc' := 536) (go_icmp_eq_f 1101 dL_law_533 rfl h182) ?_
                                refine Cv.go (pc' := 537) (go_iconst dL_law_536 ic_0) ?_
                                exact Cv.ret dL_law_537 rfl
                            · refine Cv.ite (fun h183 => ?_) (fun h183 => ?_)
                              · refine Cv.go (pc' := 538) (go_tsIn (off := 505) (tgt := 538) dL_law_33 (by rw [h183]; decide) (by rw [h183]; decide) (by rw [h183]; rfl) rfl) ?_
                                refine Cv.go (pc' := 539) (go_aload_n (i := 1) (x := 0) dL_law_538 rfl rfl) ?_
                                refine Cv.go (pc' := 540) (go_aload_nr (i := 0) (x := 0) dL_law_539 rfl rfl) ?_
                                refine Cv.go (pc' := 541) (go_iload_n (i := 3) (x := a3) dL_law_540 rfl rfl) ?_
                                refine Cv.go (pc' := 542) (go_iconst dL_law_541 ic_1) ?_
                                refine Cv.go (pc' := 543) (go_iadd dL_law_542) ?_
                                refine Cv.gif fun g184 => ?_
                                refine Cv.go (pc' := 544) (go_rdX g184 dL_law_543) ?_
                                refine Cv.go (pc' := 545) (go_aload_nr (i := 0) (x := 0) dL_law_544 rfl rfl) ?_
                                refine Cv.go (pc' := 546) (go_iload_n (i := 3) (x := a3) dL_law_545 rfl rfl) ?_
                                refine Cv.go (pc' := 547) (go_iconst dL_law_546 ic_2) ?_
                                refine Cv.go (pc' := 548) (go_iadd dL_law_547) ?_
                                refine Cv.gif fun g185 => ?_
                                refine Cv.go (pc' := 549) (go_rdX g185 dL_law_548) ?_
                                refine Cv.go (pc' := 550) (go_aload_nr (i := 0) (x := 0) dL_law_549 rfl rfl) ?_
                                refine Cv.go (pc' := 551) (go_iload_n (i := 3) (x := a3) dL_law_550 rfl rfl) ?_
                                refine Cv.go (pc' := 552) (go_iconst dL_law_551 ic_3) ?_
                                refine Cv.go (pc' := 553) (go_iadd dL_law_552) ?_
                                refine Cv.gif fun g186 => ?_
                                refine Cv.go (pc' := 554) (go_rdX g186 dL_law_553) ?_
                                refine Cv.go (pc' := 555) (go_aload_nr (i := 0) (x := 0) dL_law_554 rfl rfl) ?_
                                refine Cv.go (pc' := 556) (go_iload_n (i := 3) (x := a3) dL_law_555 rfl rfl) ?_
                                refine Cv.go (pc' := 557) (go_iconst dL_law_556 ic_4) ?_
                                refine Cv.go (pc' := 558) (go_iadd dL_law_557) ?_
                                refine Cv.gif fun g187 => ?_
                                refine Cv.go (pc' := 559) (go_rdX g187 dL_law_558) ?_
                                refine Cv.bnd fun v188 m189 e190 => ?_
                                have C191 := kc_X5_wise m (xs (a3 + (1 : Int32)).toNatClampNeg) (xs (a3 + (2 : Int32)).toNatClampNeg) (xs (a3 + (3 : Int32)).toNatClampNeg) (xs (a3 + (4 : Int32)).toNatClampNeg) hS v188 m189 e190
                                have C191 := C191.wk (sp' := false) (fun z => by cases z)
                                refine Cv.go (pc' := 562) (st' := [.int v188]) (go_callV (As := [.int (xs (a3 + (1 : Int32)).toNatClampNeg), .int (xs (a3 + (2 : Int32)).toNatClampNeg), .int (xs (a3 + (3 : Int32)).toNatClampNeg), .int (xs (a3 + (4 : Int32)).toNatClampNeg)]) (st := []) C191 (by decide) ok_X5_wise li_X5_wise ls_X5_wise lm_L_65 cls5 (sx_k0 hS) rfl rfl (Nat.le_of_ble_eq_true rfl) dL_law_559) ?_
                                have zm189 : SameSh m m189 := (kc_X5_wise m (xs (a3 + (1 : Int32)).toNatClampNeg) (xs (a3 + (2 : Int32)).toNatClampNeg) (xs (a3 + (3 : Int32)).toNatClampNeg) (xs (a3 + (4 : Int32)).toNatClampNeg) hS v188 m189 e190).1.2.2 rfl
                                have hS := hS.sh zm189
                                have hSM := hSM.sh zm189
                                refine Cv.go (pc' := 563) (go_aload_n (i := 2) (x := 40) dL_law_562 rfl rfl) ?_
                                refine Cv.go (pc' := 564) (go_aload_nr (i := 0) (x := 0) dL_law_563 rfl rfl) ?_
                                refine Cv.go (pc' := 565) (go_iload_n (i := 3) (x := a3) dL_law_564 rfl rfl) ?_
                                refine Cv.go (pc' := 566) (go_iconst dL_law_565 ic_1) ?_
                                refine Cv.go (pc' := 567) (go_iadd dL_law_566) ?_
                                refine Cv.gif fun g192 => ?_
                                refine Cv.go (pc' := 568) (go_rdX g192 dL_law_567) ?_
                                refine Cv.go (pc' := 569) (go_aload_nr (i := 0) (x := 0) dL_law_568 rfl rfl) ?_
                                refine Cv.go (pc' := 570) (go_iload_n (i := 3) (x := a3) dL_law_569 rfl rfl) ?_
                                refine Cv.go (pc' := 571) (go_iconst dL_law_570 ic_2) ?_
                                refine Cv.go (pc' := 572) (go_iadd dL_law_571) ?_
                                refine Cv.gif fun g193 => ?_
                                refine Cv.go (pc' := 573) (go_rdX g193 dL_law_572) ?_
                                refine Cv.go (pc' := 574) (go_aload_nr (i := 0) (x := 0) dL_law_573 rfl rfl) ?_
                                refine Cv.go (pc' := 575) (go_iload_n (i := 3) (x := a3) dL_law_574 rfl rfl) ?_
                                refine Cv.go (pc' := 576) (go_iconst dL_law_575 ic_3) ?_
                                refine Cv.go (pc' := 577) (go_iadd dL_law_576) ?_
                                refine Cv.gif fun g194 => ?_
                                refine Cv.go (pc' := 578) (go_rdX g194 dL_law_577) ?_
                                refine Cv.go (pc' := 579) (go_aload_nr (i := 0) (x := 0) dL_law_578 rfl rfl) ?_
                                refine Cv.go (pc' := 580) (go_iload_n (i := 3) (x := a3) dL_law_579 rfl rfl) ?_
                                refine Cv.go (pc' := 581) (go_iconst dL_law_580 ic_4) ?_
                                refine Cv.go (pc' := 582) (go_iadd dL_law_581) ?_
                                refine Cv.gif fun g195 => ?_
                                refine Cv.go (pc' := 583) (go_rdX g195 dL_law_582) ?_
                                refine Cv.bnd fun v196 m197 e198 => ?_
                                have C199 := kc_X6_wise m189 (xs (a3 + (1 : Int32)).toNatClampNeg) (xs (a3 + (2 : Int32)).toNatClampNeg) (xs (a3 + (3 : Int32)).toNatClampNeg) (xs (a3 + (4 : Int32)).toNatClampNeg) hSM v196 m197 e198
                                have C199 := C199.wk (sp' := false) (fun z => by cases z)
                                refine Cv.go (pc' := 586) (st' := [.int v196, .int v188]) (go_callV (As := [.int (xs (a3 + (1 : Int32)).toNatClampNeg), .int (xs (a3 + (2 : Int32)).toNatClampNeg), .int (xs (a3 + (3 : Int32)).toNatClampNeg), .int (xs (a3 + (4 : Int32)).toNatClampNeg)]) (st := [.int v188]) C199 (by decide) ok_X6_wise li_X6_wise ls_X6_wise lm_L_69 cls6 (sx_k40 hSM) rfl rfl (Nat.le_of_ble_eq_true rfl) dL_law_583) ?_
                                have zm197 : SameSh m189 m197 := (kc_X6_wise m189 (xs (a3 + (1 : Int32)).toNatClampNeg) (xs (a3 + (2 : Int32)).toNatClampNeg) (xs (a3 + (3 : Int32)).toNatClampNeg) (xs (a3 + (4 : Int32)).toNatClampNeg) hSM v196 m197 e198).1.2.2 rfl
                                have hS := hS.sh zm197
                                have hSM := hSM.sh zm197
                                refine Cv.ite (fun h200 => ?_) (fun h200 => ?_)
                                · refine Cv.go (pc' := 1101) (go_icmp_eq_t (tgt := 1101) dL_law_586 rfl h200) ?_
                                  exact c_L_law_1101 L0 xs (F_L_law_18 L0 xs n) ih m197 a3 hS hSM
                                · refine Cv.go (pc' := 589) (go_icmp_eq_f 1101 dL_law_586 rfl h200) ?_
                                  refine Cv.go (pc' := 590) (go_iconst dL_law_589 ic_0) ?_
                                  exact Cv.ret dL_law_590 rfl
                              · refine Cv.ite (fun h201 => ?_) (fun h201 => ?_)
                                · refine Cv.go (pc' := 591) (go_tsIn (off := 558) (tgt := 591) dL_law_33 (by rw [h201]; decide) (by rw [h201]; decide) (by rw [h201]; rfl) rfl) ?_
                                  refine Cv.go (pc' := 592) (go_aload_n (i := 1) (x := 0) dL_law_591 rfl rfl) ?_
                                  refine Cv.go (pc' := 593) (go_aload_nr (i := 0) (x := 0) dL_law_592 rfl rfl) ?_
                                  refine Cv.go (pc' := 594) (go_iload_n (i := 3) (x := a3) dL_law_593 rfl rfl) ?_
                                  refine Cv.go (pc' := 595) (go_iconst dL_law_594 ic_1) ?_
                                  refine Cv.go (pc' := 596) (go_iadd dL_law_595) ?_
                                  refine Cv.gif fun g202 => ?_
                                  refine Cv.go (pc' := 597) (go_rdX g202 dL_law_596) ?_
                                  refine Cv.go (pc' := 598) (go_aload_nr (i := 0) (x := 0) dL_law_597 rfl rfl) ?_
                                  refine Cv.go (pc' := 599) (go_iload_n (i := 3) (x := a3) dL_law_598 rfl rfl) ?_
                                  refine Cv.go (pc' := 600) (go_iconst dL_law_599 ic_2) ?_
                                  refine Cv.go (pc' := 601) (go_iadd dL_law_600) ?_
                                  refine Cv.gif fun g203 => ?_
                                  refine Cv.go (pc' := 602) (go_rdX g203 dL_law_601) ?_
                                  refine Cv.go (pc' := 603) (go_aload_nr (i := 0) (x := 0) dL_law_602 rfl rfl) ?_
                                  refine Cv.go (pc' := 604) (go_iload_n (i := 3) (x := a3) dL_law_603 rfl rfl) ?_
                                  refine Cv.go (pc' := 605) (go_iconst dL_law_604 ic_3) ?_
                                  refine Cv.go (pc' := 606) (go_iadd dL_law_605) ?_
                                  refine Cv.gif fun g204 => ?_
                                  refine Cv.go (pc' := 607) (go_rdX g204 dL_law_606) ?_
                                  refine Cv.bnd fun v205 m206 e207 => ?_
                                  have C208 := kc_X5_change m (xs (a3 + (1 : Int32)).toNatClampNeg) (xs (a3 + (2 : Int32)).toNatClampNeg) (xs (a3 + (3 : Int32)).toNatClampNeg) hS v205 m206 e207
                                  have C208 := C208.wk (sp' := false) (fun z => by cases z)
                                  refine Cv.go (pc' := 610) (st' := [.int v205]) (go_callV (As := [.int (xs (a3 + (1 : Int32)).toNatClampNeg), .int (xs (a3 + (2 : Int32)).toNatClampNeg), .int (xs (a3 + (3 : Int32)).toNatClampNeg)]) (st := []) C208 (by decide) ok_X5_change li_X5_change ls_X5_change lm_L_70 cls5 (sx_k0 hS) rfl rfl (Nat.le_of_ble_eq_true rfl) dL_law_607) ?_
                                  have zm206 : SameSh m m206 := (kc_X5_change m (xs (a3 + (1 : Int32)).toNatClampNeg) (xs (a3 + (2 : Int32)).toNatClampNeg) (xs (a3 + (3 : Int32)).toNatClampNeg) hS v205 m206 e207).1.2.2 rfl
                                  have hS := hS.sh zm206
                                  have hSM := hSM.sh zm206
                                  refine Cv.go (pc' := 611) (go_aload_n (i := 2) (x := 40) dL_law_610 rfl rfl) ?_
                                  refine Cv.go (pc' := 612) (go_aload_nr (i := 0) (x := 0) dL_law_611 rfl rfl) ?_
                                  refine Cv.go (pc' := 613) (go_iload_n (i := 3) (x := a3) dL_law_612 rfl rfl) ?_
                                  refine Cv.go (pc' := 614) (go_iconst dL_law_613 ic_1) ?_
                                  refine Cv.go (pc' := 615) (go_iadd dL_law_614) ?_
                                  refine Cv.gif fun g209 => ?_
                                  refine Cv.go (pc' := 616) (go_rdX g209 dL_law_615) ?_
                                  refine Cv.go (pc' := 617) (go_aload_nr (i := 0) (x := 0) dL_law_616 rfl rfl) ?_
                                  refine Cv.go (pc' := 618) (go_iload_n (i := 3) (x := a3) dL_law_617 rfl rfl) ?_
                                  refine Cv.go (pc' := 619) (go_iconst dL_law_618 ic_2) ?_
                                  refine Cv.go (pc' := 620) (go_iadd dL_law_619) ?_
                                  refine Cv.gif fun g210 => ?_
                                  refine Cv.go (pc' := 621) (go_rdX g210 dL_law_620) ?_
                                  refine Cv.go (pc' := 622) (go_aload_nr (i := 0) (x := 0) dL_law_621 rfl rfl) ?_
                                  refine Cv.go (pc' := 623) (go_iload_n (i := 3) (x := a3) dL_law_622 rfl rfl) ?_
                                  refine Cv.go (pc' := 624) (go_iconst dL_law_623 ic_3) ?_
                                  refine Cv.go (pc' := 625) (go_iadd dL_law_624) ?_
                                  refine Cv.gif fun g211 => ?_
                                  refine Cv.go (pc' := 626) (go_rdX g211 dL_law_625) ?_
                                  refine Cv.bnd fun v212 m213 e214 => ?_
                                  have C215 := kc_X6_change m206 (xs (a3 + (1 : Int32)).toNatClampNeg) (xs (a3 + (2 : Int32)).toNatClampNeg) (xs (a3 + (3 : Int32)).toNatClampNeg) hSM v212 m213 e214
                                  have C215 := C215.wk (sp' := false) (fun z => by cases z)
                                  refine Cv.go (pc' := 629) (st' := [.int v212, .int v205]) (go_callV (As := [.int (xs (a3 + (1 : Int32)).toNatClampNeg), .int (xs (a3 + (2 : Int32)).toNatClampNeg), .int (xs (a3 + (3 : Int32)).toNatClampNeg)]) (st := [.int v205]) C215 (by decide) ok_X6_change li_X6_change ls_X6_change lm_L_73 cls6 (sx_k40 hSM) rfl rfl (Nat.le_of_ble_eq_true rfl) dL_law_626) ?_
                                  have zm213 : SameSh m206 m213 := (kc_X6_change m206 (xs (a3 + (1 : Int32)).toNatClampNeg) (xs (a3 + (2 : Int32)).toNatClampNeg) (xs (a3 + (3 : Int32)).toNatClampNeg) hSM v212 m213 e214).1.2.2 rfl
                                  have hS := hS.sh zm213
                                  have hSM := hSM.sh zm213
                                  refine Cv.ite (fun h216 => ?_) (fun h216 => ?_)
                                  · refine Cv.go (pc' := 1101) (go_icmp_eq_t (tgt := 1101) dL_law_629 rfl h216) ?_
                                    exact c_L_law_1101 L0 xs (F_L_law_18 L0 xs n) ih m213 a3 hS hSM
                                  · refine Cv.go (pc' := 632) (go_icmp_eq_f 1101 dL_law_629 rfl h216) ?_
                                    refine Cv.go (pc' := 633) (go_iconst dL_law_632 ic_0) ?_
                                    exact Cv.ret dL_law_633 rfl
                                · refine Cv.ite (fun h217 => ?_) (fun h217 => ?_)
                                  · refine Cv.go (pc' := 634) (go_tsIn (off := 601) (tgt := 634) dL_law_33 (by rw [h217]; decide) (by rw [h217]; decide) (by rw [h217]; rfl) rfl) ?_
                                    refine Cv.go (pc' := 635) (go_aload_n (i := 1) (x := 0) dL_law_634 rfl rfl) ?_
                                    refine Cv.go (pc' := 636) (go_aload_nr (i := 0) (x := 0) dL_law_635 rfl rfl) ?_
                                    refine Cv.go (pc' := 637) (go_iload_n (i := 3) (x := a3) dL_law_636 rfl rfl) ?_
                                    refine Cv.go (pc' := 638) (go_iconst dL_law_637 ic_1) ?_
                                    refine Cv.go (pc' := 639) (go_iadd dL_law_638) ?_
                                    refine Cv.gif fun g218 => ?_
                                    refine Cv.go (pc' := 640) (go_rdX g218 dL_law_639) ?_
                                    refine Cv.go (pc' := 641) (go_aload_nr (i := 0) (x := 0) dL_law_640 rfl rfl) ?_
                                    refine Cv.go (pc' := 642) (go_iload_n (i := 3) (x := a3) dL_law_641 rfl rfl) ?_
                                    refine Cv.go (pc' := 643) (go_iconst dL_law_642 ic_2) ?_
                                    refine Cv.go (pc' := 644) (go_iadd dL_law_643) ?_
                                    refine Cv.gif fun g219 => ?_
                                    refine Cv.go (pc' := 645) (go_rdX g219 dL_law_644) ?_
                                    refine Cv.go (pc' := 646) (go_aload_nr (i := 0) (x := 0) dL_law_645 rfl rfl) ?_
                                    refine Cv.go (pc' := 647) (go_iload_n (i := 3) (x := a3) dL_law_646 rfl rfl) ?_
                                    refine Cv.go (pc' := 648) (go_iconst dL_law_647 ic_3) ?_
                                    refine Cv.go (pc' := 649) (go_iadd dL_law_648) ?_
                                    refine Cv.gif fun g220 => ?_
                                    refine Cv.go (pc' := 650) (go_rdX g220 dL_law_649) ?_
                                    refine Cv.bnd fun v221 m222 e223 => ?_
                                    have C224 := kc_X5_tells m (xs (a3 + (1 : Int32)).toNatClampNeg) (xs (a3 + (2 : Int32)).toNatClampNeg) (xs (a3 + (3 : Int32)).toNatClampNeg) hS v221 m222 e223
                                    have C224 := C224.wk (sp' := false) (fun z => by cases z)
                                    refine Cv.go (pc' := 653) (st' := [.int v221]) (go_callV (As := [.int (xs (a3 + (1 : Int32)).toNatClampNeg), .int (xs (a3 + (2 : Int32)).toNatClampNeg), .int (xs (a3 + (3 : Int32)).toNatClampNeg)]) (st := []) C224 (by decide) ok_X5_tells li_X5_tells ls_X5_tells lm_L_74 cls5 (sx_k0 hS) rfl rfl (Nat.le_of_ble_eq_true rfl) dL_law_650) ?_
                                    have zm222 : SameSh m m222 := (kc_X5_tells m (xs (a3 + (1 : Int32)).toNatClampNeg) (xs (a3 + (2 : Int32)).toNatClampNeg) (xs (a3 + (3 : Int32)).toNatClampNeg) hS v221 m222 e223).1.2.2 rfl
                                    have hS := hS.sh zm222
                                    have hSM := hSM.sh zm222
                                    refine Cv.go (pc' := 654) (go_aload_n (i := 2) (x := 40) dL_law_653 rfl rfl) ?_
                                    refine Cv.go (pc' := 655) (go_aload_nr (i := 0) (x := 0) dL_law_654 rfl rfl) ?_
                                    refine Cv.go (pc' := 656) (go_iload_n (i := 3) (x := a3) dL_law_655 rfl rfl) ?_
                                    refine Cv.go (pc' := 657) (go_iconst dL_law_656 ic_1) ?_
                                    refine Cv.go (pc' := 658) (go_iadd dL_law_657) ?_
                                    refine Cv.gif fun g225 => ?_
                                    refine Cv.go (pc' := 659) (go_rdX g225 dL_law_658) ?_
                                    refine Cv.go (pc' := 660) (go_aload_nr (i := 0) (x := 0) dL_law_659 rfl rfl) ?_
                                    refine Cv.go (pc' := 661) (go_iload_n (i := 3) (x := a3) dL_law_660 rfl rfl) ?_
                                    refine Cv.go (pc' := 662) (go_iconst dL_law_661 ic_2) ?_
                                    refine Cv.go (pc' := 663) (go_iadd dL_law_662) ?_
                                    refine Cv.gif fun g226 => ?_
                                    refine Cv.go (pc' := 664) (go_rdX g226 dL_law_663) ?_
                                    refine Cv.go (pc' := 665) (go_aload_nr (i := 0) (x := 0) dL_law_664 rfl rfl) ?_
                                    refine Cv.go (pc' := 666) (go_iload_n (i := 3) (x := a3) dL_law_665 rfl rfl) ?_
                                    refine Cv.go (pc' := 667) (go_iconst dL_law_666 ic_3) ?_
                                    refine Cv.go (pc' := 668) (go_iadd dL_law_667) ?_
                                    refine Cv.gif fun g227 => ?_
                                    refine Cv.go (pc' := 669) (go_rdX g227 dL_law_668) ?_
                                    refine Cv.bnd fun v228 m229 e230 => ?_
                                    have C231 := kc_X6_tells m222 (xs (a3 + (1 : Int32)).toNatClampNeg) (xs (a3 + (2 : Int32)).toNatClampNeg) (xs (a3 + (3 : Int32)).toNatClampNeg) hSM v228 m229 e230
                                    have C231 := C231.wk (sp' := false) (fun z => by cases z)
                                    refine Cv.go (pc' := 672) (st' := [.int v228, .int v221]) (go_callV (As := [.int (xs (a3 + (1 : Int32)).toNatClampNeg), .int (xs (a3 + (2 : Int32)).toNatClampNeg), .int (xs (a3 + (3 : Int32)).toNatClampNeg)]) (st := [.int v221]) C231 (by decide) ok_X6_tells li_X6_tells ls_X6_tells lm_L_77 cls6 (sx_k40 hSM) rfl rfl (Nat.le_of_ble_eq_true rfl) dL_law_669) ?_
                                    have zm229 : SameSh m222 m229 := (kc_X6_tells m222 (xs (a3 + (1 : Int32)).toNatClampNeg) (xs (a3 + (2 : Int32)).toNatClampNeg) (xs (a3 + (3 : Int32)).toNatClampNeg) hSM v228 m229 e230).1.2.2 rfl
                                    have hS := hS.sh zm229
                                    have hSM := hSM.sh zm229
                                    refine Cv.ite (fun h232 => ?_) (fun h232 => ?_)
                                    · refine Cv.go (pc' := 1101) (go_icmp_eq_t (tgt := 1101) dL_law_672 rfl h232) ?_
                                      exact c_L_law_1101 L0 xs (F_L_law_18 L0 xs n) ih m229 a3 hS hSM
                                    · refine Cv.go (pc' := 675) (go_icmp_eq_f 1101 dL_law_672 rfl h232) ?_
                                      refine Cv.go (pc' := 676) (go_iconst dL_law_675 ic_0) ?_
                                      exact Cv.ret dL_law_676 rfl
                                  · refine Cv.ite (fun h233 => ?_) (fun h233 => ?_)
                                    · refine Cv.go (pc' := 677) (go_tsIn (off := 644) (tgt := 677) dL_law_33 (by rw [h233]; decide) (by rw [h233]; decide) (by rw [h233]; rfl) rfl) ?_
                                      refine Cv.go (pc' := 678) (go_aload_n (i := 1) (x := 0) dL_law_677 rfl rfl) ?_
                                      refine Cv.go (pc' := 679) (go_aload_nr (i := 0) (x := 0) dL_law_678 rfl rfl) ?_
                                      refine Cv.go (pc' := 680) (go_iload_n (i := 3) (x := a3) dL_law_679 rfl rfl) ?_
                                      refine Cv.go (pc' := 681) (go_iconst dL_law_680 ic_1) ?_
                                      refine Cv.go (pc' := 682) (go_iadd dL_law_681) ?_
                                      refine Cv.gif fun g234 => ?_
                                      refine Cv.go (pc' := 683) (go_rdX g234 dL_law_682) ?_
                                      refine Cv.go (pc' := 684) (go_aload_nr (i := 0) (x := 0) dL_law_683 rfl rfl) ?_
                                      refine Cv.go (pc' := 685) (go_iload_n (i := 3) (x := a3) dL_law_684 rfl rfl) ?_
                                      refine Cv.go (pc' := 686) (go_iconst dL_law_685 ic_2) ?_
                                      refine Cv.go (pc' := 687) (go_iadd dL_law_686) ?_
                                      refine Cv.gif fun g235 => ?_
                                      refine Cv.go (pc' := 688) (go_rdX g235 dL_law_687) ?_
                                      refine Cv.go (pc' := 689) (go_aload_nr (i := 0) (x := 0) dL_law_688 rfl rfl) ?_
                                      refine Cv.go (pc' := 690) (go_iload_n (i := 3) (x := a3) dL_law_689 rfl rfl) ?_
                                      refine Cv.go (pc' := 691) (go_iconst dL_law_690 ic_3) ?_
                                      refine Cv.go (pc' := 692) (go_iadd dL_law_691) ?_
                                      refine Cv.gif fun g236 => ?_
                                      refine Cv.go (pc' := 693) (go_rdX g236 dL_law_692) ?_
                                      refine Cv.bnd fun v237 m238 e239 => ?_
                                      have C240 := kc_X5_film m (xs (a3 + (1 : Int32)).toNatClampNeg) (xs (a3 + (2 : Int32)).toNatClampNeg) (xs (a3 + (3 : Int32)).toNatClampNeg) hS v237 m238 e239
                                      have C240 := C240.wk (sp' := false) (fun z => by cases z)
                                      refine Cv.go (pc' := 696) (st' := [.int v237]) (go_callV (As := [.int (xs (a3 + (1 : Int32)).toNatClampNeg), .int (xs (a3 + (2 : Int32)).toNatClampNeg), .int (xs (a3 + (3 : Int32)).toNatClampNeg)]) (st := []) C240 (by decide) ok_X5_film li_X5_film ls_X5_film lm_L_78 cls5 (sx_k0 hS) rfl rfl (Nat.le_of_ble_eq_true rfl) dL_law_693) ?_
                                      have zm238 : SameSh m m238 := (kc_X5_film m (xs (a3 + (1 : Int32)).toNatClampNeg) (xs (a3 + (2 : Int32)).toNatClampNeg) (xs (a3 + (3 : Int32)).toNatClampNeg) hS v237 m238 e239).1.2.2 rfl
                                      have hS := hS.sh zm238
                                      have hSM := hSM.sh zm238
                                      refine Cv.go (pc' := 697) (go_aload_n (i := 2) (x := 40) dL_law_696 rfl rfl) ?_
                                      refine Cv.go (pc' := 698) (go_aload_nr (i := 0) (x := 0) dL_law_697 rfl rfl) ?_
                                      refine Cv.go (pc' := 699) (go_iload_n (i := 3) (x := a3) dL_law_698 rfl rfl) ?_
                                      refine Cv.go (pc' := 700) (go_iconst dL_law_699 ic_1) ?_
                                      refine Cv.go (pc' := 701) (go_iadd dL_law_700) ?_
                                      refine Cv.gif fun g241 => ?_
                                      refine Cv.go (pc' := 702) (go_rdX g241 dL_law_701) ?_
                                      refine Cv.go (pc' := 703) (go_aload_nr (i := 0) (x := 0) dL_law_702 rfl rfl) ?_
                                      refine Cv.go (pc' := 704) (go_iload_n (i := 3) (x := a3) dL_law_703 rfl rfl) ?_
                                      refine Cv.go (pc' := 705) (go_iconst dL_law_704 ic_2) ?_
                                      refine Cv.go (pc' := 706) (go_iadd dL_law_705) ?_
                                      refine Cv.gif fun g242 => ?_
                                      refine Cv.go (pc' := 707) (go_rdX g242 dL_law_706) ?_
                                      refine Cv.go (pc' := 708) (go_aload_nr (i := 0) (x := 0) dL_law_707 rfl rfl) ?_
                                      refine Cv.go (pc' := 709) (go_iload_n (i := 3) (x := a3) dL_law_708 rfl rfl) ?_
                                      refine Cv.go (pc' := 710) (go_iconst dL_law_709 ic_3) ?_
                                      refine Cv.go (pc' := 711) (go_iadd dL_law_710) ?_
                                      refine Cv.gif fun g243 => ?_
                                      refine Cv.go (pc' := 712) (go_rdX g243 dL_law_711) ?_
                                      refine Cv.bnd fun v244 m245 e246 => ?_
                                      have C247 := kc_X6_film m238 (xs (a3 + (1 : Int32)).toNatClampNeg) (xs (a3 + (2 : Int32)).toNatClampNeg) (xs (a3 + (3 : Int32)).toNatClampNeg) hSM v244 m245 e246
                                      have C247 := C247.wk (sp' := false) (fun z => by cases z)
                                      refine Cv.go (pc' := 715) (st' := [.int v244, .int v237]) (go_callV (As := [.int (xs (a3 + (1 : Int32)).toNatClampNeg), .int (xs (a3 + (2 : Int32)).toNatClampNeg), .int (xs (a3 + (3 : Int32)).toNatClampNeg)]) (st := [.int v237]) C247 (by decide) ok_X6_film li_X6_film ls_X6_film lm_L_81 cls6 (sx_k40 hSM) rfl rfl (Nat.le_of_ble_eq_true rfl) dL_law_712) ?_
                                      have zm245 : SameSh m238 m245 := (kc_X6_film m238 (xs (a3 + (1 : Int32)).toNatClampNeg) (xs (a3 + (2 : Int32)).toNatClampNeg) (xs (a3 + (3 : Int32)).toNatClampNeg) hSM v244 m245 e246).1.2.2 rfl
                                      have hS := hS.sh zm245
                                      have hSM := hSM.sh zm245
                                      refine Cv.ite (fun h248 => ?_) (fun h248 => ?_)
                                      · refine Cv.go (pc' := 1101) (go_icmp_eq_t (tgt := 1101) dL_law_715 rfl h248) ?_
                                        exact c_L_law_1101 L0 xs (F_L_law_18 L0 xs n) ih m245 a3 hS hSM
                                      · refine Cv.go (pc' := 718) (go_icmp_eq_f 1101 dL_law_715 rfl h248) ?_
                                        refine Cv.go (pc' := 719) (go_iconst dL_law_718 ic_0) ?_
                                        exact Cv.ret dL_law_719 rfl
                                    · refine Cv.ite (fun h249 => ?_) (fun h249 => ?_)
                                      · refine Cv.go (pc' := 720) (go_tsIn (off := 687) (tgt := 720) dL_law_33 (by rw [h249]; decide) (by rw [h249]; decide) (by rw [h249]; rfl) rfl) ?_
                                        refine Cv.go (pc' := 721) (go_aload_n (i := 1) (x := 0) dL_law_720 rfl rfl) ?_
                                        refine Cv.go (pc' := 722) (go_aload_nr (i := 0) (x := 0) dL_law_721 rfl rfl) ?_
                                        refine Cv.go (pc' := 723) (go_iload_n (i := 3) (x := a3) dL_law_722 rfl rfl) ?_
                                        refine Cv.go (pc' := 724) (go_iconst dL_law_723 ic_1) ?_
                                        refine Cv.go (pc' := 725) (go_iadd dL_law_724) ?_
                                        refine Cv.gif fun g250 => ?_
                                        refine Cv.go (pc' := 726) (go_rdX g250 dL_law_725) ?_
                                        refine Cv.go (pc' := 727) (go_aload_nr (i := 0) (x := 0) dL_law_726 rfl rfl) ?_
                                        refine Cv.go (pc' := 728) (go_iload_n (i := 3) (x := a3) dL_law_727 rfl rfl) ?_
                                        refine Cv.go (pc' := 729) (go_iconst dL_law_728 ic_2) ?_
                                        refine Cv.go (pc' := 730) (go_iadd dL_law_729) ?_
                                        refine Cv.gif fun g251 => ?_
                                        refine Cv.go (pc' := 731) (go_rdX g251 dL_law_730) ?_
                                        refine Cv.bnd fun v252 m253 e254 => ?_
                                        have C255 := kc_X5_drawn m (xs (a3 + (1 : Int32)).toNatClampNeg) (xs (a3 + (2 : Int32)).toNatClampNeg) hS v252 m253 e254
                                        have C255 := C255.wk (sp' := false) (fun z => by cases z)
                                        refine Cv.go (pc' := 734) (st' := [.int v252]) (go_callV (As := [.int (xs (a3 + (1 : Int32)).toNatClampNeg), .int (xs (a3 + (2 : Int32)).toNatClampNeg)]) (st := []) C255 (by decide) ok_X5_drawn li_X5_drawn ls_X5_drawn lm_L_82 cls5 (sx_k0 hS) rfl rfl (Nat.le_of_ble_eq_true rfl) dL_law_731) ?_
                                        have zm253 : SameSh m m253 := (kc_X5_drawn m (xs (a3 + (1 : Int32)).toNatClampNeg) (xs (a3 + (2 : Int32)).toNatClampNeg) hS v252 m253 e254).1.2.2 rfl
                                        have hS := hS.sh zm253
                                        have hSM := hSM.sh zm253
                                        refine Cv.go (pc' := 735) (go_aload_n (i := 2) (x := 40) dL_law_734 rfl rfl) ?_
                                        refine Cv.go (pc' := 736) (go_aload_nr (i := 0) (x := 0) dL_law_735 rfl rfl) ?_
                                        refine Cv.go (pc' := 737) (go_iload_n (i := 3) (x := a3) dL_law_736 rfl rfl) ?_
                                        refine Cv.go (pc' := 738) (go_iconst dL_law_737 ic_1) ?_
                                        refine Cv.go (pc' := 739) (go_iadd dL_law_738) ?_
                                        refine Cv.gif fun g256 => ?_
                                        refine Cv.go (pc' := 740) (go_rdX g256 dL_law_739) ?_
                                        refine Cv.go (pc' := 741) (go_aload_nr (i := 0) (x := 0) dL_law_740 rfl rfl) ?_
                                        refine Cv.go (pc' := 742) (go_iload_n (i := 3) (x := a3) dL_law_741 rfl rfl) ?_
                                        refine Cv.go (pc' := 743) (go_iconst dL_law_742 ic_2) ?_
                                        refine Cv.go (pc' := 744) (go_iadd dL_law_743) ?_
                                        refine Cv.gif fun g257 => ?_
                                        refine Cv.go (pc' := 745) (go_rdX g257 dL_law_744) ?_
                                        refine Cv.bnd fun v258 m259 e260 => ?_
                                        have C261 := kc_X6_drawn m253 (xs (a3 + (1 : Int32)).toNatClampNeg) (xs (a3 + (2 : Int32)).toNatClampNeg) hSM v258 m259 e260
                                        have C261 := C261.wk (sp' := false) (fun z => by cases z)
                                        refine Cv.go (pc' := 748) (st' := [.int v258, .int v252]) (go_callV (As := [.int (xs (a3 + (1 : Int32)).toNatClampNeg), .int (xs (a3 + (2 : Int32)).toNatClampNeg)]) (st := [.int v252]) C261 (by decide) ok_X6_drawn li_X6_drawn ls_X6_drawn lm_L_85 cls6 (sx_k40 hSM) rfl rfl (Nat.le_of_ble_eq_true rfl) dL_law_745) ?_
                                        have zm259 : SameSh m253 m259 := (kc_X6_drawn m253 (xs (a3 + (1 : Int32)).toNatClampNeg) (xs (a3 + (2 : Int32)).toNatClampNeg) hSM v258 m259 e260).1.2.2 rfl
                                        have hS := hS.sh zm259
                                        have hSM := hSM.sh zm259
                                        refine Cv.ite (fun h262 => ?_) (fun h262 => ?_)
                                        · refine Cv.go (pc' := 1101) (go_icmp_eq_t (tgt := 1101) dL_law_748 rfl h262) ?_
                                          exact c_L_law_1101 L0 xs (F_L_law_18 L0 xs n) ih m259 a3 hS hSM
                                        · refine Cv.go (pc' := 751) (go_icmp_eq_f 1101 dL_law_748 rfl h262) ?_
                                          refine Cv.go (pc' := 752) (go_iconst dL_law_751 ic_0) ?_
                                          exact Cv.ret dL_law_752 rfl
                                      · refine Cv.ite (fun h263 => ?_) (fun h263 => ?_)
                                        · refine Cv.go (pc' := 753) (go_tsIn (off := 720) (tgt := 753) dL_law_33 (by rw [h263]; decide) (by rw [h263]; decide) (by rw [h263]; rfl) rfl) ?_
                                          refine Cv.go (pc' := 754) (go_aload_n (i := 1) (x := 0) dL_law_753 rfl rfl) ?_
                                          refine Cv.go (pc' := 755) (go_aload_nr (i := 0) (x := 0) dL_law_754 rfl rfl) ?_
                                          refine Cv.go (pc' := 756) (go_iload_n (i := 3) (x := a3) dL_law_755 rfl rfl) ?_
                                          refine Cv.go (pc' := 757) (go_iconst dL_law_756 ic_1) ?_
                                          refine Cv.go (pc' := 758) (go_iadd dL_law_757) ?_
                                          refine Cv.gif fun g264 => ?_
                                          refine Cv.go (pc' := 759) (go_rdX g264 dL_law_758) ?_
                                          refine Cv.go (pc' := 760) (go_aload_nr (i := 0) (x := 0) dL_law_759 rfl rfl) ?_
                                          refine Cv.go (pc' := 761) (go_iload_n (i := 3) (x := a3) dL_law_760 rfl rfl) ?_
                                          refine Cv.go (pc' := 762) (go_iconst dL_law_761 ic_2) ?_
                                          refine Cv.go (pc' := 763) (go_iadd dL_law_762) ?_
                                          refine Cv.gif fun g265 => ?_
                                          refine Cv.go (pc' := 764) (go_rdX g265 dL_law_763) ?_
                                          refine Cv.go (pc' := 765) (go_aload_nr (i := 0) (x := 0) dL_law_764 rfl rfl) ?_
                                          refine Cv.go (pc' := 766) (go_iload_n (i := 3) (x := a3) dL_law_765 rfl rfl) ?_
                                          refine Cv.go (pc' := 767) (go_iconst dL_law_766 ic_3) ?_
                                          refine Cv.go (pc' := 768) (go_iadd dL_law_767) ?_
                                          refine Cv.gif fun g266 => ?_
                                          refine Cv.go (pc' := 769) (go_rdX g266 dL_law_768) ?_
                                          refine Cv.go (pc' := 770) (go_aload_nr (i := 0) (x := 0) dL_law_769 rfl rfl) ?_
                                          refine Cv.go (pc' := 771) (go_iload_n (i := 3) (x := a3) dL_law_770 rfl rfl) ?_
                                          refine Cv.go (pc' := 772) (go_iconst dL_law_771 ic_4) ?_
                                          refine Cv.go (pc' := 773) (go_iadd dL_law_772) ?_
                                          refine Cv.gif fun g267 => ?_
                                          refine Cv.go (pc' := 774) (go_rdX g267 dL_law_773) ?_
                                          refine Cv.go (pc' := 775) (go_aload_nr (i := 0) (x := 0) dL_law_774 rfl rfl) ?_
                                          refine Cv.go (pc' := 776) (go_iload_n (i := 3) (x := a3) dL_law_775 rfl rfl) ?_
                                          refine Cv.go (pc' := 777) (go_iconst dL_law_776 ic_5) ?_
                                          refine Cv.go (pc' := 778) (go_iadd dL_law_777) ?_
                                          refine Cv.gif fun g268 => ?_
                                          refine Cv.go (pc' := 779) (go_rdX g268 dL_law_778) ?_
                                          refine Cv.bnd fun v269 m270 e271 => ?_
                                          have C272 := kc_X5_chance m (xs (a3 + (1 : Int32)).toNatClampNeg) (xs (a3 + (2 : Int32)).toNatClampNeg) (xs (a3 + (3 : Int32)).toNatClampNeg) (xs (a3 + (4 : Int32)).toNatClampNeg) (xs (a3 + (5 : Int32)).toNatClampNeg) hS v269 m270 e271
                                          have C272 := C272.wk (sp' := false) (fun z => by cases z)
                                          refine Cv.go (pc' := 782) (st' := [.long v269]) (go_callV (As := [.int (xs (a3 + (1 : Int32)).toNatClampNeg), .int (xs (a3 + (2 : Int32)).toNatClampNeg), .int (xs (a3 + (3 : Int32)).toNatClampNeg), .int (xs (a3 + (4 : Int32)).toNatClampNeg), .int (xs (a3 + (5 : Int32)).toNatClampNeg)]) (st := []) C272 (by decide) ok_X5_chance li_X5_chance ls_X5_chance lm_L_86 cls5 (sx_k0 hS) rfl rfl (Nat.le_of_ble_eq_true rfl) dL_law_779) ?_
                                          have zm270 : SameSh m m270 := (kc_X5_chance m (xs (a3 + (1 : Int32)).toNatClampNeg) (xs (a3 + (2 : Int32)).toNatClampNeg) (xs (a3 + (3 : Int32)).toNatClampNeg) (xs (a3 + (4 : Int32)).toNatClampNeg) (xs (a3 + (5 : Int32)).toNatClampNeg) hS v269 m270 e271).1.2.2 rfl
                                          have hS := hS.sh zm270
                                          have hSM := hSM.sh zm270
                                          refine Cv.go (pc' := 783) (go_aload_n (i := 2) (x := 40) dL_law_782 rfl rfl) ?_
                                          refine Cv.go (pc' := 784) (go_aload_nr (i := 0) (x := 0) dL_law_783 rfl rfl) ?_
                                          refine Cv.go (pc' := 785) (go_iload_n (i := 3) (x := a3) dL_law_784 rfl rfl) ?_
                                          refine Cv.go (pc' := 786) (go_iconst dL_law_785 ic_1) ?_
                                          refine Cv.go (pc' := 787) (go_iadd dL_law_786) ?_
                                          refine Cv.gif fun g273 => ?_
                                          refine Cv.go (pc' := 788) (go_rdX g273 dL_law_787) ?_
                                          refine Cv.go (pc' := 789) (go_aload_nr (i := 0) (x := 0) dL_law_788 rfl rfl) ?_
                                          refine Cv.go (pc' := 790) (go_iload_n (i := 3) (x := a3) dL_law_789 rfl rfl) ?_
                                          refine Cv.go (pc' := 791) (go_iconst dL_law_790 ic_2) ?_
                                          refine Cv.go (pc' := 792) (go_iadd dL_law_791) ?_
                                          refine Cv.gif fun g274 => ?_
                                          refine Cv.go (pc' := 793) (go_rdX g274 dL_law_792) ?_
                                          refine Cv.go (pc' := 794) (go_aload_nr (i := 0) (x := 0) dL_law_793 rfl rfl) ?_
                                          refine Cv.go (pc' := 795) (go_iload_n (i := 3) (x := a3) dL_law_794 rfl rfl) ?_
                                          refine Cv.go (pc' := 796) (go_iconst dL_law_795 ic_3) ?_
                                          refine Cv.go (pc' := 797) (go_iadd dL_law_796) ?_
                                          refine Cv.gif fun g275 => ?_
                                          refine Cv.go (pc' := 798) (go_rdX g275 dL_law_797) ?_
                                          refine Cv.go (pc' := 799) (go_aload_nr (i := 0) (x := 0) dL_law_798 rfl rfl) ?_
                                          refine Cv.go (pc' := 800) (go_iload_n (i := 3) (x := a3) dL_law_799 rfl rfl) ?_
                                          refine Cv.go (pc' := 801) (go_iconst dL_law_800 ic_4) ?_
                                          refine Cv.go (pc' := 802) (go_iadd dL_law_801) ?_
                                          refine Cv.gif fun g276 => ?_
                                          refine Cv.go (pc' := 803) (go_rdX g276 dL_law_802) ?_
                                          refine Cv.go (pc' := 804) (go_aload_nr (i := 0) (x := 0) dL_law_803 rfl rfl) ?_
                                          refine Cv.go (pc' := 805) (go_iload_n (i := 3) (x := a3) dL_law_804 rfl rfl) ?_
                                          refine Cv.go (pc' := 806) (go_iconst dL_law_805 ic_5) ?_
                                          refine Cv.go (pc' := 807) (go_iadd dL_law_806) ?_
                                          refine Cv.gif fun g277 => ?_
                                          refine Cv.go (pc' := 808) (go_rdX g277 dL_law_807) ?_
                                          refine Cv.bnd fun v278 m279 e280 => ?_
                                          have C281 := kc_X6_chance m270 (xs (a3 + (1 : Int32)).toNatClampNeg) (xs (a3 + (2 : Int32)).toNatClampNeg) (xs (a3 + (3 : Int32)).toNatClampNeg) (xs (a3 + (4 : Int32)).toNatClampNeg) (xs (a3 + (5 : Int32)).toNatClampNeg) hSM v278 m279 e280
                                          have C281 := C281.wk (sp' := false) (fun z => by cases z)
                                          refine Cv.go (pc' := 811) (st' := [.long v278, .long v269]) (go_callV (As := [.int (xs (a3 + (1 : Int32)).toNatClampNeg), .int (xs (a3 + (2 : Int32)).toNatClampNeg), .int (xs (a3 + (3 : Int32)).toNatClampNeg), .int (xs (a3 + (4 : Int32)).toNatClampNeg), .int (xs (a3 + (5 : Int32)).toNatClampNeg)]) (st := [.long v269]) C281 (by decide) ok_X6_chance li_X6_chance ls_X6_chance lm_L_90 cls6 (sx_k40 hSM) rfl rfl (Nat.le_of_ble_eq_true rfl) dL_law_808) ?_
                                          have zm279 : SameSh m270 m279 := (kc_X6_chance m270 (xs (a3 + (1 : Int32)).toNatClampNeg) (xs (a3 + (2 : Int32)).toNatClampNeg) (xs (a3 + (3 : Int32)).toNatClampNeg) (xs (a3 + (4 : Int32)).toNatClampNeg) (xs (a3 + (5 : Int32)).toNatClampNeg) hSM v278 m279 e280).1.2.2 rfl
                                          have hS := hS.sh zm279
                                          have hSM := hSM.sh zm279
                                          refine Cv.go (pc' := 812) (go_lcmp dL_law_811) ?_
                                          refine Cv.ite (fun h282 => ?_) (fun h282 => ?_)
                                          · refine Cv.go (pc' := 1101) (go_if_eq_t (tgt := 1101) dL_law_812 rfl h282) ?_
                                            exact c_L_law_1101 L0 xs (F_L_law_18 L0 xs n) ih m279 a3 hS hSM
                                          · refine Cv.go (pc' := 815) (go_if_eq_f 1101 dL_law_812 rfl h282) ?_
                                            refine Cv.go (pc' := 816) (go_iconst dL_law_815 ic_0) ?_
                                            exact Cv.ret dL_law_816 rfl
                                        · refine Cv.ite (fun h283 => ?_) (fun h283 => ?_)
                                          · refine Cv.go (pc' := 817) (go_tsIn (off := 784) (tgt := 817) dL_law_33 (by rw [h283]; decide) (by rw [h283]; decide) (by rw [h283]; rfl) rfl) ?_
                                            refine Cv.go (pc' := 818) (go_aload_n (i := 1) (x := 0) dL_law_817 rfl rfl) ?_
                                            refine Cv.bnd fun v284 m285 e286 => ?_
                                            have C287 := kc_X5_image m hS v284 m285 e286
                                            have C287 := C287.wk (sp' := false) (fun z => by cases z)
                                            refine Cv.go (pc' := 821) (st' := [.int v284]) (go_callV (As := []) (st := []) C287 (by decide) ok_X5_image li_X5_image ls_X5_image lm_L_91 cls5 (sx_k0 hS) rfl rfl (Nat.le_of_ble_eq_true rfl) dL_law_818) ?_
                                            have zm285 : SameSh m m285 := (kc_X5_image m hS v284 m285 e286).1.2.2 rfl
                                            have hS := hS.sh zm285
                                            have hSM := hSM.sh zm285
                                            refine Cv.go (pc' := 822) (go_aload_n (i := 2) (x := 40) dL_law_821 rfl rfl) ?_
                                            refine Cv.bnd fun v288 m289 e290 => ?_
                                            have C291 := kc_X6_image m285 hSM v288 m289 e290
                                            have C291 := C291.wk (sp' := false) (fun z => by cases z)
                                            refine Cv.go (pc' := 825) (st' := [.int v288, .int v284]) (go_callV (As := []) (st := [.int v284]) C291 (by decide) ok_X6_image li_X6_image ls_X6_image lm_L_94 cls6 (sx_k40 hSM) rfl rfl (Nat.le_of_ble_eq_true rfl) dL_law_822) ?_
                                            have zm289 : SameSh m285 m289 := (kc_X6_image m285 hSM v288 m289 e290).1.2.2 rfl
                                            have hS := hS.sh zm289
                                            have hSM := hSM.sh zm289
                                            refine Cv.ite (fun h292 => ?_) (fun h292 => ?_)
                                            · refine Cv.go (pc' := 1101) (go_icmp_eq_t (tgt := 1101) dL_law_825 rfl h292) ?_
                                              exact c_L_law_1101 L0 xs (F_L_law_18 L0 xs n) ih m289 a3 hS hSM
                                            · refine Cv.go (pc' := 828) (go_icmp_eq_f 1101 dL_law_825 rfl h292) ?_
                                              refine Cv.go (pc' := 829) (go_iconst dL_law_828 ic_0) ?_
                                              exact Cv.ret dL_law_829 rfl
                                          · refine Cv.ite (fun h293 => ?_) (fun h293 => ?_)
                                            · refine Cv.go (pc' := 830) (go_tsIn (off := 797) (tgt := 830) dL_law_33 (by rw [h293]; decide) (by rw [h293]; decide) (by rw [h293]; rfl) rfl) ?_
                                              refine Cv.go (pc' := 831) (go_aload_n (i := 1) (x := 0) dL_law_830 rfl rfl) ?_
                                              refine Cv.bnd fun v294 m295 e296 => ?_
                                              have C297 := kc_X5_back m hS v294 m295 e296
                                              have C297 := C297.wk (sp' := false) (fun z => by cases z)
                                              refine Cv.go (pc' := 834) (st' := [.int v294]) (go_callV (As := []) (st := []) C297 (by decide) ok_X5_back li_X5_back ls_X5_back lm_L_95 cls5 (sx_k0 hS) rfl rfl (Nat.le_of_ble_eq_true rfl) dL_law_831) ?_
                                              have zm295 : SameSh m m295 := (kc_X5_back m hS v294 m295 e296).1.2.2 rfl
                                              have hS := hS.sh zm295
                                              have hSM := hSM.sh zm295
                                              refine Cv.go (pc' := 835) (go_aload_n (i := 2) (x := 40) dL_law_834 rfl rfl) ?_
                                              refine Cv.bnd fun v298 m299 e300 => ?_
                                              have C301 := kc_X6_back m295 hSM v298 m299 e300
                                              have C301 := C301.wk (sp' := false) (fun z => by cases z)
                                              refine Cv.go (pc' := 838) (st' := [.int v298, .int v294]) (go_callV (As := []) (st := [.int v294]) C301 (by decide) ok_X6_back li_X6_back ls_X6_back lm_L_98 cls6 (sx_k40 hSM) rfl rfl (Nat.le_of_ble_eq_true rfl) dL_law_835) ?_
                                              have zm299 : SameSh m295 m299 := (kc_X6_back m295 hSM v298 m299 e300).1.2.2 rfl
                                              have hS := hS.sh zm299
                                              have hSM := hSM.sh zm299
                                              refine Cv.ite (fun h302 => ?_) (fun h302 => ?_)
                                              · refine Cv.go (pc' := 1101) (go_icmp_eq_t (tgt := 1101) dL_law_838 rfl h302) ?_
                                                exact c_L_law_1101 L0 xs (F_L_law_18 L0 xs n) ih m299 a3 hS hSM
                                              · refine Cv.go (pc' := 841) (go_icmp_eq_f 1101 dL_law_838 rfl h302) ?_
                                                refine Cv.go (pc' := 842) (go_iconst dL_law_841 ic_0) ?_
                                                exact Cv.ret dL_law_842 rfl
                                            · refine Cv.ite (fun h303 => ?_) (fun h303 => ?_)
                                              · refine Cv.go (pc' := 843) (go_tsIn (off := 810) (tgt := 843) dL_law_33 (by rw [h303]; decide) (by rw [h303]; decide) (by rw [h303]; rfl) rfl) ?_
                                                refine Cv.go (pc' := 844) (go_aload_n (i := 1) (x := 0) dL_law_843 rfl rfl) ?_
                                                refine Cv.go (pc' := 845) (go_aload_nr (i := 0) (x := 0) dL_law_844 rfl rfl) ?_
                                                refine Cv.go (pc' := 846) (go_iload_n (i := 3) (x := a3) dL_law_845 rfl rfl) ?_
                                                refine Cv.go (pc' := 847) (go_iconst dL_law_846 ic_1) ?_
                                                refine Cv.go (pc' := 848) (go_iadd dL_law_847) ?_
                                                refine Cv.gif fun g304 => ?_
                                                refine Cv.go (pc' := 849) (go_rdX g304 dL_law_848) ?_
                                                refine Cv.bnd fun v305 m306 e307 => ?_
                                                have C308 := kc_X5_count m (xs (a3 + (1 : Int32)).toNatClampNeg) hS v305 m306 e307
                                                have C308 := C308.wk (sp' := false) (fun z => by cases z)
                                                refine Cv.go (pc' := 852) (st' := [.int v305]) (go_callV (As := [.int (xs (a3 + (1 : Int32)).toNatClampNeg)]) (st := []) C308 (by decide) ok_X5_count li_X5_count ls_X5_count lm_L_99 cls5 (sx_k0 hS) rfl rfl (Nat.le_of_ble_eq_true rfl) dL_law_849) ?_
                                                have zm306 : SameSh m m306 := (kc_X5_count m (xs (a3 + (1 : Int32)).toNatClampNeg) hS v305 m306 e307).1.2.2 rfl
                                                have hS := hS.sh zm306
                                                have hSM := hSM.sh zm306
                                                refine Cv.go (pc' := 853) (go_aload_n (i := 2) (x := 40) dL_law_852 rfl rfl) ?_
                                                refine Cv.go (pc' := 854) (go_aload_nr (i := 0) (x := 0) dL_law_853 rfl rfl) ?_
                                                refine Cv.go (pc' := 855) (go_iload_n (i := 3) (x := a3) dL_law_854 rfl rfl) ?_
                                                refine Cv.go (pc' := 856) (go_iconst dL_law_855 ic_1) ?_
                                                refine Cv.go (pc' := 857) (go_iadd dL_law_856) ?_
                                                refine Cv.gif fun g309 => ?_
                                                refine Cv.go (pc' := 858) (go_rdX g309 dL_law_857) ?_
                                                refine Cv.bnd fun v310 m311 e312 => ?_
                                                have C313 := kc_X6_count m306 (xs (a3 + (1 : Int32)).toNatClampNeg) hSM v310 m311 e312
                                                have C313 := C313.wk (sp' := false) (fun z => by cases z)
                                                refine Cv.go (pc' := 861) (st' := [.int v310, .int v305]) (go_callV (As := [.int (xs (a3 + (1 : Int32)).toNatClampNeg)]) (st := [.int v305]) C313 (by decide) ok_X6_count li_X6_count ls_X6_count lm_L_102 cls6 (sx_k40 hSM) rfl rfl (Nat.le_of_ble_eq_true rfl) dL_law_858) ?_
                                                have zm311 : SameSh m306 m311 := (kc_X6_count m306 (xs (a3 + (1 : Int32)).toNatClampNeg) hSM v310 m311 e312).1.2.2 rfl
                                                have hS := hS.sh zm311
                                                have hSM := hSM.sh zm311
                                                refine Cv.ite (fun h314 => ?_) (fun h314 => ?_)
                                                · refine Cv.go (pc' := 1101) (go_icmp_eq_t (tgt := 1101) dL_law_861 rfl h314) ?_
                                                  exact c_L_law_1101 L0 xs (F_L_law_18 L0 xs n) ih m311 a3 hS hSM
                                                · refine Cv.go (pc' := 864) (go_icmp_eq_f 1101 dL_law_861 rfl h314) ?_
                                                  refine Cv.go (pc' := 865) (go_iconst dL_law_864 ic_0) ?_
                                                  exact Cv.ret dL_law_865 rfl
                                              · refine Cv.ite (fun h315 => ?_) (fun h315 => ?_)
                                                · refine Cv.go (pc' := 866) (go_tsIn (off := 833) (tgt := 866) dL_law_33 (by rw [h315]; decide) (by rw [h315]; decide) (by rw [h315]; rfl) rfl) ?_
                                                  refine Cv.go (pc' := 867) (go_aload_n (i := 1) (x := 0) dL_law_866 rfl rfl) ?_
                                                  refine Cv.go (pc' := 868) (go_aload_nr (i := 0) (x := 0) dL_law_867 rfl rfl) ?_
                                                  refine Cv.go (pc' := 869) (go_iload_n (i := 3) (x := a3) dL_law_868 rfl rfl) ?_
                                                  refine Cv.go (pc' := 870) (go_iconst dL_law_869 ic_1) ?_
                                                  refine Cv.go (pc' := 871) (go_iadd dL_law_870) ?_
                                                  refine Cv.gif fun g316 => ?_
                                                  refine Cv.go (pc' := 872) (go_rdX g316 dL_law_871) ?_
                                                  refine Cv.go (pc' := 873) (go_aload_nr (i := 0) (x := 0) dL_law_872 rfl rfl) ?_
                                                  refine Cv.go (pc' := 874) (go_iload_n (i := 3) (x := a3) dL_law_873 rfl rfl) ?_
                                                  refine Cv.go (pc' := 875) (go_iconst dL_law_874 ic_2) ?_
                                                  refine Cv.go (pc' := 876) (go_iadd dL_law_875) ?_
                                                  refine Cv.gif fun g317 => ?_
                                                  refine Cv.go (pc' := 877) (go_rdX g317 dL_law_876) ?_
                                                  refine Cv.go (pc' := 878) (go_aload_nr (i := 0) (x := 0) dL_law_877 rfl rfl) ?_
                                                  refine Cv.go (pc' := 879) (go_iload_n (i := 3) (x := a3) dL_law_878 rfl rfl) ?_
                                                  refine Cv.go (pc' := 880) (go_iconst dL_law_879 ic_3) ?_
                                                  refine Cv.go (pc' := 881) (go_iadd dL_law_880) ?_
                                                  refine Cv.gif fun g318 => ?_
                                                  refine Cv.go (pc' := 882) (go_rdX g318 dL_law_881) ?_
                                                  refine Cv.bnd fun v319 m320 e321 => ?_
                                                  have C322 := kc_X5_sheet m (xs (a3 + (1 : Int32)).toNatClampNeg) (xs (a3 + (2 : Int32)).toNatClampNeg) (xs (a3 + (3 : Int32)).toNatClampNeg) hS v319 m320 e321
                                                  have C322 := C322.wk (sp' := false) (fun z => by cases z)
                                                  refine Cv.go (pc' := 885) (st' := [.int v319]) (go_callV (As := [.int (xs (a3 + (1 : Int32)).toNatClampNeg), .int (xs (a3 + (2 : Int32)).toNatClampNeg), .int (xs (a3 + (3 : Int32)).toNatClampNeg)]) (st := []) C322 (by decide) ok_X5_sheet li_X5_sheet ls_X5_sheet lm_L_103 cls5 (sx_k0 hS) rfl rfl (Nat.le_of_ble_eq_true rfl) dL_law_882) ?_
                                                  have zm320 : SameSh m m320 := (kc_X5_sheet m (xs (a3 + (1 : Int32)).toNatClampNeg) (xs (a3 + (2 : Int32)).toNatClampNeg) (xs (a3 + (3 : Int32)).toNatClampNeg) hS v319 m320 e321).1.2.2 rfl
                                                  have hS := hS.sh zm320
                                                  have hSM := hSM.sh zm320
                                                  refine Cv.go (pc' := 886) (go_aload_n (i := 2) (x := 40) dL_law_885 rfl rfl) ?_
                                                  refine Cv.go (pc' := 887) (go_aload_nr (i := 0) (x := 0) dL_law_886 rfl rfl) ?_
                                                  refine Cv.go (pc' := 888) (go_iload_n (i := 3) (x := a3) dL_law_887 rfl rfl) ?_
                                                  refine Cv.go (pc' := 889) (go_iconst dL_law_888 ic_1) ?_
                                                  refine Cv.go (pc' := 890) (go_iadd dL_law_889) ?_
                                                  refine Cv.gif fun g323 => ?_
                                                  refine Cv.go (pc' := 891) (go_rdX g323 dL_law_890) ?_
                                                  refine Cv.go (pc' := 892) (go_aload_nr (i := 0) (x := 0) dL_law_891 rfl rfl) ?_
                                                  refine Cv.go (pc' := 893) (go_iload_n (i := 3) (x := a3) dL_law_892 rfl rfl) ?_
                                                  refine Cv.go (pc' := 894) (go_iconst dL_law_893 ic_2) ?_
                                                  refine Cv.go (pc' := 895) (go_iadd dL_law_894) ?_
                                                  refine Cv.gif fun g324 => ?_
                                                  refine Cv.go (pc' := 896) (go_rdX g324 dL_law_895) ?_
                                                  refine Cv.go (pc' := 897) (go_aload_nr (i := 0) (x := 0) dL_law_896 rfl rfl) ?_
                                                  refine Cv.go (pc' := 898) (go_iload_n (i := 3) (x := a3) dL_law_897 rfl rfl) ?_
                                                  refine Cv.go (pc' := 899) (go_iconst dL_law_898 ic_3) ?_
                                                  refine Cv.go (pc' := 900) (go_iadd dL_law_899) ?_
                                                  refine Cv.gif fun g325 => ?_
                                                  refine Cv.go (pc' := 901) (go_rdX g325 dL_law_900) ?_
                                                  refine Cv.bnd fun v326 m327 e328 => ?_
                                                  have C329 := kc_X6_sheet m320 (xs (a3 + (1 : Int32)).toNatClampNeg) (xs (a3 + (2 : Int32)).toNatClampNeg) (xs (a3 + (3 : Int32)).toNatClampNeg) hSM v326 m327 e328
                                                  have C329 := C329.wk (sp' := false) (fun z => by cases z)
                                                  refine Cv.go (pc' := 904) (st' := [.int v326, .int v319]) (go_callV (As := [.int (xs (a3 + (1 : Int32)).toNatClampNeg), .int (xs (a3 + (2 : Int32)).toNatClampNeg), .int (xs (a3 + (3 : Int32)).toNatClampNeg)]) (st := [.int v319]) C329 (by decide) ok_X6_sheet li_X6_sheet ls_X6_sheet lm_L_106 cls6 (sx_k40 hSM) rfl rfl (Nat.le_of_ble_eq_true rfl) dL_law_901) ?_
                                                  have zm327 : SameSh m320 m327 := (kc_X6_sheet m320 (xs (a3 + (1 : Int32)).toNatClampNeg) (xs (a3 + (2 : Int32)).toNatClampNeg) (xs (a3 + (3 : Int32)).toNatClampNeg) hSM v326 m327 e328).1.2.2 rfl
                                                  have hS := hS.sh zm327
                                                  have hSM := hSM.sh zm327
                                                  refine Cv.ite (fun h330 => ?_) (fun h330 => ?_)
                                                  · refine Cv.go (pc' := 1101) (go_icmp_eq_t (tgt := 1101) dL_law_904 rfl h330) ?_
                                                    exact c_L_law_1101 L0 xs (F_L_law_18 L0 xs n) ih m327 a3 hS hSM
                                                  · refine Cv.go (pc' := 907) (go_icmp_eq_f 1101 dL_law_904 rfl h330) ?_
                                                    refine Cv.go (pc' := 908) (go_iconst dL_law_907 ic_0) ?_
                                                    exact Cv.ret dL_law_908 rfl
                                                · refine Cv.ite (fun h331 => ?_) (fun h331 => ?_)
                                                  · refine Cv.go (pc' := 909) (go_tsIn (off := 876) (tgt := 909) dL_law_33 (by rw [h331]; decide) (by rw [h331]; decide) (by rw [h331]; rfl) rfl) ?_
                                                    refine Cv.go (pc' := 910) (go_aload_n (i := 1) (x := 0) dL_law_909 rfl rfl) ?_
                                                    refine Cv.go (pc' := 911) (go_aload_nr (i := 0) (x := 0) dL_law_910 rfl rfl) ?_
                                                    refine Cv.go (pc' := 912) (go_iload_n (i := 3) (x := a3) dL_law_911 rfl rfl) ?_
                                                    refine Cv.go (pc' := 913) (go_iconst dL_law_912 ic_1) ?_
                                                    refine Cv.go (pc' := 914) (go_iadd dL_law_913) ?_
                                                    refine Cv.gif fun g332 => ?_
                                                    refine Cv.go (pc' := 915) (go_rdX g332 dL_law_914) ?_
                                                    refine Cv.go (pc' := 916) (go_aload_nr (i := 0) (x := 0) dL_law_915 rfl rfl) ?_
                                                    refine Cv.go (pc' := 917) (go_iload_n (i := 3) (x := a3) dL_law_916 rfl rfl) ?_
                                                    refine Cv.go (pc' := 918) (go_iconst dL_law_917 ic_2) ?_
                                                    refine Cv.go (pc' := 919) (go_iadd dL_law_918) ?_
                                                    refine Cv.gif fun g333 => ?_
                                                    refine Cv.go (pc' := 920) (go_rdX g333 dL_law_919) ?_
                                                    refine Cv.go (pc' := 921) (go_aload_nr (i := 0) (x := 0) dL_law_920 rfl rfl) ?_
                                                    refine Cv.go (pc' := 922) (go_iload_n (i := 3) (x := a3) dL_law_921 rfl rfl) ?_
                                                    refine Cv.go (pc' := 923) (go_iconst dL_law_922 ic_3) ?_
                                                    refine Cv.go (pc' := 924) (go_iadd dL_law_923) ?_
                                                    refine Cv.gif fun g334 => ?_
                                                    refine Cv.go (pc' := 925) (go_rdX g334 dL_law_924) ?_
                                                    refine Cv.bnd fun v335 m336 e337 => ?_
                                                    have C338 := kc_X5_cell m (xs (a3 + (1 : Int32)).toNatClampNeg) (xs (a3 + (2 : Int32)).toNatClampNeg) (xs (a3 + (3 : Int32)).toNatClampNeg) hS v335 m336 e337
                                                    have C338 := C338.wk (sp' := false) (fun z => by cases z)
                                                    refine Cv.go (pc' := 928) (st' := [.int v335]) (go_callV (As := [.int (xs (a3 + (1 : Int32)).toNatClampNeg), .int (xs (a3 + (2 : Int32)).toNatClampNeg), .int (xs (a3 + (3 : Int32)).toNatClampNeg)]) (st := []) C338 (by decide) ok_X5_cell li_X5_cell ls_X5_cell lm_L_107 cls5 (sx_k0 hS) rfl rfl (Nat.le_of_ble_eq_true rfl) dL_law_925) ?_
                                                    have zm336 : SameSh m m336 := (kc_X5_cell m (xs (a3 + (1 : Int32)).toNatClampNeg) (xs (a3 + (2 : Int32)).toNatClampNeg) (xs (a3 + (3 : Int32)).toNatClampNeg) hS v335 m336 e337).1.2.2 rfl
                                                    have hS := hS.sh zm336
                                                    have hSM := hSM.sh zm336
                                                    refine Cv.go (pc' := 929) (go_aload_n (i := 2) (x := 40) dL_law_928 rfl rfl) ?_
                                                    refine Cv.go (pc' := 930) (go_aload_nr (i := 0) (x := 0) dL_law_929 rfl rfl) ?_
                                                    refine Cv.go (pc' := 931) (go_iload_n (i := 3) (x := a3) dL_law_930 rfl rfl) ?_
                                                    refine Cv.go (pc' := 932) (go_iconst dL_law_931 ic_1) ?_
                                                    refine Cv.go (pc' := 933) (go_iadd dL_law_932) ?_
                                                    refine Cv.gif fun g339 => ?_
                                                    refine Cv.go (pc' := 934) (go_rdX g339 dL_law_933) ?_
                                                    refine Cv.go (pc' := 935) (go_aload_nr (i := 0) (x := 0) dL_law_934 rfl rfl) ?_
                                                    refine Cv.go (pc' := 936) (go_iload_n (i := 3) (x := a3) dL_law_935 rfl rfl) ?_
                                                    refine Cv.go (pc' := 937) (go_iconst dL_law_936 ic_2) ?_
                                                    refine Cv.go (pc' := 938) (go_iadd dL_law_937) ?_
                                                    refine Cv.gif fun g340 => ?_
                                                    refine Cv.go (pc' := 939) (go_rdX g340 dL_law_938) ?_
                                                    refine Cv.go (pc' := 940) (go_aload_nr (i := 0) (x := 0) dL_law_939 rfl rfl) ?_
                                                    refine Cv.go (pc' := 941) (go_iload_n (i := 3) (x := a3) dL_law_940 rfl rfl) ?_
                                                    refine Cv.go (pc' := 942) (go_iconst dL_law_941 ic_3) ?_
                                                    refine Cv.go (pc' := 943) (go_iadd dL_law_942) ?_
                                                    refine Cv.gif fun g341 => ?_
                                                    refine Cv.go (pc' := 944) (go_rdX g341 dL_law_943) ?_
                                                    refine Cv.bnd fun v342 m343 e344 => ?_
                                                    have C345 := kc_X6_cell m336 (xs (a3 + (1 : Int32)).toNatClampNeg) (xs (a3 + (2 : Int32)).toNatClampNeg) (xs (a3 + (3 : Int32)).toNatClampNeg) hSM v342 m343 e344
                                                    have C345 := C345.wk (sp' := false) (fun z => by cases z)
                                                    refine Cv.go (pc' := 947) (st' := [.int v342, .int v335]) (go_callV (As := [.int (xs (a3 + (1 : Int32)).toNatClampNeg), .int (xs (a3 + (2 : Int32)).toNatClampNeg), .int (xs (a3 + (3 : Int32)).toNatClampNeg)]) (st := [.int v335]) C345 (by decide) ok_X6_cell li_X6_cell ls_X6_cell lm_L_110 cls6 (sx_k40 hSM) rfl rfl (Nat.le_of_ble_eq_true rfl) dL_law_944) ?_
                                                    have zm343 : SameSh m336 m343 := (kc_X6_cell m336 (xs (a3 + (1 : Int32)).toNatClampNeg) (xs (a3 + (2 : Int32)).toNatClampNeg) (xs (a3 + (3 : Int32)).toNatClampNeg) hSM v342 m343 e344).1.2.2 rfl
                                                    have hS := hS.sh zm343
                                                    have hSM := hSM.sh zm343
                                                    refine Cv.ite (fun h346 => ?_) (fun h346 => ?_)
                                                    · refine Cv.go (pc' := 1101) (go_icmp_eq_t (tgt := 1101) dL_law_947 rfl h346) ?_
                                                      exact c_L_law_1101 L0 xs (F_L_law_18 L0 xs n) ih m343 a3 hS hSM
                                                    · refine Cv.go (pc' := 950) (go_icmp_eq_f 1101 dL_law_947 rfl h346) ?_
                                                      refine Cv.go (pc' := 951) (go_iconst dL_law_950 ic_0) ?_
                                                      exact Cv.ret dL_law_951 rfl
                                                  · refine Cv.ite (fun h347 => ?_) (fun h347 => ?_)
                                                    · refine Cv.go (pc' := 952) (go_tsIn (off := 919) (tgt := 952) dL_law_33 (by rw [h347]; decide) (by rw [h347]; decide) (by rw [h347]; rfl) rfl) ?_
                                                      refine Cv.go (pc' := 953) (go_aload_n (i := 1) (x := 0) dL_law_952 rfl rfl) ?_
                                                      refine Cv.go (pc' := 954) (go_aload_nr (i := 0) (x := 0) dL_law_953 rfl rfl) ?_
                                                      refine Cv.go (pc' := 955) (go_iload_n (i := 3) (x := a3) dL_law_954 rfl rfl) ?_
                                                      refine Cv.go (pc' := 956) (go_iconst dL_law_955 ic_1) ?_
                                                      refine Cv.go (pc' := 957) (go_iadd dL_law_956) ?_
                                                      refine Cv.gif fun g348 => ?_
                                                      refine Cv.go (pc' := 958) (go_rdX g348 dL_law_957) ?_
                                                      refine Cv.go (pc' := 959) (go_aload_nr (i := 0) (x := 0) dL_law_958 rfl rfl) ?_
                                                      refine Cv.go (pc' := 960) (go_iload_n (i := 3) (x := a3) dL_law_959 rfl rfl) ?_
                                                      refine Cv.go (pc' := 961) (go_iconst dL_law_960 ic_2) ?_
                                                      refine Cv.go (pc' := 962) (go_iadd dL_law_961) ?_
                                                      refine Cv.gif fun g349 => ?_
                                                      refine Cv.go (pc' := 963) (go_rdX g349 dL_law_962) ?_
                                                      refine Cv.go (pc' := 964) (go_aload_nr (i := 0) (x := 0) dL_law_963 rfl rfl) ?_
                                                      refine Cv.go (pc' := 965) (go_iload_n (i := 3) (x := a3) dL_law_964 rfl rfl) ?_
                                                      refine Cv.go (pc' := 966) (go_iconst dL_law_965 ic_3) ?_
                                                      refine Cv.go (pc' := 967) (go_iadd dL_law_966) ?_
                                                      refine Cv.gif fun g350 => ?_
                                                      refine Cv.go (pc' := 968) (go_rdX g350 dL_law_967) ?_
                                                      refine Cv.go (pc' := 969) (go_aload_nr (i := 0) (x := 0) dL_law_968 rfl rfl) ?_
                                                      refine Cv.go (pc' := 970) (go_iload_n (i := 3) (x := a3) dL_law_969 rfl rfl) ?_
                                                      refine Cv.go (pc' := 971) (go_iconst dL_law_970 ic_4) ?_
                                                      refine Cv.go (pc' := 972) (go_iadd dL_law_971) ?_
                                                      refine Cv.gif fun g351 => ?_
                                                      refine Cv.go (pc' := 973) (go_rdX g351 dL_law_972) ?_
                                                      refine Cv.go (pc' := 974) (go_aload_nr (i := 0) (x := 0) dL_law_973 rfl rfl) ?_
                                                      refine Cv.go (pc' := 975) (go_iload_n (i := 3) (x := a3) dL_law_974 rfl rfl) ?_
                                                      refine Cv.go (pc' := 976) (go_iconst dL_law_975 ic_5) ?_
                                                      refine Cv.go (pc' := 977) (go_iadd dL_law_976) ?_
                                                      refine Cv.gif fun g352 => ?_
                                                      refine Cv.go (pc' := 978) (go_rdX g352 dL_law_977) ?_
                                                      refine Cv.bnd fun v353 m354 e355 => ?_
                                                      have C356 := kc_X5_copy m (xs (a3 + (1 : Int32)).toNatClampNeg) (xs (a3 + (2 : Int32)).toNatClampNeg) (xs (a3 + (3 : Int32)).toNatClampNeg) (xs (a3 + (4 : Int32)).toNatClampNeg) (xs (a3 + (5 : Int32)).toNatClampNeg) hS v353 m354 e355
                                                      have C356 := C356.wk (sp' := false) (fun z => by cases z)
                                                      refine Cv.go (pc' := 981) (st' := [.int v353]) (go_callV (As := [.int (xs (a3 + (1 : Int32)).toNatClampNeg), .int (xs (a3 + (2 : Int32)).toNatClampNeg), .int (xs (a3 + (3 : Int32)).toNatClampNeg), .int (xs (a3 + (4 : Int32)).toNatClampNeg), .int (xs (a3 + (5 : Int32)).toNatClampNeg)]) (st := []) C356 (by decide) ok_X5_copy li_X5_copy ls_X5_copy lm_L_111 cls5 (sx_k0 hS) rfl rfl (Nat.le_of_ble_eq_true rfl) dL_law_978) ?_
                                                      have zm354 : SameSh m m354 := (kc_X5_copy m (xs (a3 + (1 : Int32)).toNatClampNeg) (xs (a3 + (2 : Int32)).toNatClampNeg) (xs (a3 + (3 : Int32)).toNatClampNeg) (xs (a3 + (4 : Int32)).toNatClampNeg) (xs (a3 + (5 : Int32)).toNatClampNeg) hS v353 m354 e355).1.2.2 rfl
                                                      have hS := hS.sh zm354
                                                      have hSM := hSM.sh zm354
                                                      refine Cv.go (pc' := 982) (go_aload_n (i := 2) (x := 40) dL_law_981 rfl rfl) ?_
                                                      refine Cv.go (pc' := 983) (go_aload_nr (i := 0) (x := 0) dL_law_982 rfl rfl) ?_
                                                      refine Cv.go (pc' := 984) (go_iload_n (i := 3) (x := a3) dL_law_983 rfl rfl) ?_
                                                      refine Cv.go (pc' := 985) (go_iconst dL_law_984 ic_1) ?_
                                                      refine Cv.go (pc' := 986) (go_iadd dL_law_985) ?_
                                                      refine Cv.gif fun g357 => ?_
                                                      refine Cv.go (pc' := 987) (go_rdX g357 dL_law_986) ?_
                                                      refine Cv.go (pc' := 988) (go_aload_nr (i := 0) (x := 0) dL_law_987 rfl rfl) ?_
                                                      refine Cv.go (pc' := 989) (go_iload_n (i := 3) (x := a3) dL_law_988 rfl rfl) ?_
                                                      refine Cv.go (pc' := 990) (go_iconst dL_law_989 ic_2) ?_
                                                      refine Cv.go (pc' := 991) (go_iadd dL_law_990) ?_
                                                      refine Cv.gif fun g358 => ?_
                                                      refine Cv.go (pc' := 992) (go_rdX g358 dL_law_991) ?_
                                                      refine Cv.go (pc' := 993) (go_aload_nr (i := 0) (x := 0) dL_law_992 rfl rfl) ?_
                                                      refine Cv.go (pc' := 994) (go_iload_n (i := 3) (x := a3) dL_law_993 rfl rfl) ?_
                                                      refine Cv.go (pc' := 995) (go_iconst dL_law_994 ic_3) ?_
                                                      refine Cv.go (pc' := 996) (go_iadd dL_law_995) ?_
                                                      refine Cv.gif fun g359 => ?_
                                                      refine Cv.go (pc' := 997) (go_rdX g359 dL_law_996) ?_
                                                      refine Cv.go (pc' := 998) (go_aload_nr (i := 0) (x := 0) dL_law_997 rfl rfl) ?_
                                                      refine Cv.go (pc' := 999) (go_iload_n (i := 3) (x := a3) dL_law_998 rfl rfl) ?_
                                                      refine Cv.go (pc' := 1000) (go_iconst dL_law_999 ic_4) ?_
                                                      refine Cv.go (pc' := 1001) (go_iadd dL_law_1000) ?_
                                                      refine Cv.gif fun g360 => ?_
                                                      refine Cv.go (pc' := 1002) (go_rdX g360 dL_law_1001) ?_
                                                      refine Cv.go (pc' := 1003) (go_aload_nr (i := 0) (x := 0) dL_law_1002 rfl rfl) ?_
                                                      refine Cv.go (pc' := 1004) (go_iload_n (i := 3) (x := a3) dL_law_1003 rfl rfl) ?_
                                                      refine Cv.go (pc' := 1005) (go_iconst dL_law_1004 ic_5) ?_
                                                      refine Cv.go (pc' := 1006) (go_iadd dL_law_1005) ?_
                                                      refine Cv.gif fun g361 => ?_
                                                      refine Cv.go (pc' := 1007) (go_rdX g361 dL_law_1006) ?_
                                                      refine Cv.bnd fun v362 m363 e364 => ?_
                                                      have C365 := kc_X6_copy m354 (xs (a3 + (1 : Int32)).toNatClampNeg) (xs (a3 + (2 : Int32)).toNatClampNeg) (xs (a3 + (3 : Int32)).toNatClampNeg) (xs (a3 + (4 : Int32)).toNatClampNeg) (xs (a3 + (5 : Int32)).toNatClampNeg) hSM v362 m363 e364
                                                      have C365 := C365.wk (sp' := false) (fun z => by cases z)
                                                      refine Cv.go (pc' := 1010) (st' := [.int v362, .int v353]) (go_callV (As := [.int (xs (a3 + (1 : Int32)).toNatClampNeg), .int (xs (a3 + (2 : Int32)).toNatClampNeg), .int (xs (a3 + (3 : Int32)).toNatClampNeg), .int (xs (a3 + (4 : Int32)).toNatClampNeg), .int (xs (a3 + (5 : Int32)).toNatClampNeg)]) (st := [.int v353]) C365 (by decide) ok_X6_copy li_X6_copy ls_X6_copy lm_L_115 cls6 (sx_k40 hSM) rfl rfl (Nat.le_of_ble_eq_true rfl) dL_law_1007) ?_
                                                      have zm363 : SameSh m354 m363 := (kc_X6_copy m354 (xs (a3 + (1 : Int32)).toNatClampNeg) (xs (a3 + (2 : Int32)).toNatClampNeg) (xs (a3 + (3 : Int32)).toNatClampNeg) (xs (a3 + (4 : Int32)).toNatClampNeg) (xs (a3 + (5 : Int32)).toNatClampNeg) hSM v362 m363 e364).1.2.2 rfl
                                                      have hS := hS.sh zm363
                                                      have hSM := hSM.sh zm363
                                                      refine Cv.ite (fun h366 => ?_) (fun h366 => ?_)
                                                      · refine Cv.go (pc' := 1101) (go_icmp_eq_t (tgt := 1101) dL_law_1010 rfl h366) ?_
                                                        exact c_L_law_1101 L0 xs (F_L_law_18 L0 xs n) ih m363 a3 hS hSM
                                                      · refine Cv.go (pc' := 1013) (go_icmp_eq_f 1101 dL_law_1010 rfl h366) ?_
                                                        refine Cv.go (pc' := 1014) (go_iconst dL_law_1013 ic_0) ?_
                                                        exact Cv.ret dL_law_1014 rfl
                                                    · refine Cv.ite (fun h367 => ?_) (fun h367 => ?_)
                                                      · refine Cv.go (pc' := 1015) (go_tsIn (off := 982) (tgt := 1015) dL_law_33 (by rw [h367]; decide) (by rw [h367]; decide) (by rw [h367]; rfl) rfl) ?_
                                                        refine Cv.go (pc' := 1016) (go_aload_n (i := 1) (x := 0) dL_law_1015 rfl rfl) ?_
                                                        refine Cv.go (pc' := 1017) (go_aload_nr (i := 0) (x := 0) dL_law_1016 rfl rfl) ?_
                                                        refine Cv.go (pc' := 1018) (go_iload_n (i := 3) (x := a3) dL_law_1017 rfl rfl) ?_
                                                        refine Cv.go (pc' := 1019) (go_iconst dL_law_1018 ic_1) ?_
                                                        refine Cv.go (pc' := 1020) (go_iadd dL_law_1019) ?_
                                                        refine Cv.gif fun g368 => ?_
                                                        refine Cv.go (pc' := 1021) (go_rdX g368 dL_law_1020) ?_
                                                        refine Cv.go (pc' := 1022) (go_aload_nr (i := 0) (x := 0) dL_law_1021 rfl rfl) ?_
                                                        refine Cv.go (pc' := 1023) (go_iload_n (i := 3) (x := a3) dL_law_1022 rfl rfl) ?_
                                                        refine Cv.go (pc' := 1024) (go_iconst dL_law_1023 ic_2) ?_
                                                        refine Cv.go (pc' := 1025) (go_iadd dL_law_1024) ?_
                                                        refine Cv.gif fun g369 => ?_
                                                        refine Cv.go (pc' := 1026) (go_rdX g369 dL_law_1025) ?_
                                                        refine Cv.go (pc' := 1027) (go_aload_nr (i := 0) (x := 0) dL_law_1026 rfl rfl) ?_
                                                        refine Cv.go (pc' := 1028) (go_iload_n (i := 3) (x := a3) dL_law_1027 rfl rfl) ?_
                                                        refine Cv.go (pc' := 1029) (go_iconst dL_law_1028 ic_3) ?_
                                                        refine Cv.go (pc' := 1030) (go_iadd dL_law_1029) ?_
                                                        refine Cv.gif fun g370 => ?_
                                                        refine Cv.go (pc' := 1031) (go_rdX g370 dL_law_1030) ?_
                                                        refine Cv.go (pc' := 1032) (go_aload_nr (i := 0) (x := 0) dL_law_1031 rfl rfl) ?_
                                                        refine Cv.go (pc' := 1033) (go_iload_n (i := 3) (x := a3) dL_law_1032 rfl rfl) ?_
                                                        refine Cv.go (pc' := 1034) (go_iconst dL_law_1033 ic_4) ?_
                                                        refine Cv.go (pc' := 1035) (go_iadd dL_law_1034) ?_
                                                        refine Cv.gif fun g371 => ?_
                                                        refine Cv.go (pc' := 1036) (go_rdX g371 dL_law_1035) ?_
                                                        refine Cv.bnd fun v372 m373 e374 => ?_
                                                        have C375 := kc_X5_coins m (xs (a3 + (1 : Int32)).toNatClampNeg) (xs (a3 + (2 : Int32)).toNatClampNeg) (xs (a3 + (3 : Int32)).toNatClampNeg) (xs (a3 + (4 : Int32)).toNatClampNeg) hS v372 m373 e374
                                                        have C375 := C375.wk (sp' := false) (fun z => by cases z)
                                                        refine Cv.go (pc' := 1039) (st' := [.int v372]) (go_callV (As := [.int (xs (a3 + (1 : Int32)).toNatClampNeg), .int (xs (a3 + (2 : Int32)).toNatClampNeg), .int (xs (a3 + (3 : Int32)).toNatClampNeg), .int (xs (a3 + (4 : Int32)).toNatClampNeg)]) (st := []) C375 (by decide) ok_X5_coins li_X5_coins ls_X5_coins lm_L_116 cls5 (sx_k0 hS) rfl rfl (Nat.le_of_ble_eq_true rfl) dL_law_1036) ?_
                                                        have zm373 : SameSh m m373 := (kc_X5_coins m (xs (a3 + (1 : Int32)).toNatClampNeg) (xs (a3 + (2 : Int32)).toNatClampNeg) (xs (a3 + (3 : Int32)).toNatClampNeg) (xs (a3 + (4 : Int32)).toNatClampNeg) hS v372 m373 e374).1.2.2 rfl
                                                        have hS := hS.sh zm373
                                                        have hSM := hSM.sh zm373
                                                        refine Cv.go (pc' := 1040) (go_aload_n (i := 2) (x := 40) dL_law_1039 rfl rfl) ?_
                                                        refine Cv.go (pc' := 1041) (go_aload_nr (i := 0) (x := 0) dL_law_1040 rfl rfl) ?_
                                                        refine Cv.go (pc' := 1042) (go_iload_n (i := 3) (x := a3) dL_law_1041 rfl rfl) ?_
                                                        refine Cv.go (pc' := 1043) (go_iconst dL_law_1042 ic_1) ?_
                                                        refine Cv.go (pc' := 1044) (go_iadd dL_law_1043) ?_
                                                        refine Cv.gif fun g376 => ?_
                                                        refine Cv.go (pc' := 1045) (go_rdX g376 dL_law_1044) ?_
                                                        refine Cv.go (pc' := 1046) (go_aload_nr (i := 0) (x := 0) dL_law_1045 rfl rfl) ?_
                                                        refine Cv.go (pc' := 1047) (go_iload_n (i := 3) (x := a3) dL_law_1046 rfl rfl) ?_
                                                        refine Cv.go (pc' := 1048) (go_iconst dL_law_1047 ic_2) ?_
                                                        refine Cv.go (pc' := 1049) (go_iadd dL_law_1048) ?_
                                                        refine Cv.gif fun g377 => ?_
                                                        refine Cv.go (pc' := 1050) (go_rdX g377 dL_law_1049) ?_
                                                        refine Cv.go (pc' := 1051) (go_aload_nr (i := 0) (x := 0) dL_law_1050 rfl rfl) ?_
                                                        refine Cv.go (pc' := 1052) (go_iload_n (i := 3) (x := a3) dL_law_1051 rfl rfl) ?_
                                                        refine Cv.go (pc' := 1053) (go_iconst dL_law_1052 ic_3) ?_
                                                        refine Cv.go (pc' := 1054) (go_iadd dL_law_1053) ?_
                                                        refine Cv.gif fun g378 => ?_
                                                        refine Cv.go (pc' := 1055) (go_rdX g378 dL_law_1054) ?_
                                                        refine Cv.go (pc' := 1056) (go_aload_nr (i := 0) (x := 0) dL_law_1055 rfl rfl) ?_
                                                        refine Cv.go (pc' := 1057) (go_iload_n (i := 3) (x := a3) dL_law_1056 rfl rfl) ?_
                                                        refine Cv.go (pc' := 1058) (go_iconst dL_law_1057 ic_4) ?_
                                                        refine Cv.go (pc' := 1059) (go_iadd dL_law_1058) ?_
                                                        refine Cv.gif fun g379 => ?_
                                                        refine Cv.go (pc' := 1060) (go_rdX g379 dL_law_1059) ?_
                                                        refine Cv.bnd fun v380 m381 e382 => ?_
                                                        have C383 := kc_X6_coins m373 (xs (a3 + (1 : Int32)).toNatClampNeg) (xs (a3 + (2 : Int32)).toNatClampNeg) (xs (a3 + (3 : Int32)).toNatClampNeg) (xs (a3 + (4 : Int32)).toNatClampNeg) hSM v380 m381 e382
                                                        have C383 := C383.wk (sp' := false) (fun z => by cases z)
                                                        refine Cv.go (pc' := 1063) (st' := [.int v380, .int v372]) (go_callV (As := [.int (xs (a3 + (1 : Int32)).toNatClampNeg), .int (xs (a3 + (2 : Int32)).toNatClampNeg), .int (xs (a3 + (3 : Int32)).toNatClampNeg), .int (xs (a3 + (4 : Int32)).toNatClampNeg)]) (st := [.int v372]) C383 (by decide) ok_X6_coins li_X6_coins ls_X6_coins lm_L_119 cls6 (sx_k40 hSM) rfl rfl (Nat.le_of_ble_eq_true rfl) dL_law_1060) ?_
                                                        have zm381 : SameSh m373 m381 := (kc_X6_coins m373 (xs (a3 + (1 : Int32)).toNatClampNeg) (xs (a3 + (2 : Int32)).toNatClampNeg) (xs (a3 + (3 : Int32)).toNatClampNeg) (xs (a3 + (4 : Int32)).toNatClampNeg) hSM v380 m381 e382).1.2.2 rfl
                                                        have hS := hS.sh zm381
                                                        have hSM := hSM.sh zm381
                                                        refine Cv.ite (fun h384 => ?_) (fun h384 => ?_)
                                                        · refine Cv.go (pc' := 1101) (go_icmp_eq_t (tgt := 1101) dL_law_1063 rfl h384) ?_
                                                          exact c_L_law_1101 L0 xs (F_L_law_18 L0 xs n) ih m381 a3 hS hSM
                                                        · refine Cv.go (pc' := 1066) (go_icmp_eq_f 1101 dL_law_1063 rfl h384) ?_
                                                          refine Cv.go (pc' := 1067) (go_iconst dL_law_1066 ic_0) ?_
                                                          exact Cv.ret dL_law_1067 rfl
                                                      · refine Cv.ite (fun h385 => ?_) (fun h385 => ?_)
                                                        · refine Cv.go (pc' := 1068) (go_tsIn (off := 1035) (tgt := 1068) dL_law_33 (by rw [h385]; decide) (by rw [h385]; decide) (by rw [h385]; rfl) rfl) ?_
                                                          refine Cv.go (pc' := 1069) (go_aload_n (i := 1) (x := 0) dL_law_1068 rfl rfl) ?_
                                                          refine Cv.go (pc' := 1070) (go_aload_nr (i := 0) (x := 0) dL_law_1069 rfl rfl) ?_
                                                          refine Cv.go (pc' := 1071) (go_iload_n (i := 3) (x := a3) dL_law_1070 rfl rfl) ?_
                                                          refine Cv.go (pc' := 1072) (go_iconst dL_law_1071 ic_1) ?_
                                                          refine Cv.go (pc' := 1073) (go_iadd dL_law_1072) ?_
                                                          refine Cv.gif fun g386 => ?_
                                                          refine Cv.go (pc' := 1074) (go_rdX g386 dL_law_1073) ?_
                                                          refine Cv.go (pc' := 1075) (go_aload_nr (i := 0) (x := 0) dL_law_1074 rfl rfl) ?_
                                                          refine Cv.go (pc' := 1076) (go_iload_n (i := 3) (x := a3) dL_law_1075 rfl rfl) ?_
                                                          refine Cv.go (pc' := 1077) (go_iconst dL_law_1076 ic_2) ?_
                                                          refine Cv.go (pc' := 1078) (go_iadd dL_law_1077) ?_
                                                          refine Cv.gif fun g387 => ?_
                                                          refine Cv.go (pc' := 1079) (go_rdX g387 dL_law_1078) ?_
                                                          refine Cv.bnd fun v388 m389 e390 => ?_
                                                          have C391 := kc_X5_taken m (xs (a3 + (1 : Int32)).toNatClampNeg) (xs (a3 + (2 : Int32)).toNatClampNeg) hS v388 m389 e390
                                                          have C391 := C391.wk (sp' := false) (fun z => by cases z)
                                                          refine Cv.go (pc' := 1082) (st' := [.int v388]) (go_callV (As := [.int (xs (a3 + (1 : Int32)).toNatClampNeg), .int (xs (a3 + (2 : Int32)).toNatClampNeg)]) (st := []) C391 (by decide) ok_X5_taken li_X5_taken ls_X5_taken lm_L_120 cls5 (sx_k0 hS) rfl rfl (Nat.le_of_ble_eq_true rfl) dL_law_1079) ?_
                                                          have zm389 : SameSh m m389 := (kc_X5_taken m (xs (a3 + (1 : Int32)).toNatClampNeg) (xs (a3 + (2 : Int32)).toNatClampNeg) hS v388 m389 e390).1.2.2 rfl
                                                          have hS := hS.sh zm389
                                                          have hSM := hSM.sh zm389
                                                          refine Cv.go (pc' := 1083) (go_aload_n (i := 2) (x := 40) dL_law_1082 rfl rfl) ?_
                                                          refine Cv.go (pc' := 1084) (go_aload_nr (i := 0) (x := 0) dL_law_1083 rfl rfl) ?_
                                                          refine Cv.go (pc' := 1085) (go_iload_n (i := 3) (x := a3) dL_law_1084 rfl rfl) ?_
                                                          refine Cv.go (pc' := 1086) (go_iconst dL_law_1085 ic_1) ?_
                                                          refine Cv.go (pc' := 1087) (go_iadd dL_law_1086) ?_
                                                          refine Cv.gif fun g392 => ?_
                                                          refine Cv.go (pc' := 1088) (go_rdX g392 dL_law_1087) ?_
                                                          refine Cv.go (pc' := 1089) (go_aload_nr (i := 0) (x := 0) dL_law_1088 rfl rfl) ?_
                                                          refine Cv.go (pc' := 1090) (go_iload_n (i := 3) (x := a3) dL_law_1089 rfl rfl) ?_
                                                          refine Cv.go (pc' := 1091) (go_iconst dL_law_1090 ic_2) ?_
                                                          refine Cv.go (pc' := 1092) (go_iadd dL_law_1091) ?_
                                                          refine Cv.gif fun g393 => ?_
                                                          refine Cv.go (pc' := 1093) (go_rdX g393 dL_law_1092) ?_
                                                          refine Cv.bnd fun v394 m395 e396 => ?_
                                                          have C397 := kc_X6_taken m389 (xs (a3 + (1 : Int32)).toNatClampNeg) (xs (a3 + (2 : Int32)).toNatClampNeg) hSM v394 m395 e396
                                                          have C397 := C397.wk (sp' := false) (fun z => by cases z)
                                                          refine Cv.go (pc' := 1096) (st' := [.int v394, .int v388]) (go_callV (As := [.int (xs (a3 + (1 : Int32)).toNatClampNeg), .int (xs (a3 + (2 : Int32)).toNatClampNeg)]) (st := [.int v388]) C397 (by decide) ok_X6_taken li_X6_taken ls_X6_taken lm_L_123 cls6 (sx_k40 hSM) rfl rfl (Nat.le_of_ble_eq_true rfl) dL_law_1093) ?_
                                                          have zm395 : SameSh m389 m395 := (kc_X6_taken m389 (xs (a3 + (1 : Int32)).toNatClampNeg) (xs (a3 + (2 : Int32)).toNatClampNeg) hSM v394 m395 e396).1.2.2 rfl
                                                          have hS := hS.sh zm395
                                                          have hSM := hSM.sh zm395
                                                          refine Cv.ite (fun h398 => ?_) (fun h398 => ?_)
                                                          · refine Cv.go (pc' := 1101) (go_icmp_eq_t (tgt := 1101) dL_law_1096 rfl h398) ?_
                                                            exact c_L_law_1101 L0 xs (F_L_law_18 L0 xs n) ih m395 a3 hS hSM
                                                          · refine Cv.go (pc' := 1099) (go_icmp_eq_f 1101 dL_law_1096 rfl h398) ?_
                                                            refine Cv.go (pc' := 1100) (go_iconst dL_law_1099 ic_0) ?_
                                                            exact Cv.ret dL_law_1100 rfl
                                                        · refine Cv.go (pc' := 1101) (go_tsOut (tgt := 1101) dL_law_33 (by have n0 : (x15).toInt ≠ 0 := fun z => h16 (Int32.toInt_inj.mp (z.trans (by decide))); have n1 : (x15).toInt ≠ 1 := fun z => h32 (Int32.toInt_inj.mp (z.trans (by decide))); have n2 : (x15).toInt ≠ 2 := fun z => h48 (Int32.toInt_inj.mp (z.trans (by decide))); have n3 : (x15).toInt ≠ 3 := fun z => h62 (Int32.toInt_inj.mp (z.trans (by decide))); have n4 : (x15).toInt ≠ 4 := fun z => h74 (Int32.toInt_inj.mp (z.trans (by decide))); have n5 : (x15).toInt ≠ 5 := fun z => h85 (Int32.toInt_inj.mp (z.trans (by decide))); have n6 : (x15).toInt ≠ 6 := fun z => h97 (Int32.toInt_inj.mp (z.trans (by decide))); have n7 : (x15).toInt ≠ 7 := fun z => h107 (Int32.toInt_inj.mp (z.trans (by decide))); have n8 : (x15).toInt ≠ 8 := fun z => h121 (Int32.toInt_inj.mp (z.trans (by decide))); have n9 : (x15).toInt ≠ 9 := fun z => h137 (Int32.toInt_inj.mp (z.trans (by decide))); have n10 : (x15).toInt ≠ 10 := fun z => h151 (Int32.toInt_inj.mp (z.trans (by decide))); have n11 : (x15).toInt ≠ 11 := fun z => h167 (Int32.toInt_inj.mp (z.trans (by decide))); have n12 : (x15).toInt ≠ 12 := fun z => h183 (Int32.toInt_inj.mp (z.trans (by decide))); have n13 : (x15).toInt ≠ 13 := fun z => h201 (Int32.toInt_inj.mp (z.trans (by decide))); have n14 : (x15).toInt ≠ 14 := fun z => h217 (Int32.toInt_inj.mp (z.trans (by decide))); have n15 : (x15).toInt ≠ 15 := fun z => h233 (Int32.toInt_inj.mp (z.trans (by decide))); have n16 : (x15).toInt ≠ 16 := fun z => h249 (Int32.toInt_inj.mp (z.trans (by decide))); have n17 : (x15).toInt ≠ 17 := fun z => h263 (Int32.toInt_inj.mp (z.trans (by decide))); have n18 : (x15).toInt ≠ 18 := fun z => h283 (Int32.toInt_inj.mp (z.trans (by decide))); have n19 : (x15).toInt ≠ 19 := fun z => h293 (Int32.toInt_inj.mp (z.trans (by decide))); have n20 : (x15).toInt ≠ 20 := fun z => h303 (Int32.toInt_inj.mp (z.trans (by decide))); have n21 : (x15).toInt ≠ 21 := fun z => h315 (Int32.toInt_inj.mp (z.trans (by decide))); have n22 : (x15).toInt ≠ 22 := fun z => h331 (Int32.toInt_inj.mp (z.trans (by decide))); have n23 : (x15).toInt ≠ 23 := fun z => h347 (Int32.toInt_inj.mp (z.trans (by decide))); have n24 : (x15).toInt ≠ 24 := fun z => h367 (Int32.toInt_inj.mp (z.trans (by decide))); have n25 : (x15).toInt ≠ 25 := fun z => h385 (Int32.toInt_inj.mp (z.trans (by decide))); omega) rfl) ?_
                                                          exact c_L_law_1101 L0 xs (F_L_law_18 L0 xs n) ih m a3 hS hSM
theorem c_L_law (L0 : Nat) (xs : Nat → Int32) (m : Mem) : Cv false (cL_law, 4, RL, 88, ((false, some (L0, xs)) : IK)) .ireturn eZ (F_L_law L0 xs m) m 0 [.retAddr 0, .null, .null, .null] [] := by
  unfold F_L_law
  refine Cv.go (pc' := 3) (go_new cls5 lk_L_7 la_X5 ln_X5 nf5 dL_law_0) ?_
  refine Cv.namM fun m1 em1 => ?_
  refine Cv.namR fun q2 eq2 => ?_
  refine Cv.go (pc' := 4) (go_dup_a dL_law_3) ?_
  refine Cv.bnd fun v3 m4 e5 => ?_
  have C6 := kc_X5_init m1 q2 v3 m4 e5
  refine Cv.go (pc' := 7) (st' := [.ref q2]) (go_callI (As := []) (st := [.ref q2]) C6 rfl rfl (by decide) ok_X5_init li_X5_init lm_L_9 rfl rfl (Nat.le_of_ble_eq_true rfl) dL_law_4) ?_
  refine Cv.go (pc' := 8) (ls' := [.retAddr 0, .ref q2, .null, .null]) (go_astore_n dL_law_7 rfl (by decide) rfl) ?_
  refine Cv.go (pc' := 11) (go_new cls6 lk_L_10 la_X6 ln_X6 nf6 dL_law_8) ?_
  refine Cv.namM fun m7 em7 => ?_
  refine Cv.namR fun q8 eq8 => ?_
  refine Cv.go (pc' := 12) (go_dup_a dL_law_11) ?_
  refine Cv.bnd fun v9 m10 e11 => ?_
  have C12 := kc_X6_init m7 q8 v9 m10 e11
  refine Cv.go (pc' := 15) (st' := [.ref q8]) (go_callI (As := []) (st := [.ref q8]) C12 rfl rfl (by decide) ok_X6_init li_X6_init lm_L_12 rfl rfl (Nat.le_of_ble_eq_true rfl) dL_law_12) ?_
  refine Cv.go (pc' := 16) (ls' := [.retAddr 0, .ref q2, .ref q8, .null]) (go_astore_n dL_law_15 rfl (by decide) rfl) ?_
  refine Cv.go (pc' := 17) (go_iconst dL_law_16 ic_0) ?_
  refine Cv.go (pc' := 18) (ls' := [.retAddr 0, .ref q2, .ref q8, .int (0 : Int32)]) (go_istore_n dL_law_17 rfl (by decide) rfl) ?_
  refine Cv.gif fun g0 => ?_
  obtain ⟨z1, z2, hS, hSM⟩ := g0
  subst z1
  subst z2
  exact c_L_law_18 L0 xs FU m10 (0 : Int32) hS hSM
