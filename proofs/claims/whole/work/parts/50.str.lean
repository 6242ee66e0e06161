/-! THE TWO TEXTS OF THE CLASS, read through java.lang.String -/
theorem ro_str {ro : Nat → Value} {A : Nat → Prop} {s : State} (h : RO ro A s) {j : Nat} (hj : j < 2) : ∃ aK aV : Nat, ro (4 + j) = .ref aK ∧ ro (6 + j) = .ref aV ∧ va_O "java/lang/String" aK A s s.heap ∧ va_OF "java/lang/String" "coder" "B" (.int 0) aK A s s.heap ∧ va_OF "java/lang/String" "value" "[B" (.ref aV) aK A s s.heap ∧ va_T .byte aV (tlen.getD j 0) (fun i => .int (sch j i)) A s s.heap := by
  obtain ⟨-, -, -, -, ⟨adK, adV, hS, e4, e5, e6, e7, -, -⟩, -, -⟩ := h
  obtain ⟨h1, h2, h3, h4⟩ := hS.1 j hj
  refine ⟨adK j, adV j, ?_, ?_, h1, h2, h3, h4⟩
  · rcases (show j = 0 ∨ j = 1 by omega) with rfl | rfl
    · exact e4
    · exact e5
  · rcases (show j = 0 ∨ j = 1 by omega) with rfl | rfl
    · exact e6
    · exact e7
section SR
variable {sp : Bool} {ini : IK} {cc : ByteArray} {nL d dc : Nat} {own : String} {m m1 : Mem} {pc idx j n : Nat} {ls st stk As : List Value} {k : MD} {rv : Option Value}
theorem go_ldcS4 (hd : decode cc pc = .ok (.ldc 51, 2)) : Go sp (cc, nL, RX5, d, ini) m pc ls st m (pc + 2) ls (.retAddr 4 :: st) := by
  refine ⟨Gr.rf, ?_⟩
  intro b B
  obtain ⟨p, l, e, R, s, mi, args, below, meth, c, D, cy, ro, A, n0, s0, ad0, Q⟩ := b
  obtain ⟨hx, hb, hml, hown, hts, hlk, hrm, hK, hA, hRO⟩ := B
  intro hn0 hs0 hN hSl ad H locs L hR he ho1 ho2 hl kk
  obtain ⟨adK, adV, hS, e4, e5, e6, e7, r4, r5⟩ := hRO.2.2.2.2.1
  refine va_ldcS hx hb hown r4 hd ?_
  rw [← e4]
  exact kk ad H locs L hR he ho1 (okl.cons trivial ho2) hl
theorem go_ldcS5 (hd : decode cc pc = .ok (.ldc 88, 2)) : Go sp (cc, nL, RX3, d, ini) m pc ls st m (pc + 2) ls (.retAddr 5 :: st) := by
  refine ⟨Gr.rf, ?_⟩
  intro b B
  obtain ⟨p, l, e, R, s, mi, args, below, meth, c, D, cy, ro, A, n0, s0, ad0, Q⟩ := b
  obtain ⟨hx, hb, hml, hown, hts, hlk, hrm, hK, hA, hRO⟩ := B
  intro hn0 hs0 hN hSl ad H locs L hR he ho1 ho2 hl kk
  obtain ⟨adK, adV, hS, e4, e5, e6, e7, r4, r5⟩ := hRO.2.2.2.2.1
  refine va_ldcS hx hb hown r5 hd ?_
  rw [← e5]
  exact kk ad H locs L hR he ho1 (okl.cons trivial ho2) hl
theorem go_sval (hj : j < 2) (hd : decode cc pc = .ok (.getfield 9, 3)) : Go sp (cc, nL, RJ0, d, ini) m pc ls (.retAddr (4 + j) :: st) m (pc + 3) ls (.retAddr (6 + j) :: st) := by
  refine ⟨Gr.rf, ?_⟩
  intro b B
  obtain ⟨p, l, e, R, s, mi, args, below, meth, c, D, cy, ro, A, n0, s0, ad0, Q⟩ := b
  obtain ⟨hx, hb, hml, hown, hts, hlk, hrm, hK, hA, hRO⟩ := B
  intro hn0 hs0 hN hSl ad H locs L hR he ho1 ho2 hl kk
  obtain ⟨aK, aV, e1, e2, -, -, hV, -⟩ := ro_str hRO hj
  have k0 := kk ad H locs L hR he ho1 (okl.cons trivial ho2.tail) hl
  show W p l e R s mi args below meth c H locs _ _ Q (F0 mi pc L (ro (4 + j) :: st.map (ren ad ro)))
  rw [e1]
  refine vk_getf (ref := RJ0) hx hb hV hR.2.2.1 hown (hts _ lf_J0_9) (fun x h => h) hd ?_
  rw [← e2]
  exact k0
theorem go_scod (hj : j < 2) (hd : decode cc pc = .ok (.getfield 15, 3)) : Go sp (cc, nL, RJ0, d, ini) m pc ls (.retAddr (4 + j) :: st) m (pc + 3) ls (.int 0 :: st) := by
  refine ⟨Gr.rf, ?_⟩
  intro b B
  obtain ⟨p, l, e, R, s, mi, args, below, meth, c, D, cy, ro, A, n0, s0, ad0, Q⟩ := b
  obtain ⟨hx, hb, hml, hown, hts, hlk, hrm, hK, hA, hRO⟩ := B
  intro hn0 hs0 hN hSl ad H locs L hR he ho1 ho2 hl kk
  obtain ⟨aK, aV, e1, e2, -, hC, -, -⟩ := ro_str hRO hj
  have k0 := kk ad H locs L hR he ho1 (okl.cons trivial ho2.tail) hl
  show W p l e R s mi args below meth c H locs _ _ Q (F0 mi pc L (ro (4 + j) :: st.map (ren ad ro)))
  rw [e1]
  exact vk_getf (ref := RJ0) hx hb hC hR.2.2.1 hown (hts _ lf_J0_15) (fun x h => h) hd k0
theorem go_scmp (hd : decode cc pc = .ok (.getstatic 38, 3)) : Go sp (cc, nL, RJ0, d, ini) m pc ls st m (pc + 3) ls (.int 1 :: st) := by
  refine ⟨Gr.rf, ?_⟩
  intro b B
  obtain ⟨p, l, e, R, s, mi, args, below, meth, c, D, cy, ro, A, n0, s0, ad0, Q⟩ := b
  obtain ⟨hx, hb, hml, hown, hts, hlk, hrm, hK, hA, hRO⟩ := B
  intro hn0 hs0 hN hSl ad H locs L hR he ho1 ho2 hl kk
  refine va_gets (ref := RJ0) hx hb hRO.2.2.2.2.2.1 hR.2.2.1 hown (hts _ lf_J0_38) (fun x h => h) hd ?_
  exact kk ad H locs L hR he ho1 (okl.cons trivial ho2) hl
theorem go_sfmt (hd : decode cc pc = .ok (.getstatic 1053, 3)) : Go sp (cc, nL, RJ0, d, ini) m pc ls st m (pc + 3) ls (.retAddr 8 :: st) := by
  refine ⟨Gr.rf, ?_⟩
  intro b B
  obtain ⟨p, l, e, R, s, mi, args, below, meth, c, D, cy, ro, A, n0, s0, ad0, Q⟩ := b
  obtain ⟨hx, hb, hml, hown, hts, hlk, hrm, hK, hA, hRO⟩ := B
  intro hn0 hs0 hN hSl ad H locs L hR he ho1 ho2 hl kk
  refine va_gets (ref := RJ3) hx hb hRO.2.2.2.2.2.2 hR.2.2.1 hown (hts _ lf_J0_1053) (fun x h => h) hd ?_
  exact kk ad H locs L hR he ho1 (okl.cons trivial ho2) hl
theorem go_slen (hj : j < 2) (hd : decode cc pc = .ok (.arraylength, 1)) : Go sp (cc, nL, own, d, ini) m pc ls (.retAddr (6 + j) :: st) m (pc + 1) ls (.int (Int32.ofNat (tlen.getD j 0)) :: st) := by
  refine ⟨Gr.rf, ?_⟩
  intro b B
  obtain ⟨p, l, e, R, s, mi, args, below, meth, c, D, cy, ro, A, n0, s0, ad0, Q⟩ := b
  obtain ⟨hx, hb, hml, hown, hts, hlk, hrm, hK, hA, hRO⟩ := B
  intro hn0 hs0 hN hSl ad H locs L hR he ho1 ho2 hl kk
  obtain ⟨aK, aV, e1, e2, -, -, -, hT⟩ := ro_str hRO hj
  have k0 := kk ad H locs L hR he ho1 (okl.cons trivial ho2.tail) hl
  show W p l e R s mi args below meth c H locs _ _ Q (F0 mi pc L (ro (6 + j) :: st.map (ren ad ro)))
  rw [e2]
  exact va_tlen hx hb hT hR.2.2.1 rfl hd k0
theorem go_sbyt {i : Int32} (hj : j < 2) (hi : vp_in i (tlen.getD j 0)) (hd : decode cc pc = .ok (.baload, 1)) : Go sp (cc, nL, own, d, ini) m pc ls (.int i :: .retAddr (6 + j) :: st) m (pc + 1) ls (.int (sch j i.toNatClampNeg) :: st) := by
  refine ⟨Gr.rf, ?_⟩
  intro b B
  obtain ⟨p, l, e, R, s, mi, args, below, meth, c, D, cy, ro, A, n0, s0, ad0, Q⟩ := b
  obtain ⟨hx, hb, hml, hown, hts, hlk, hrm, hK, hA, hRO⟩ := B
  intro hn0 hs0 hN hSl ad H locs L hR he ho1 ho2 hl kk
  obtain ⟨aK, aV, e1, e2, -, -, -, hT⟩ := ro_str hRO hj
  have k0 := kk ad H locs L hR he ho1 (okl.cons trivial ho2.tail.tail) hl
  show W p l e R s mi args below meth c H locs _ _ Q (F0 mi pc L (.int i :: ro (6 + j) :: st.map (ren ad ro)))
  rw [e2]
  exact va_tb hx hb hT hR.2.2.1 hi rfl hd k0
/-- a call on one of the texts -/
theorem go_callT (hj : j < 2) (hc : Con sp k dc (.retAddr (4 + j) :: As) m rv m1) (hkc : k.1.cls = RJ0) (hdc : dc + 1 ≤ d) (hok : MDok k n) (hi : Cond.instanceMethod k.1 ∈ gtbl) (hse : Cond.selects k.1.cls k.1 k.1 ∈ gtbl) (hlk : Cond.methodLink own idx k.1 ∈ gtbl) (hn : As.length = n) (hstk : stk = As.reverse ++ .retAddr (4 + j) :: st) (hcat : (st.map fun v => v.category).sum ≤ 8) (hd : decode cc pc = .ok (.invokevirtual idx, 3)) :
    Go sp (cc, nL, own, d, ini) m pc ls stk m1 (pc + 3) ls (rv.toList ++ st) := by
  subst hstk
  obtain ⟨hG, hM⟩ := hc
  refine ⟨hG, ?_⟩
  intro b B
  obtain ⟨p, l, e, R, s, mi, args, below, meth, c, D, cy, ro, A, n0, s0, ad0, Q⟩ := b
  obtain ⟨hx, hb, hml, hown, hts, hlk0, hrm, hK, hA, hRO⟩ := B
  intro hn0 hs0 hN hS ad H locs L hR he ho1 ho2 hl kk
  obtain ⟨aK, aV, e1, e2, hO, -, -, -⟩ := ro_str hRO hj
  have hoA : okl (mN m) (.retAddr (4 + j) :: As) := fun v hv => by
    rcases List.mem_cons.mp hv with rfl | hv
    · trivial
    · exact ho2 _ (List.mem_append_left _ (List.mem_reverse.mpr hv))
  have hoS : okl (mN m) st := fun v hv => ho2 v (List.mem_append_right _ (List.mem_cons_of_mem _ hv))
  have hT : GoodIn gtbl (wsV own idx k.1.cls k.1 (wy k)) := fun w hw => by
    unfold wsV at hw
    rcases List.mem_append.mp hw with hw | hw
    · simp only [List.mem_cons, List.not_mem_nil, or_false] at hw
      rcases hw with rfl | rfl | rfl | rfl
      · exact ⟨hlk, gtbl_good hlk⟩
      · exact ⟨hi, gtbl_good hi⟩
      · exact ⟨hse, gtbl_good hse⟩
      · exact ⟨hok.2.2.1, gtbl_good hok.2.2.1⟩
    · exact hok.good w hw
  have cw := cwV (R := R) (rm := { frames := dc, cells := mN m1 - mN m, slots := mS m1 - mS m, locals := 40 * dc }) (own := own) (index := idx) n hts hT rfl rfl rfl ⟨rfl, hok.1⟩ ⟨Nat.le_trans hdc hrm.1, by have h1 := hrm.2; have h2 := hok.2.2.2; show 8 + (k.2.2.1 + 11) + 40 * dc ≤ R.locals; omega⟩
  have hrecv : ∃ cellB : Cell, H[aK]? = some cellB ∧ cellB.vm.isStatics = false ∧ s.vm.findClass k.1.cls = some cellB.cls := by
    obtain ⟨cell, g1, g2, g3, -⟩ := hO.kept hR.2.2.1.2.1
    exact ⟨cell, g1, g2, by rw [hkc]; exact g3⟩
  have hcat' : ((st.map (ren ad ro)).map fun v => v.category).sum ≤ 8 := by rw [renl_cat hRO.1]; exact hcat
  have hat : ∀ U : State, U.heap = H → s.WarmedH U.vm → PcM D cy ro ad H.size (.retAddr (4 + j) :: As) m (Value.ref aK :: As.map (ren ad ro)).toArray U := fun U hU hW => by
    have := PcM.at hR hK hA hRO hoA U hU hW
    rw [← e1]
    exact this
  have hrun := va_runV (p := p) (l := l) (e := e) (R := R) (m := mi) (below := below) (meth := meth) (locs := locs) (cells := mN m - n0) (slots := mS m - s0) (As := As.map (ren ad ro)) (rest := st.map (ren ad ro)) (g := F0 mi pc L ((As.map (ren ad ro)).reverse ++ .ref aK :: st.map (ren ad ro))) ⟨hx, hb, hml, hown, hts⟩ (hM l D cy ro ad H.size) cw
    ⟨PcM.blind, hrecv, hat⟩ rfl (by rw [List.length_map]; exact hn) (by rw [← hml]; exact hl.1) rfl (lv_room hcat') hd ⟨by have := hG.1; omega, by have := hG.2.1; omega⟩
  have est : (As.reverse ++ .retAddr (4 + j) :: st).map (ren ad ro) = (As.map (ren ad ro)).reverse ++ .ref aK :: st.map (ren ad ro) := by
    rw [List.map_append, List.map_reverse, ← e1]; rfl
  rw [est]
  exact call_after hA hn0 hs0 (hG.wk (fun h => by cases h)) hR he ho1 hoS hl hrun kk
end SR
theorem RetTy.n {ty : FieldType} {v : Int32} (h : narrow ty (.int v) = .int v) : RetTy (some ty) .ireturn (eI v) := Or.inl ⟨_, _, rfl, rfl, rfl, h⟩
theorem con_coder {j : Nat} (hj : j < 2) (m : Mem) : Con true kJ0_coder_7d493 0 [.retAddr (4 + j)] m (some (.int 0)) m := by
  refine Con.of (α := Int32) (enc := eI) (ini := false) (ls0 := [.retAddr (4 + j)]) (ri := .ireturn) (f := some (0, m)) (by decide) (by intro z; cases z) rfl (Nat.le_of_ble_eq_true rfl) (fun v mE h => ?_) ?_ 0 m rfl
  · cases h; exact RetTy.n rfl
  show Cv true (cJ0_coder_7d493, 1, RJ0, 0, ((false, none) : IK)) .ireturn eI (some ((0 : Int32), m)) m 0 [.retAddr (4 + j)] []
  refine Cv.go (pc' := 3) (go_scmp dJ0_coder_7d493_0) ?_
  refine Cv.go (pc' := 6) (go_if_eq_f 13 dJ0_coder_7d493_3 rfl (by decide)) ?_
  refine Cv.go (pc' := 7) (go_aload_nr (i := 0) (x := 4 + j) dJ0_coder_7d493_6 rfl rfl) ?_
  refine Cv.go (pc' := 10) (go_scod hj dJ0_coder_7d493_7) ?_
  refine Cv.go (pc' := 14) (go_goto (tgt := 14) dJ0_coder_7d493_10 rfl) ?_
  exact Cv.ret dJ0_coder_7d493_14 rfl
theorem con_latin {j : Nat} (hj : j < 2) (m : Mem) : Con true kJ0_isLatin1_aae02 0 [.retAddr (4 + j)] m (some (.int (bz true))) m := by
  refine Con.of (α := Bool) (enc := eZ) (ini := false) (ls0 := [.retAddr (4 + j)]) (ri := .ireturn) (f := some (true, m)) (by decide) (by intro z; cases z) rfl (Nat.le_of_ble_eq_true rfl) (fun v mE _ => RetTy.z) ?_ true m rfl
  show Cv true (cJ0_isLatin1_aae02, 1, RJ0, 0, ((false, none) : IK)) .ireturn eZ (some (true, m)) m 0 [.retAddr (4 + j)] []
  refine Cv.go (pc' := 3) (go_scmp dJ0_isLatin1_aae02_0) ?_
  refine Cv.go (pc' := 6) (go_if_eq_f 17 dJ0_isLatin1_aae02_3 rfl (by decide)) ?_
  refine Cv.go (pc' := 7) (go_aload_nr (i := 0) (x := 4 + j) dJ0_isLatin1_aae02_6 rfl rfl) ?_
  refine Cv.go (pc' := 10) (go_scod hj dJ0_isLatin1_aae02_7) ?_
  refine Cv.go (pc' := 13) (go_if_ne_f 17 dJ0_isLatin1_aae02_10 rfl rfl) ?_
  refine Cv.go (pc' := 14) (go_iconst dJ0_isLatin1_aae02_13 ic_1) ?_
  refine Cv.go (pc' := 18) (go_goto (tgt := 18) dJ0_isLatin1_aae02_14 rfl) ?_
  exact Cv.ret dJ0_isLatin1_aae02_18 rfl
theorem con_length {j : Nat} (hj : j < 2) (m : Mem) : Con true kJ0_length_8abf5 1 [.retAddr (4 + j)] m (some (.int (Int32.ofNat (tlen.getD j 0)))) m := by
  refine Con.of (α := Int32) (enc := eI) (ini := false) (ls0 := [.retAddr (4 + j)]) (ri := .ireturn) (f := some (Int32.ofNat (tlen.getD j 0), m)) (by decide) (by intro z; cases z) rfl (Nat.le_of_ble_eq_true rfl) (fun v mE _ => RetTy.i) ?_ _ m rfl
  show Cv true (cJ0_length_8abf5, 1, RJ0, 1, ((false, none) : IK)) .ireturn eI (some (Int32.ofNat (tlen.getD j 0), m)) m 0 [.retAddr (4 + j)] []
  refine Cv.go (pc' := 1) (go_aload_nr (i := 0) (x := 4 + j) dJ0_length_8abf5_0 rfl rfl) ?_
  refine Cv.go (pc' := 4) (go_sval hj dJ0_length_8abf5_1) ?_
  refine Cv.go (pc' := 5) (go_slen hj dJ0_length_8abf5_4) ?_
  refine Cv.go (pc' := 6) (go_aload_nr (i := 0) (x := 4 + j) dJ0_length_8abf5_5 rfl rfl) ?_
  refine Cv.go (pc' := 9) (st' := [.int 0, .int (Int32.ofNat (tlen.getD j 0))]) (go_callT (As := []) (st := [.int (Int32.ofNat (tlen.getD j 0))]) hj (con_coder hj m) rfl (by decide) ok_J0_coder_7d493 li_J0_coder_7d493 ls_J0_coder_7d493 lm_J0_335 rfl rfl (Nat.le_of_ble_eq_true rfl) dJ0_length_8abf5_6) ?_
  refine Cv.go (pc' := 10) (go_ishr dJ0_length_8abf5_9) ?_
  refine Cv.ret dJ0_length_8abf5_10 ?_
  rcases (show j = 0 ∨ j = 1 by omega) with rfl | rfl <;> rfl
theorem con_pre {i n : Int32} (h0 : ¬ i < 0) (h1 : i < n) (m : Mem) : Con true kJ3_checkIndex_8e157 0 [.int i, .int n, .retAddr 8] m (some (.int i)) m := by
  refine Con.of (α := Int32) (enc := eI) (ini := false) (ls0 := [.int i, .int n, .retAddr 8]) (ri := .ireturn) (f := some (i, m)) (by decide) (by intro z; cases z) rfl (Nat.le_of_ble_eq_true rfl) (fun v mE _ => RetTy.i) ?_ _ m rfl
  show Cv true (cJ3_checkIndex_8e157, 3, RJ3, 0, ((false, none) : IK)) .ireturn eI (some (i, m)) m 0 [.int i, .int n, .retAddr 8] []
  refine Cv.go (pc' := 1) (go_iload_n (i := 0) (x := i) dJ3_checkIndex_8e157_0 rfl rfl) ?_
  refine Cv.go (pc' := 4) (go_if_lt_f 9 dJ3_checkIndex_8e157_1 rfl h0) ?_
  refine Cv.go (pc' := 5) (go_iload_n (i := 0) (x := i) dJ3_checkIndex_8e157_4 rfl rfl) ?_
  refine Cv.go (pc' := 6) (go_iload_n (i := 1) (x := n) dJ3_checkIndex_8e157_5 rfl rfl) ?_
  refine Cv.go (pc' := 16) (go_icmp_lt_t (tgt := 16) dJ3_checkIndex_8e157_6 rfl h1) ?_
  refine Cv.go (pc' := 17) (go_iload_n (i := 0) (x := i) dJ3_checkIndex_8e157_16 rfl rfl) ?_
  exact Cv.ret dJ3_checkIndex_8e157_17 rfl
theorem con_chk {i n : Int32} (h0 : ¬ i < 0) (h1 : i < n) (m : Mem) : Con true kJ0_checkIndex_df160 1 [.int i, .int n] m none m := by
  refine Con.of (α := Unit) (enc := eV) (ini := false) (ls0 := [.int i, .int n]) (ri := .return_) (f := some ((), m)) (by decide) (by intro z; cases z) rfl (Nat.le_of_ble_eq_true rfl) (fun v mE _ => RetTy.v) ?_ () m rfl
  show Cv true (cJ0_checkIndex_df160, 2, RJ0, 1, ((false, none) : IK)) .return_ eV (some ((), m)) m 0 [.int i, .int n] []
  refine Cv.go (pc' := 1) (go_iload_n (i := 0) (x := i) dJ0_checkIndex_df160_0 rfl rfl) ?_
  refine Cv.go (pc' := 2) (go_iload_n (i := 1) (x := n) dJ0_checkIndex_df160_1 rfl rfl) ?_
  refine Cv.go (pc' := 5) (go_sfmt dJ0_checkIndex_df160_2) ?_
  refine Cv.go (pc' := 8) (st' := [.int i]) (go_callS (As := [.int i, .int n, .retAddr 8]) (st := []) (con_pre h0 h1 m) (by decide) ok_J3_checkIndex_8e157 lt_J3_checkIndex_8e157 lm_J0_1059 rfl rfl (Nat.le_of_ble_eq_true rfl) dJ0_checkIndex_df160_5) ?_
  refine Cv.go (pc' := 9) (go_pop_i dJ0_checkIndex_df160_8) ?_
  exact Cv.ret dJ0_checkIndex_df160_9 rfl
theorem sch_char : ∀ j, j < 2 → ∀ i, i < tlen.getD j 0 → ((sch j i &&& 255).toUInt32 % 65536).toInt32 = sch j i ∧ narrow .char (.int (sch j i)) = .int (sch j i) := by decide +kernel
theorem con_latin1 {j : Nat} (hj : j < 2) {i : Int32} (hi : vp_in i (tlen.getD j 0)) (m : Mem) : Con true kJ1_charAt_3b067 2 [.retAddr (6 + j), .int i] m (some (.int (sch j i.toNatClampNeg))) m := by
  obtain ⟨e1, e2⟩ := sch_char j hj _ (vp_lt hi)
  refine Con.of (α := Int32) (enc := eI) (ini := false) (ls0 := [.retAddr (6 + j), .int i]) (ri := .ireturn) (f := some (sch j i.toNatClampNeg, m)) (by decide) (by intro z; cases z) rfl (Nat.le_of_ble_eq_true rfl) (fun v mE h => ?_) ?_ _ m rfl
  · cases h; exact RetTy.n e2
  show Cv true (cJ1_charAt_3b067, 2, RJ1, 2, ((false, none) : IK)) .ireturn eI (some (sch j i.toNatClampNeg, m)) m 0 [.retAddr (6 + j), .int i] []
  have h0 : ¬ i < 0 := fun z => hi (Or.inl z)
  have h1 : i < Int32.ofNat (tlen.getD j 0) := by
    have hlt := vp_lt hi
    have hz : tlen.getD j 0 < 2 ^ 31 := by rcases (show j = 0 ∨ j = 1 by omega) with rfl | rfl <;> decide
    obtain ⟨x, hx1, hx2⟩ := vp_in_of hi hz
    rw [hx2]
    exact nI_lt hx1 hz
  refine Cv.go (pc' := 1) (go_iload_n (i := 1) (x := i) dJ1_charAt_3b067_0 rfl rfl) ?_
  refine Cv.go (pc' := 2) (go_aload_nr (i := 0) (x := 6 + j) dJ1_charAt_3b067_1 rfl rfl) ?_
  refine Cv.go (pc' := 3) (go_slen hj dJ1_charAt_3b067_2) ?_
  refine Cv.go (pc' := 6) (st' := []) (go_callS (As := [.int i, .int (Int32.ofNat (tlen.getD j 0))]) (st := []) (con_chk h0 h1 m) (by decide) ok_J0_checkIndex_df160 lt_J0_checkIndex_df160 lm_J1_9 rfl rfl (Nat.le_of_ble_eq_true rfl) dJ1_charAt_3b067_3) ?_
  refine Cv.go (pc' := 7) (go_aload_nr (i := 0) (x := 6 + j) dJ1_charAt_3b067_6 rfl rfl) ?_
  refine Cv.go (pc' := 8) (go_iload_n (i := 1) (x := i) dJ1_charAt_3b067_7 rfl rfl) ?_
  refine Cv.go (pc' := 9) (go_sbyt hj hi dJ1_charAt_3b067_8) ?_
  refine Cv.go (pc' := 12) (go_sipush (v := 255) dJ1_charAt_3b067_9 (by decide)) ?_
  refine Cv.go (pc' := 13) (go_iand dJ1_charAt_3b067_12) ?_
  refine Cv.go (pc' := 14) (go_i2c dJ1_charAt_3b067_13) ?_
  refine Cv.ret dJ1_charAt_3b067_14 ?_
  rw [e1]
  rfl
theorem con_charAt {j : Nat} (hj : j < 2) {i : Int32} (hi : vp_in i (tlen.getD j 0)) (m : Mem) : Con true kJ0_charAt_5068e 3 [.retAddr (4 + j), .int i] m (some (.int (sch j i.toNatClampNeg))) m := by
  obtain ⟨e1, e2⟩ := sch_char j hj _ (vp_lt hi)
  refine Con.of (α := Int32) (enc := eI) (ini := false) (ls0 := [.retAddr (4 + j), .int i]) (ri := .ireturn) (f := some (sch j i.toNatClampNeg, m)) (by decide) (by intro z; cases z) rfl (Nat.le_of_ble_eq_true rfl) (fun v mE h => ?_) ?_ _ m rfl
  · cases h; exact RetTy.n e2
  show Cv true (cJ0_charAt_5068e, 2, RJ0, 3, ((false, none) : IK)) .ireturn eI (some (sch j i.toNatClampNeg, m)) m 0 [.retAddr (4 + j), .int i] []
  refine Cv.go (pc' := 1) (go_aload_nr (i := 0) (x := 4 + j) dJ0_charAt_5068e_0 rfl rfl) ?_
  refine Cv.go (pc' := 4) (st' := [.int (bz true)]) (go_callT (As := []) (st := []) hj (con_latin hj m) rfl (by decide) ok_J0_isLatin1_aae02 li_J0_isLatin1_aae02 ls_J0_isLatin1_aae02 lm_J0_492 rfl rfl (Nat.le_of_ble_eq_true rfl) dJ0_charAt_5068e_1) ?_
  refine Cv.go (pc' := 7) (go_if_eq_f 16 dJ0_charAt_5068e_4 rfl (by decide)) ?_
  refine Cv.go (pc' := 8) (go_aload_nr (i := 0) (x := 4 + j) dJ0_charAt_5068e_7 rfl rfl) ?_
  refine Cv.go (pc' := 11) (go_sval hj dJ0_charAt_5068e_8) ?_
  refine Cv.go (pc' := 12) (go_iload_n (i := 1) (x := i) dJ0_charAt_5068e_11 rfl rfl) ?_
  refine Cv.go (pc' := 15) (st' := [.int (sch j i.toNatClampNeg)]) (go_callS (As := [.retAddr (6 + j), .int i]) (st := []) (con_latin1 hj hi m) (by decide) ok_J1_charAt_3b067 lt_J1_charAt_3b067 lm_J0_495 rfl rfl (Nat.le_of_ble_eq_true rfl) dJ0_charAt_5068e_12) ?_
  exact Cv.ret dJ0_charAt_5068e_15 rfl
section SR2
variable {sp : Bool} {ini : IK} {cc : ByteArray} {nL d : Nat} {own : String} {m : Mem} {pc idx : Nat} {ls st : List Value}
theorem go_strlen4 (hlk : Cond.methodLink own idx yJ0_length_8abf5 ∈ gtbl) (hdc : 6 + 1 ≤ d) (hcat : (st.map fun v => v.category).sum ≤ 8) (hd : decode cc pc = .ok (.invokevirtual idx, 3)) : Go sp (cc, nL, own, d, ini) m pc ls (.retAddr 4 :: st) m (pc + 3) ls (.int 38 :: st) :=
  go_callT (j := 0) (As := []) (st := st) (by decide) ((con_length (j := 0) (by decide) m).wk (fun _ => rfl)) rfl (by omega) ok_J0_length_8abf5 li_J0_length_8abf5 ls_J0_length_8abf5 hlk rfl rfl hcat hd
theorem go_strlen5 (hlk : Cond.methodLink own idx yJ0_length_8abf5 ∈ gtbl) (hdc : 6 + 1 ≤ d) (hcat : (st.map fun v => v.category).sum ≤ 8) (hd : decode cc pc = .ok (.invokevirtual idx, 3)) : Go sp (cc, nL, own, d, ini) m pc ls (.retAddr 5 :: st) m (pc + 3) ls (.int 63 :: st) :=
  go_callT (j := 1) (As := []) (st := st) (by decide) ((con_length (j := 1) (by decide) m).wk (fun _ => rfl)) rfl (by omega) ok_J0_length_8abf5 li_J0_length_8abf5 ls_J0_length_8abf5 hlk rfl rfl hcat hd
theorem go_strchr4 {i : Int32} (hlk : Cond.methodLink own idx yJ0_charAt_5068e ∈ gtbl) (hi : vp_in i 38) (hdc : 6 + 1 ≤ d) (hcat : (st.map fun v => v.category).sum ≤ 8) (hd : decode cc pc = .ok (.invokevirtual idx, 3)) : Go sp (cc, nL, own, d, ini) m pc ls (.int i :: .retAddr 4 :: st) m (pc + 3) ls (.int (sch 0 i.toNatClampNeg) :: st) :=
  go_callT (j := 0) (As := [.int i]) (st := st) (by decide) ((con_charAt (j := 0) (by decide) hi m).wk (fun _ => rfl)) rfl (by omega) ok_J0_charAt_5068e li_J0_charAt_5068e ls_J0_charAt_5068e hlk rfl rfl hcat hd
theorem go_strchr5 {i : Int32} (hlk : Cond.methodLink own idx yJ0_charAt_5068e ∈ gtbl) (hi : vp_in i 63) (hdc : 6 + 1 ≤ d) (hcat : (st.map fun v => v.category).sum ≤ 8) (hd : decode cc pc = .ok (.invokevirtual idx, 3)) : Go sp (cc, nL, own, d, ini) m pc ls (.int i :: .retAddr 5 :: st) m (pc + 3) ls (.int (sch 1 i.toNatClampNeg) :: st) :=
  go_callT (j := 1) (As := [.int i]) (st := st) (by decide) ((con_charAt (j := 1) (by decide) hi m).wk (fun _ => rfl)) rfl (by omega) ok_J0_charAt_5068e li_J0_charAt_5068e ls_J0_charAt_5068e hlk rfl rfl hcat hd
end SR2
