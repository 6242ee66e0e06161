/-! CONTRACTS -/
abbrev MD : Type := MethodName × ByteArray × Nat × Option FieldType
def wy (k : MD) : List Cond := Cond.code k.1 k.2.1 k.2.2.1 k.2.2.2 :: gtbl
def PcM (D : va_G) (cy : Nat → ClassId) (ro : Nat → Value) (ad : Nat → Nat) (sz : Nat) (av : List Value) (m : Mem) : Array Value → State → Prop :=
  va_Pc (av.map (ren ad ro)) (fun U => U.heap.size = sz ∧ Closed m ∧ okl (mN m) av ∧ va_P D vwCl (wsOf cy ad m) U.heap ∧ va_K D vwCl (tysOf cy) U ∧ va_D (fun _ => True) (wsOf cy ad m) ∧ RO ro (va_A (wsOf cy ad m) sz) U)
def QcM (D : va_G) (cy : Nat → ClassId) (ro : Nat → Value) (ad : Nat → Nat) (sz : Nat) (rv : Option Value) (m mE : Mem) : Array Value → State → Outcome → State → Prop := fun _ st oc t =>
  (∃ ad' : Nat → Nat, oc = .returned (rv.map (ren ad' ro)) ∧ (∀ k, k < mN m → ad' k = ad k) ∧ okl (mN mE) rv.toList ∧ Closed mE ∧ va_P D vwCl (wsOf cy ad' mE) t.heap ∧ va_D (va_A (wsOf cy ad m) sz) (wsOf cy ad' mE)) ∧ va_F (va_A (wsOf cy ad m) sz) st t
/-- method k, given av at memory m, answers rv at memory mE, with d frames below it -/
def Con (sp : Bool) (k : MD) (d : Nat) (av : List Value) (m : Mem) (rv : Option Value) (mE : Mem) : Prop := Gr sp m mE ∧ ∀ (l : Launch) (D : va_G) (cy : Nat → ClassId) (ro : Nat → Value) (ad : Nat → Nat) (sz : Nat),
  Met l k.1 (wy k) { frames := d, cells := mN mE - mN m, slots := mS mE - mS m, locals := 40 * d } (PcM D cy ro ad sz av m) (QcM D cy ro ad sz rv m mE) (mN mE - mN m) (mS mE - mS m) (va_A (wsOf cy ad m) sz)
theorem PcM.blind {D : va_G} {cy : Nat → ClassId} {ro : Nat → Value} {ad : Nat → Nat} {sz : Nat} {av : List Value} {m : Mem} : FrameBlind (PcM D cy ro ad sz av m) := by
  intro a U g mk q
  obtain ⟨q0, q1, q2, q3, q4, q5, q6, q7⟩ := q
  exact ⟨q0, q1, q2, q3, q4, va_K.moved (u := U) (U := U.calling g mk a) (Vm.Alike.refl U.vm) q5, q6, q7.calling⟩
theorem free_in {A : Nat → Prop} {s : State} {cy : Nat → ClassId} {ad : Nat → Nat} {m : Mem} {H : Heap} {locs : List Loc} (hD : va_D A (wsOf cy ad m)) (hS : va_S A s.heap H locs) (hA : ∀ q, s.heap.size ≤ q → A q) : ∀ q, va_A (wsOf cy ad m) H.size q → A q := by
  intro q h
  rcases h with ⟨k, e, h⟩ | h
  · exact hD.2 k _ h
  · exact hA q (Nat.le_trans hS.1 h)
theorem PcM.at {D : va_G} {cy : Nat → ClassId} {ro : Nat → Value} {ad : Nat → Nat} {av : List Value} {m : Mem} {A : Nat → Prop} {s : State} {H : Heap} {locs : List Loc} (hR : RelM D cy A s m ad H locs) (hK : va_K D vwCl (tysOf cy) s) (hA : ∀ q, s.heap.size ≤ q → A q) (hRO : RO ro A s) (ho : okl (mN m) av) :
    ∀ U : State, U.heap = H → s.WarmedH U.vm → PcM D cy ro ad H.size av m (av.map (ren ad ro)).toArray U := by
  intro U hU hW
  obtain ⟨hP, hD, hS, hcl⟩ := hR
  exact ⟨rfl, by rw [hU], hcl, ho, by rw [hU]; exact hP, va_K.moved hW.alike hK, hD.weaken (fun _ _ _ _ => trivial), hRO.go hW (fun a h1 h2 => by rw [hU]; exact hS.2.1 a h1 h2) (free_in hD hS hA)⟩
theorem renl_cat {ad : Nat → Nat} {ro : Nat → Value} (hro : ∀ k, ro k = .null ∨ ∃ a, ro k = .ref a) {l : List Value} : ((l.map (ren ad ro)).map fun v => v.category).sum = (l.map fun v => v.category).sum := by
  congr 1
  rw [List.map_map]
  apply List.map_congr_left
  intro v _
  cases v with
  | retAddr k =>
    show (ro k).category = 1
    rcases hro k with h | ⟨a, h⟩ <;> rw [h] <;> rfl
  | _ => rfl
section CL
variable {p : Program} {l : Launch} {e : Env} {R : Room} {s : State} {mi : MethodId} {args : Array Value} {below : List Frame} {meth : Method} {c : Code} {D : va_G} {cy : Nat → ClassId} {ro : Nat → Value} {A : Nat → Prop} {n0 s0 : Nat} {ad0 : Nat → Nat} {Q : State → Prop}
/-- behind a call -/
theorem call_after {m mE : Mem} {ad : Nat → Nat} {H : Heap} {locs : List Loc} {L : Array Slot} {pc : Nat} {stk st ls : List Value} {rv : Option Value} {a : Array Value} (hA : ∀ q, s.heap.size ≤ q → A q) (hn : n0 ≤ mN m) (hs : s0 ≤ mS m) (hG : Gr false m mE) (hR : RelM D cy A s m ad H locs) (he : ∀ k, k < n0 → ad k = ad0 k) (ho1 : okl (mN m) ls) (ho2 : okl (mN m) st) (hl : lv_has L c.maxLocals (lvs ad ro ls))
    (hr : va_Run p l e R s mi args below meth c H locs (mN m - n0) (mS m - s0) (mN mE - mN m) (mS mE - mS m) (F0 mi pc L stk) (st.map (ren ad ro)) (QcM D cy ro ad H.size rv m mE a) (va_A (wsOf cy ad m) H.size))
    (kk : ∀ (ad' : Nat → Nat) (H' : Heap) (locs' : List Loc) (L' : Array Slot), RelM D cy A s mE ad' H' locs' → (∀ k, k < n0 → ad' k = ad0 k) → okl (mN mE) ls → okl (mN mE) (rv.toList ++ st) → lv_has L' c.maxLocals (lvs ad' ro ls) →
      W p l e R s mi args below meth c H' locs' (mN mE - n0) (mS mE - s0) Q (F0 mi (pc + 3) L' ((rv.toList ++ st).map (ren ad' ro)))) :
    W p l e R s mi args below meth c H locs (mN m - n0) (mS m - s0) Q (F0 mi pc L stk) := by
  intro T hT X
  obtain ⟨v, st₀, t, T', L', h0, X', hL, e1, e2, ⟨⟨ad', hv, hext, hok, hcl, hP, hD⟩, hz, hk⟩, stp⟩ := hr T hT X
  have hv : v = rv.map (ren ad' ro) := Outcome.returned.inj hv
  subst hv
  rw [h0] at hz hk
  obtain ⟨hP0, hD0, hS0, hcl0⟩ := hR
  have hF := free_in hD0 hS0 hA
  have hc1 : mN m - n0 + (mN mE - mN m) = mN mE - n0 := by have := hG.1; omega
  have hc2 : mS m - s0 + (mS mE - mS m) = mS mE - s0 := by have := hG.2.1; omega
  rw [hc1, hc2] at X'
  have hS1 : va_S A s.heap T'.heap (locs ++ L') := ⟨Nat.le_trans hS0.1 (by rw [e1]; exact hz), fun q h1 h2 => by
      rw [e1, hk q (Nat.lt_of_lt_of_le h1 hS0.1) (fun z => h2 (hF q z))]; exact hS0.2.1 q h1 h2, fun q hq => by
      rcases List.mem_append.mp hq with h | h
      · exact hS0.2.2 q h
      · exact hF _ (hL q h)⟩
  have hW := kk ad' T'.heap (locs ++ L') L ⟨by rw [e1]; exact hP, hD.weaken (fun k q _ h => hF q.1 h), hS1, hcl⟩ (fun k h => by rw [hext k (Nat.lt_of_lt_of_le h hn)]; exact he k h) (ho1.mono hG.1) (hok.app (ho2.mono hG.1)) (lvs_ext hl ho1 hext)
  have est : (rv.map (ren ad' ro)).toList ++ st.map (ren ad ro) = (rv.toList ++ st).map (ren ad' ro) := by
    rw [List.map_append, renl_ext ho2 hext]
    cases rv <;> rfl
  rw [← est] at hW
  obtain ⟨t2, a1, b1⟩ := hW T' rfl X'
  exact ⟨t2, stp t2 a1, b1⟩
end CL
/-- what the tables say of a method -/
def MDok (k : MD) (n : Nat) : Prop := (k.1.cls ≠ "java/lang/invoke/MethodHandle" ∧ k.1.cls ≠ "java/lang/invoke/VarHandle" ∧ (parseMethodDescriptor k.1.desc).map (fun d => d.parameters.length) = some n) ∧ Cond.code k.1 k.2.1 k.2.2.1 k.2.2.2 ∈ gtbl ∧ Cond.initialized k.1.cls ∈ gtbl ∧ k.2.2.1 ≤ 21
theorem MDok.good {k : MD} {n : Nat} (h : MDok k n) : GoodIn gtbl (wy k) := fun w hw => by
  rcases List.mem_cons.mp hw with rfl | hw
  · exact ⟨h.2.1, gtbl_good h.2.1⟩
  · exact ⟨hw, gtbl_good hw⟩
theorem Con.wk {sp sp' : Bool} {k : MD} {d : Nat} {av : List Value} {m : Mem} {rv : Option Value} {mE : Mem} (h : Con sp k d av m rv mE) (hs : sp' = true → sp = true) : Con sp' k d av m rv mE := ⟨h.1.wk hs, h.2⟩
section CG
variable {sp : Bool} {ini : IK} {cc : ByteArray} {nL d dc : Nat} {own : String} {m m1 : Mem} {pc : Nat} {ls st stk As : List Value} {k : MD} {n idx : Nat} {rv : Option Value}
/-- a call of a method of the receiver's own class -/
theorem go_callV {ci q : Nat} {T : u_T} {N : Nat} (hc : Con sp k dc (.ref q :: As) m rv m1) (hdc : dc + 1 ≤ d) (hok : MDok k n) (hi : Cond.instanceMethod k.1 ∈ gtbl) (hse : Cond.selects k.1.cls k.1 k.1 ∈ gtbl) (hlk : Cond.methodLink own idx k.1 ∈ gtbl) (hC : ClsOK ci k.1.cls T N) (hq : mK m q = (ci, 0)) (hn : As.length = n) (hstk : stk = As.reverse ++ .ref q :: st) (hcat : (st.map fun v => v.category).sum ≤ 8) (hd : decode cc pc = .ok (.invokevirtual idx, 3)) :
    Go sp (cc, nL, own, d, ini) m pc ls stk m1 (pc + 3) ls (rv.toList ++ st) := by
  subst hstk
  obtain ⟨hG, hM⟩ := hc
  refine ⟨hG, ?_⟩
  intro b B
  obtain ⟨p, l, e, R, s, mi, args, below, meth, c, D, cy, ro, A, n0, s0, ad0, Q⟩ := b
  obtain ⟨hx, hb, hml, hown, hts, hlk0, hrm, hK, hA, hRO⟩ := B
  intro hn0 hs0 hN hS ad H locs L hR he ho1 ho2 hl kk
  have hoA : okl (mN m) (.ref q :: As) := fun v hv => by
    rcases List.mem_cons.mp hv with rfl | hv
    · exact ho2 _ (List.mem_append_right _ List.mem_cons_self)
    · exact ho2 _ (List.mem_append_left _ (List.mem_reverse.mpr hv))
  have hoS : okl (mN m) st := fun v hv => ho2 v (List.mem_append_right _ (List.mem_cons_of_mem _ hv))
  have hqn : q < mN m := hoA _ List.mem_cons_self
  have hT : GoodIn gtbl (wsV own idx k.1.cls k.1 (wy k)) := fun w hw => by
    unfold wsV at hw
    rcases List.mem_append.mp hw with hw | hw
    · simp only [List.mem_cons, List.not_mem_nil, or_false] at hw
      rcases hw with rfl | rfl | rfl | rfl
      · exact ⟨hlk, gtbl_good hlk⟩
      · exact ⟨hi, gtbl_good hi⟩
      · exact ⟨hse, gtbl_good hse⟩
      · exact ⟨hok.2.2.1, gtbl_good hok.2.2.1⟩
    · exact hok.good w hw
  have cw := cwV (R := R) (rm := { frames := dc, cells := mN m1 - mN m, slots := mS m1 - mS m, locals := 40 * dc }) (own := own) (index := idx) n hts hT rfl rfl rfl ⟨rfl, hok.1⟩ ⟨Nat.le_trans hdc hrm.1, by have h1 := hrm.2; have h2 := hok.2.2.2; show 8 + (k.2.2.1 + 11) + 40 * dc ≤ R.locals; omega⟩
  have hws : (wsOf cy ad m)[q]? = some (ad q, .inr (ci, fvs ad m q)) := by rw [wsOf_get hqn, cellW_obj hq hC.2.2.2.2.2]
  have hrecv := va_recv hK hR.1 hC.1 hws
  have hcat' : ((st.map (ren ad ro)).map fun v => v.category).sum ≤ 8 := by rw [renl_cat hRO.1]; exact hcat
  have hrun := va_runV (p := p) (l := l) (e := e) (R := R) (m := mi) (below := below) (meth := meth) (locs := locs) (cells := mN m - n0) (slots := mS m - s0) (As := As.map (ren ad ro)) (rest := st.map (ren ad ro)) (g := F0 mi pc L ((As.map (ren ad ro)).reverse ++ .ref (ad q) :: st.map (ren ad ro))) ⟨hx, hb, hml, hown, hts⟩ (hM l D cy ro ad H.size) cw
    ⟨PcM.blind, hrecv, fun U hU hW => PcM.at hR hK hA hRO hoA U hU hW⟩ rfl (by rw [List.length_map]; exact hn) (by rw [← hml]; exact hl.1) rfl (lv_room hcat') hd ⟨by have := hG.1; omega, by have := hG.2.1; omega⟩
  have est : (As.reverse ++ .ref q :: st).map (ren ad ro) = (As.map (ren ad ro)).reverse ++ .ref (ad q) :: st.map (ren ad ro) := by
    rw [List.map_append, List.map_reverse]; rfl
  rw [est]
  exact call_after hA hn0 hs0 (hG.wk (fun h => by cases h)) hR he ho1 hoS hl hrun kk
/-- a call of a static method -/
theorem go_callS (hc : Con sp k dc As m rv m1) (hdc : dc + 1 ≤ d) (hok : MDok k n) (hi : Cond.static k.1 ∈ gtbl) (hlk : Cond.methodLink own idx k.1 ∈ gtbl) (hn : As.length = n) (hstk : stk = As.reverse ++ st) (hcat : (st.map fun v => v.category).sum ≤ 8) (hd : decode cc pc = .ok (.invokestatic idx, 3)) :
    Go sp (cc, nL, own, d, ini) m pc ls stk m1 (pc + 3) ls (rv.toList ++ st) := by
  subst hstk
  obtain ⟨hG, hM⟩ := hc
  refine ⟨hG, ?_⟩
  intro b B
  obtain ⟨p, l, e, R, s, mi, args, below, meth, c, D, cy, ro, A, n0, s0, ad0, Q⟩ := b
  obtain ⟨hx, hb, hml, hown, hts, hlk0, hrm, hK, hA, hRO⟩ := B
  intro hn0 hs0 hN hS ad H locs L hR he ho1 ho2 hl kk
  have hoA : okl (mN m) As := fun v hv => ho2 _ (List.mem_append_left _ (List.mem_reverse.mpr hv))
  have hoS : okl (mN m) st := fun v hv => ho2 v (List.mem_append_right _ hv)
  have hT : GoodIn gtbl (va_wsS own idx k.1 (wy k)) := fun w hw => by
    unfold va_wsS at hw
    rcases List.mem_append.mp hw with hw | hw
    · simp only [List.mem_cons, List.not_mem_nil, or_false] at hw
      rcases hw with rfl | rfl | rfl
      · exact ⟨hlk, gtbl_good hlk⟩
      · exact ⟨hi, gtbl_good hi⟩
      · exact ⟨hok.2.2.1, gtbl_good hok.2.2.1⟩
    · exact hok.good w hw
  have cw := va_cwS (R := R) (rm := { frames := dc, cells := mN m1 - mN m, slots := mS m1 - mS m, locals := 40 * dc }) (own := own) (index := idx) n hts hT rfl rfl rfl hok.1 ⟨Nat.le_trans hdc hrm.1, by have h1 := hrm.2; have h2 := hok.2.2.2; show 8 + (k.2.2.1 + 11) + 40 * dc ≤ R.locals; omega⟩
  have hcat' : ((st.map (ren ad ro)).map fun v => v.category).sum ≤ 8 := by rw [renl_cat hRO.1]; exact hcat
  have hrun := va_runS (p := p) (l := l) (e := e) (R := R) (m := mi) (below := below) (meth := meth) (locs := locs) (cells := mN m - n0) (slots := mS m - s0) (As := As.map (ren ad ro)) (rest := st.map (ren ad ro)) (g := F0 mi pc L ((As.map (ren ad ro)).reverse ++ st.map (ren ad ro))) ⟨hx, hb, hml, hown, hts⟩ (hM l D cy ro ad H.size) cw
    ⟨PcM.blind, fun U hU hW => PcM.at hR hK hA hRO hoA U hU hW⟩ rfl (by rw [List.length_map]; exact hn) (by rw [← hml]; exact hl.1) rfl (lv_room hcat') hd ⟨by have := hG.1; omega, by have := hG.2.1; omega⟩
  have est : (As.reverse ++ st).map (ren ad ro) = (As.map (ren ad ro)).reverse ++ st.map (ren ad ro) := by
    rw [List.map_append, List.map_reverse]
  rw [est]
  exact call_after hA hn0 hs0 (hG.wk (fun h => by cases h)) hR he ho1 hoS hl hrun kk
/-- a call of a private static method of a nest mate -/
theorem go_callSN {host : String} (hc : Con sp k dc As m rv m1) (hdc : dc + 1 ≤ d) (hok : MDok k n) (hi : Cond.static k.1 ∈ gtbl) (hlk : Cond.methodLinkNest own idx k.1 host ∈ nw) (hn : As.length = n) (hstk : stk = As.reverse ++ st) (hcat : (st.map fun v => v.category).sum ≤ 8) (hd : decode cc pc = .ok (.invokestatic idx, 3)) :
    Go sp (cc, nL, own, d, ini) m pc ls stk m1 (pc + 3) ls (rv.toList ++ st) := by
  subst hstk
  obtain ⟨hG, hM⟩ := hc
  refine ⟨hG, ?_⟩
  intro b B
  obtain ⟨p, l, e, R, s, mi, args, below, meth, c, D, cy, ro, A, n0, s0, ad0, Q⟩ := b
  obtain ⟨hx, hb, hml, hown, hts, hlk0, hrm, hK, hA, hRO⟩ := B
  intro hn0 hs0 hN hS ad H locs L hR he ho1 ho2 hl kk
  have hoA : okl (mN m) As := fun v hv => ho2 _ (List.mem_append_left _ (List.mem_reverse.mpr hv))
  have hoS : okl (mN m) st := fun v hv => ho2 v (List.mem_append_right _ hv)
  have cw := va_cnB (R := R) (args := args) (s := s) (rm := { frames := dc, cells := mN m1 - mN m, slots := mS m1 - mS m, locals := 40 * dc }) (own := own) (host := host) (index := idx) (y := k.1) (bytes := k.2.1) (maxL := k.2.2.1) (ret := k.2.2.2) (ws := wy k) n hts hok.good rfl rfl rfl (hRO.2.1 _ hlk) (hts _ hok.2.2.1) hok.1 ⟨Nat.le_trans hdc hrm.1, by have h1 := hrm.2; have h2 := hok.2.2.2; show 8 + (k.2.2.1 + 11) + 40 * dc ≤ R.locals; omega⟩
  have hcat' : ((st.map (ren ad ro)).map fun v => v.category).sum ≤ 8 := by rw [renl_cat hRO.1]; exact hcat
  have hrun := va_runSN (p := p) (l := l) (e := e) (R := R) (m := mi) (below := below) (meth := meth) (locs := locs) (cells := mN m - n0) (slots := mS m - s0) (As := As.map (ren ad ro)) (rest := st.map (ren ad ro)) (g := F0 mi pc L ((As.map (ren ad ro)).reverse ++ st.map (ren ad ro))) ⟨hx, hb, hml, hown, hts⟩ (hM l D cy ro ad H.size) ⟨cw, hts _ hi, trivial⟩
    ⟨PcM.blind, fun U hU hW => PcM.at hR hK hA hRO hoA U hU hW⟩ rfl (by rw [List.length_map]; exact hn) (by rw [← hml]; exact hl.1) rfl (lv_room hcat') hd ⟨by have := hG.1; omega, by have := hG.2.1; omega⟩
  have est : (As.reverse ++ st).map (ren ad ro) = (As.map (ren ad ro)).reverse ++ st.map (ren ad ro) := by
    rw [List.map_append, List.map_reverse]
  rw [est]
  exact call_after hA hn0 hs0 (hG.wk (fun h => by cases h)) hR he ho1 hoS hl hrun kk
/-- a constructor -/
theorem go_callI {q : Nat} (hc : Con sp k dc (.ref q :: As) m rv m1) (hrn : k.2.2.2 = none) (hin : k.1.name = "<init>") (hdc : dc + 1 ≤ d) (hok : MDok k n) (hi : Cond.instanceMethod k.1 ∈ gtbl) (hlk : Cond.methodLink own idx k.1 ∈ gtbl) (hn : As.length = n) (hstk : stk = As.reverse ++ .ref q :: st) (hcat : (st.map fun v => v.category).sum ≤ 8) (hd : decode cc pc = .ok (.invokespecial idx, 3)) :
    Go sp (cc, nL, own, d, ini) m pc ls stk m1 (pc + 3) ls (rv.toList ++ st) := by
  subst hstk
  obtain ⟨hG, hM⟩ := hc
  refine ⟨hG, ?_⟩
  intro b B
  obtain ⟨p, l, e, R, s, mi, args, below, meth, c, D, cy, ro, A, n0, s0, ad0, Q⟩ := b
  obtain ⟨hx, hb, hml, hown, hts, hlk0, hrm, hK, hA, hRO⟩ := B
  intro hn0 hs0 hN hS ad H locs L hR he ho1 ho2 hl kk
  have hoA : okl (mN m) (.ref q :: As) := fun v hv => by
    rcases List.mem_cons.mp hv with rfl | hv
    · exact ho2 _ (List.mem_append_right _ List.mem_cons_self)
    · exact ho2 _ (List.mem_append_left _ (List.mem_reverse.mpr hv))
  have hoS : okl (mN m) st := fun v hv => ho2 v (List.mem_append_right _ (List.mem_cons_of_mem _ hv))
  have hwy : wy k = Cond.code k.1 k.2.1 k.2.2.1 none :: gtbl := by unfold wy; rw [hrn]
  have cw := cwI (R := R) (args := args) (s := s) (rm := { frames := dc, cells := mN m1 - mN m, slots := mS m1 - mS m, locals := 40 * dc }) (own := own) (index := idx) (y := k.1) (bytes := k.2.1) (maxL := k.2.2.1) (ws := wy k) n hts hok.good hwy rfl rfl (hts _ hok.2.2.1) (hts _ hlk) (hts _ hi) hin hok.1 ⟨Nat.le_trans hdc hrm.1, by have h1 := hrm.2; have h2 := hok.2.2.2; show 8 + (k.2.2.1 + 11) + 40 * dc ≤ R.locals; omega⟩
  have hcat' : ((st.map (ren ad ro)).map fun v => v.category).sum ≤ 8 := by rw [renl_cat hRO.1]; exact hcat
  have hrun := va_runI (p := p) (l := l) (e := e) (R := R) (m := mi) (below := below) (meth := meth) (locs := locs) (cells := mN m - n0) (slots := mS m - s0) (As := As.map (ren ad ro)) (b := ad q) (rest := st.map (ren ad ro)) (g := F0 mi pc L ((As.map (ren ad ro)).reverse ++ .ref (ad q) :: st.map (ren ad ro))) ⟨hx, hb, hml, hown, hts⟩ (hM l D cy ro ad H.size) cw
    ⟨PcM.blind, fun U hU hW => PcM.at hR hK hA hRO hoA U hU hW⟩ rfl (by rw [List.length_map]; exact hn) (by rw [← hml]; exact hl.1) rfl (lv_room hcat') hd ⟨by have := hG.1; omega, by have := hG.2.1; omega⟩
  have est : (As.reverse ++ .ref q :: st).map (ren ad ro) = (As.map (ren ad ro)).reverse ++ .ref (ad q) :: st.map (ren ad ro) := by
    rw [List.map_append, List.map_reverse]; rfl
  rw [est]
  exact call_after hA hn0 hs0 (hG.wk (fun h => by cases h)) hR he ho1 hoS hl hrun kk
/-- a private constructor of a nest mate -/
theorem go_callN {q : Nat} {host : String} (hc : Con sp k dc (.ref q :: As) m rv m1) (hrn : k.2.2.2 = none) (hin : k.1.name = "<init>") (hdc : dc + 1 ≤ d) (hok : MDok k n) (hi : Cond.instanceMethod k.1 ∈ gtbl) (hlk : Cond.methodLinkNest own idx k.1 host ∈ nw) (hn : As.length = n) (hstk : stk = As.reverse ++ .ref q :: st) (hcat : (st.map fun v => v.category).sum ≤ 8) (hd : decode cc pc = .ok (.invokespecial idx, 3)) :
    Go sp (cc, nL, own, d, ini) m pc ls stk m1 (pc + 3) ls (rv.toList ++ st) := by
  subst hstk
  obtain ⟨hG, hM⟩ := hc
  refine ⟨hG, ?_⟩
  intro b B
  obtain ⟨p, l, e, R, s, mi, args, below, meth, c, D, cy, ro, A, n0, s0, ad0, Q⟩ := b
  obtain ⟨hx, hb, hml, hown, hts, hlk0, hrm, hK, hA, hRO⟩ := B
  intro hn0 hs0 hN hS ad H locs L hR he ho1 ho2 hl kk
  have hoA : okl (mN m) (.ref q :: As) := fun v hv => by
    rcases List.mem_cons.mp hv with rfl | hv
    · exact ho2 _ (List.mem_append_right _ List.mem_cons_self)
    · exact ho2 _ (List.mem_append_left _ (List.mem_reverse.mpr hv))
  have hoS : okl (mN m) st := fun v hv => ho2 v (List.mem_append_right _ (List.mem_cons_of_mem _ hv))
  have hwy : wy k = Cond.code k.1 k.2.1 k.2.2.1 none :: gtbl := by unfold wy; rw [hrn]
  have cw := va_cnB (R := R) (args := args) (s := s) (rm := { frames := dc, cells := mN m1 - mN m, slots := mS m1 - mS m, locals := 40 * dc }) (own := own) (host := host) (index := idx) (y := k.1) (bytes := k.2.1) (maxL := k.2.2.1) (ws := wy k) n hts hok.good hwy rfl rfl (hRO.2.1 _ hlk) (hts _ hok.2.2.1) hok.1 ⟨Nat.le_trans hdc hrm.1, by have h1 := hrm.2; have h2 := hok.2.2.2; show 8 + (k.2.2.1 + 11) + 40 * dc ≤ R.locals; omega⟩
  have hcat' : ((st.map (ren ad ro)).map fun v => v.category).sum ≤ 8 := by rw [renl_cat hRO.1]; exact hcat
  have hrun := va_runIN (p := p) (l := l) (e := e) (R := R) (m := mi) (below := below) (meth := meth) (locs := locs) (cells := mN m - n0) (slots := mS m - s0) (As := As.map (ren ad ro)) (b := ad q) (rest := st.map (ren ad ro)) (g := F0 mi pc L ((As.map (ren ad ro)).reverse ++ .ref (ad q) :: st.map (ren ad ro))) ⟨hx, hb, hml, hown, hts⟩ (hM l D cy ro ad H.size) ⟨cw, hin, hts _ hi⟩
    ⟨PcM.blind, fun U hU hW => PcM.at hR hK hA hRO hoA U hU hW⟩ rfl (by rw [List.length_map]; exact hn) (by rw [← hml]; exact hl.1) rfl (lv_room hcat') hd ⟨by have := hG.1; omega, by have := hG.2.1; omega⟩
  have est : (As.reverse ++ .ref q :: st).map (ren ad ro) = (As.map (ren ad ro)).reverse ++ .ref (ad q) :: st.map (ren ad ro) := by
    rw [List.map_append, List.map_reverse]; rfl
  rw [est]
  exact call_after hA hn0 hs0 (hG.wk (fun h => by cases h)) hR he ho1 hoS hl hrun kk
end CG
