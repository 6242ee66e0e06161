/-! cells that are made; what the JDK does; what is only read -/
theorem fv_default {ty : FieldType} {ad : Nat → Nat} {m : Mem} {t len sl i : Nat} (hf : ty ≠ .float) (hd : ty ≠ .double) : defaultValue ty = fv ty ad (mNew m t len sl) (mN m) i := by
  have h1 : mD (mNew m t len sl) (mN m) i = 0 := by show (if mN m = mN m then (0 : Int32) else _) = 0; rw [if_pos rfl]
  have h2 : mL (mNew m t len sl) (mN m) i = 0 := by show (if mN m = mN m then (0 : Int64) else _) = 0; rw [if_pos rfl]
  have h3 : mR (mNew m t len sl) (mN m) i = none := by show (if mN m = mN m then (none : Option Nat) else _) = none; rw [if_pos rfl]
  cases ty <;> first | exact absurd rfl hf | exact absurd rfl hd | (simp only [fv, h1, h2, h3]; rfl)
theorem mK_new {m : Mem} {t len sl : Nat} : mK (mNew m t len sl) (mN m) = (t, len) := by show va_up (mK m) (mN m) (t, len) (mN m) = _; simp [va_up]
theorem ad_new {ad : Nat → Nat} {n q : Nat} : ∀ k, k < n → va_up ad n q k = ad k := fun k h => by simp [va_up, Nat.ne_of_lt h]
theorem fvs_new {ad ad' : Nat → Nat} {m : Mem} {t len sl : Nat} : fvs ad (mNew m t len sl) (mN m) = fvs ad' (mNew m t len sl) (mN m) := by
  unfold fvs
  apply List.map_congr_left
  intro i _
  have h3 : mR (mNew m t len sl) (mN m) i = none := by show (if mN m = mN m then (none : Option Nat) else _) = none; rw [if_pos rfl]
  unfold fv
  rw [h3]
  rfl
/-- a cell more: the relation, and the next step -/
theorem Gr.new {m : Mem} {t len sl : Nat} : Gr false m (mNew m t len sl) := ⟨Nat.le_succ _, Nat.le_add_right _ _, fun h => by cases h⟩
section NW
variable {ini : IK} {cc : ByteArray} {nL d : Nat} {own : String} {m : Mem} {pc : Nat} {ls st : List Value}
theorem go_new {ci idx : Nat} {C : String} {T : u_T} {N : Nat} (hC : ClsOK ci C T N) (hw1 : Cond.classLink own idx C ∈ gtbl) (hw2 : Cond.instantiable C N ∈ gtbl) (hw3 : Cond.initialized C ∈ gtbl) (hnf : ∀ j, j < N → tyC ci j ≠ .float ∧ tyC ci j ≠ .double) (hd : decode cc pc = .ok (.new idx, 3)) :
    Go false (cc, nL, own, d, ini) m pc ls st (mNew m ci 0 N) (pc + 3) ls (.ref (mN m) :: st) := by
  refine ⟨Gr.new, ?_⟩
  intro b B
  obtain ⟨p, l, e, R, s, mi, args, below, meth, c, D, cy, ro, A, n0, s0, ad0, Q⟩ := b
  obtain ⟨hx, hb, hml, hown, hts, hlk, hrm, hK, hA, hRO⟩ := B
  intro hn0 hs0 hN hSl ad H locs L hR he ho1 ho2 hl kk
  obtain ⟨hP, hD, hS, hcl⟩ := hR
  obtain ⟨c1, c2, c3, c4, c5, c6⟩ := hC
  have hN : mN m + 1 ≤ n0 + R.cells := hN
  have hSl : mS m + N ≤ s0 + R.slots := hSl
  refine va_new (ci := ci) (fs := fvs ad (mNew m ci 0 N) (mN m)) hx hb hts c2 (tyC ci) c3 hown (hts _ hw1) (hts _ hw2) (hts _ hw3) hK hP hD hS hA c1 (fun j hj => ?_) (by omega) (by omega) hd ?_
  · have : (fvs ad (mNew m ci 0 N) (mN m))[j]? = some (fv (tyC ci j) ad (mNew m ci 0 N) (mN m) j) := by
      rw [fvs_get (by rw [mK_new]; show j < nFC ci; rw [c5]; exact hj), mK_new]
    rw [vp_V, List.getD_eq_getElem?_getD, this]
    exact fv_default (hnf j hj).1 (hnf j hj).2
  · intro q H1 hP1 hD1 hS1
    have ep : wsOf cy (va_up ad (mN m) q) (mNew m ci 0 N) = wsOf cy ad m ++ [(q, .inr (ci, fvs ad (mNew m ci 0 N) (mN m)))] := by
      rw [wsOf_push hcl, cellW_obj mK_new c6, fvs_new (ad' := ad)]
    have ec : mN m - n0 + 1 = mN (mNew m ci 0 N) - n0 := by show _ = mN m + 1 - n0; omega
    have es : mS m - s0 + N = mS (mNew m ci 0 N) - s0 := by show _ = mS m + N - s0; omega
    rw [ec, es]
    rw [← ep] at hP1 hD1
    have k0 := kk (va_up ad (mN m) q) H1 locs L ⟨hP1, hD1, hS1, hcl.new⟩ (fun k h => by rw [ad_new k (by omega)]; exact he k h) (ho1.mono (Nat.le_succ _)) (okl.cons (Nat.lt_succ_self _) (ho2.mono (Nat.le_succ _))) (lvs_ext hl ho1 ad_new)
    have est : (Value.ref (mN m) :: st).map (ren (va_up ad (mN m) q) ro) = .ref q :: st.map (ren ad ro) := by
      rw [List.map_cons, renl_ext ho2 ad_new]
      show Value.ref (va_up ad (mN m) q (mN m)) :: _ = _
      simp [va_up]
    rw [est] at k0
    exact k0
/-- an array more, of a kind t whose class the worlds know -/
theorem arr_after {p : Program} {l : Launch} {e : Env} {R : Room} {s : State} {mi : MethodId} {args : Array Value} {below : List Frame} {meth : Method} {c : Code} {D : va_G} {cy : Nat → ClassId} {ro : Nat → Value} {A : Nat → Prop} {n0 s0 : Nat} {ad0 : Nat → Nat} {Q : State → Prop} {ad : Nat → Nat} {H1 : Heap} {locs : List Loc} {L : Array Slot} {t N' q pc' : Nat} {x : va_E}
    (hn0 : n0 ≤ mN m) (hs0 : s0 ≤ mS m) (hcl : Closed m) (he : ∀ k, k < n0 → ad k = ad0 k) (ho1 : okl (mN m) ls) (ho2 : okl (mN m) st) (hl : lv_has L c.maxLocals (lvs ad ro ls)) (hx : cellW cy (va_up ad (mN m) q) (mNew m t N' N') (mN m) = x) (hP1 : va_P D vwCl (wsOf cy ad m ++ [(q, x)]) H1) (hD1 : va_D A (wsOf cy ad m ++ [(q, x)])) (hS1 : va_S A s.heap H1 locs)
    (kk : ∀ (ad' : Nat → Nat) (H' : Heap) (locs' : List Loc) (L' : Array Slot), RelM D cy A s (mNew m t N' N') ad' H' locs' → (∀ k, k < n0 → ad' k = ad0 k) → okl (mN (mNew m t N' N')) ls → okl (mN (mNew m t N' N')) (.ref (mN m) :: st) → lv_has L' c.maxLocals (lvs ad' ro ls) →
      W p l e R s mi args below meth c H' locs' (mN (mNew m t N' N') - n0) (mS (mNew m t N' N') - s0) Q (F0 mi pc' L' ((Value.ref (mN m) :: st).map (ren ad' ro)))) :
    W p l e R s mi args below meth c H1 locs (mN m - n0 + 1) (mS m - s0 + N') Q (F0 mi pc' L (.ref q :: st.map (ren ad ro))) := by
  have ep : wsOf cy (va_up ad (mN m) q) (mNew m t N' N') = wsOf cy ad m ++ [(q, x)] := by rw [wsOf_push hcl, hx]
  have ec : mN m - n0 + 1 = mN (mNew m t N' N') - n0 := by show _ = mN m + 1 - n0; omega
  have es : mS m - s0 + N' = mS (mNew m t N' N') - s0 := by show _ = mS m + N' - s0; omega
  rw [ec, es]
  rw [← ep] at hP1 hD1
  have k0 := kk (va_up ad (mN m) q) H1 locs L ⟨hP1, hD1, hS1, hcl.new⟩ (fun k h => by rw [ad_new k (by omega)]; exact he k h) (ho1.mono (Nat.le_succ _)) (okl.cons (Nat.lt_succ_self _) (ho2.mono (Nat.le_succ _))) (lvs_ext hl ho1 ad_new)
  have est : (Value.ref (mN m) :: st).map (ren (va_up ad (mN m) q) ro) = .ref q :: st.map (ren ad ro) := by
    rw [List.map_cons, renl_ext ho2 ad_new]
    show Value.ref (va_up ad (mN m) q (mN m)) :: _ = _
    simp [va_up]
  rw [est] at k0
  exact k0
theorem row_new {m : Mem} {t len sl : Nat} : mD (mNew m t len sl) (mN m) = fun _ => 0 := by
  funext i; show (if mN m = mN m then (0 : Int32) else _) = 0; rw [if_pos rfl]
theorem rrow_new {m : Mem} {t len sl : Nat} : mR (mNew m t len sl) (mN m) = fun _ => none := by
  funext i; show (if mN m = mN m then (none : Option Nat) else _) = none; rw [if_pos rfl]
theorem go_newI {n : Int32} {N' : Nat} (hw : Cond.arrayClass .int ∈ gtbl) (hn : ¬ n < 0) (hN' : n.toNatClampNeg = N') (hbt : N' * componentBytes .int ≤ 536870912) (hd : decode cc pc = .ok (.newarray .int, 2)) :
    Go false (cc, nL, own, d, ini) m pc ls (.int n :: st) (mNew m 7 N' N') (pc + 2) ls (.ref (mN m) :: st) := by
  refine ⟨Gr.new, ?_⟩
  intro b B
  obtain ⟨p, l, e, R, s, mi, args, below, meth, c, D, cy, ro, A, n0, s0, ad0, Q⟩ := b
  obtain ⟨hx, hb, hml, hown, hts, hlk, hrm, hK, hA, hRO⟩ := B
  intro hn0 hs0 hN hSl ad H locs L hR he ho1 ho2 hl kk
  obtain ⟨hP, hD, hS, hcl⟩ := hR
  have hN : mN m + 1 ≤ n0 + R.cells := hN
  have hSl : mS m + N' ≤ s0 + R.slots := hSl
  refine va_newa (atype := .int) (ty := .int) (a0 := (N', .inl (fun _ => 0))) hx hb (hts _ hw) rfl hK hP hD hS hA (fun _ => rfl) hn hN' hbt (by omega) (by omega) hd ?_
  intro q cA H1 hK1 hP1 hD1 hS1
  have hcA : cA = cy 7 := Option.some.inj ((hK1.2 5 _ rfl).2.symm.trans (hK.2 0 _ tysOf_0).2)
  subst hcA
  exact arr_after hn0 hs0 hcl he ho1 ho2.tail hl (by rw [cellW_ints mK_new, row_new]) hP1 hD1 hS1 kk
theorem go_newZ {n : Int32} {N' : Nat} (hw : Cond.arrayClass .boolean ∈ gtbl) (hn : ¬ n < 0) (hN' : n.toNatClampNeg = N') (hbt : N' * componentBytes .boolean ≤ 536870912) (hd : decode cc pc = .ok (.newarray .boolean, 2)) :
    Go false (cc, nL, own, d, ini) m pc ls (.int n :: st) (mNew m 8 N' N') (pc + 2) ls (.ref (mN m) :: st) := by
  refine ⟨Gr.new, ?_⟩
  intro b B
  obtain ⟨p, l, e, R, s, mi, args, below, meth, c, D, cy, ro, A, n0, s0, ad0, Q⟩ := b
  obtain ⟨hx, hb, hml, hown, hts, hlk, hrm, hK, hA, hRO⟩ := B
  intro hn0 hs0 hN hSl ad H locs L hR he ho1 ho2 hl kk
  obtain ⟨hP, hD, hS, hcl⟩ := hR
  have hN : mN m + 1 ≤ n0 + R.cells := hN
  have hSl : mS m + N' ≤ s0 + R.slots := hSl
  refine va_newa (atype := .boolean) (ty := .boolean) (a0 := (N', .inl (fun _ => 0))) hx hb (hts _ hw) rfl hK hP hD hS hA (fun _ => rfl) hn hN' hbt (by omega) (by omega) hd ?_
  intro q cA H1 hK1 hP1 hD1 hS1
  have hcA : cA = cy 8 := Option.some.inj ((hK1.2 5 _ rfl).2.symm.trans (hK.2 1 _ tysOf_1).2)
  subst hcA
  exact arr_after hn0 hs0 hcl he ho1 ho2.tail hl (by rw [cellW_bools mK_new, row_new]) hP1 hD1 hS1 kk
theorem go_newR {n : Int32} {N' t t0 idx : Nat} {C : String} (hao : ∀ (ro : Nat → Value) (A : Nat → Prop) (s : State), RO ro A s → va_AO C s) (ht9 : 9 ≤ t) (ht : ∀ cy : Nat → ClassId, (tysOf cy)[t0]? = some (cy t, .object C)) (hw : Cond.classLink own idx C ∈ gtbl) (hn : ¬ n < 0) (hN' : n.toNatClampNeg = N') (hbt : N' * 4 ≤ 536870912) (hd : decode cc pc = .ok (.anewarray idx, 3)) :
    Go false (cc, nL, own, d, ini) m pc ls (.int n :: st) (mNew m t N' N') (pc + 3) ls (.ref (mN m) :: st) := by
  refine ⟨Gr.new, ?_⟩
  intro b B
  obtain ⟨p, l, e, R, s, mi, args, below, meth, c, D, cy, ro, A, n0, s0, ad0, Q⟩ := b
  obtain ⟨hx, hb, hml, hown, hts, hlk, hrm, hK, hA, hRO⟩ := B
  intro hn0 hs0 hN hSl ad H locs L hR he ho1 ho2 hl kk
  obtain ⟨hP, hD, hS, hcl⟩ := hR
  have hN : mN m + 1 ≤ n0 + R.cells := hN
  have hSl : mS m + N' ≤ s0 + R.slots := hSl
  refine va_newq hx hb hown (hts _ hw) (hao ro A s hRO) hK hP hD hS hA hn hN' hbt (by omega) (by omega) hd ?_
  intro q cA H1 hK1 hP1 hD1 hS1
  have hcA : cA = cy t := by
    obtain ⟨_, _, -, -, -, h1⟩ := (hK1.2 5 _ rfl).2
    obtain ⟨_, _, -, -, -, h2⟩ := (hK.2 t0 _ (ht cy)).2
    exact Option.some.inj (h1.symm.trans h2)
  subst hcA
  exact arr_after hn0 hs0 hcl he ho1 ho2.tail hl (by rw [cellW_refs mK_new ht9, rrow_new]; rfl) hP1 hD1 hS1 kk
theorem go_aastore {k n t t0 j ci : Nat} {C : String} {T : u_T} {N : Nat} {i : Int32} (hC : ClsOK ci C T N) (hk : mK m k = (t, n)) (ht9 : 9 ≤ t) (ht : ∀ cy : Nat → ClassId, (tysOf cy)[t0]? = some (cy t, .object C)) (hj : mK m j = (ci, 0)) (hi : vp_in i n) (hd : decode cc pc = .ok (.aastore, 1)) :
    Go false (cc, nL, own, d, ini) m pc ls (.ref j :: .int i :: .ref k :: st) (wR m k i.toNatClampNeg (some j)) (pc + 1) ls st := by
  refine ⟨⟨Nat.le_refl _, Nat.le_refl _, fun h => by cases h⟩, ?_⟩
  intro b B
  obtain ⟨p, l, e, R, s, mi, args, below, meth, c, D, cy, ro, A, n0, s0, ad0, Q⟩ := b
  obtain ⟨hx, hb, hml, hown, hts, hlk, hrm, hK, hA, hRO⟩ := B
  intro hn0 hs0 hN hSl ad H locs L hR he ho1 ho2 hl kk
  obtain ⟨hP, hD, hS, hcl⟩ := hR
  obtain ⟨c1, c2, c3, c4, c5, c6⟩ := hC
  have hkn : k < mN m := ho2.tail.tail.head
  have hjn : j < mN m := ho2.head
  have hws : (wsOf cy ad m)[k]? = some (ad k, .inl (cy t, n, .inr (.inr (.inr (.inr (fun i => (mR m k i).map ad)))))) := by rw [wsOf_get hkn, cellW_refs hk ht9]
  have hwj : (wsOf cy ad m)[j]? = some (ad j, .inr (ci, fvs ad m j)) := by rw [wsOf_get hjn, cellW_obj hj c6]
  have hset : (wsOf cy ad m).set k (ad k, .inl (cy t, n, .inr (.inr (.inr (.inr (va_up (fun i => (mR m k i).map ad) i.toNatClampNeg (some (ad j)))))))) = wsOf cy ad (wR m k i.toNatClampNeg (some j)) := by
    refine wsOf_set hkn rfl ?_ (fun k' hk' => ?_)
    · rw [cellW_refs (show mK (wR m k i.toNatClampNeg (some j)) k = (t, n) from hk) ht9]
      congr 7
      funext i'
      rw [mR_wR]
      by_cases h : i' = i.toNatClampNeg <;> simp [va_up, h]
    · refine cellW_congr rfl rfl rfl (fun i' => ?_)
      rw [mR_wR]; simp [hk']
  refine va_astq (r := (C, T, N)) hx hb hK hP hD hS k t0 j ci hws (ht cy) hwj c1 hi hd ?_
  intro H1 locs1 hP1 hD1 hS1
  rw [hset] at hP1 hD1
  exact kk ad H1 locs1 L ⟨hP1, hD1, hS1, hcl.r hjn⟩ he ho1 ho2.tail.tail.tail hl
end NW
section JD
variable {sp : Bool} {ini : IK} {cc : ByteArray} {nL d : Nat} {own : String} {m : Mem} {pc idx : Nat} {ls st : List Value}
theorem go_max {x y : Int32} (h1 : Cond.methodLink own idx Lib.Math.max.name ∈ gtbl) (h2 : Cond.static Lib.Math.max.name ∈ gtbl) (h3 : Cond.initialized "java/lang/Math" ∈ gtbl) (h4 : Cond.code Lib.Math.max.name Lib.Math.max.code 2 (some .int) ∈ gtbl) (hdd : 1 ≤ d) (hcat : (st.map fun v => v.category).sum ≤ 8) (hd : decode cc pc = .ok (.invokestatic idx, 3)) :
    Go sp (cc, nL, own, d, ini) m pc ls (.int y :: .int x :: st) m (pc + 3) ls (.int (if x < y then y else x) :: st) := by
  refine ⟨Gr.rf, ?_⟩
  intro b B
  obtain ⟨p, l, e, R, s, mi, args, below, meth, c, D, cy, ro, A, n0, s0, ad0, Q⟩ := b
  obtain ⟨hx, hb, hml, hown, hts, hlk, hrm, hK, hA, hRO⟩ := B
  intro hn0 hs0 hN hSl ad H locs L hR he ho1 ho2 hl kk
  have hcat' : ((st.map (ren ad ro)).map fun v => v.category).sum ≤ 8 := by rw [renl_cat hRO.1]; exact hcat
  refine va_mmax hx hb hl.1.symm hown (hts _ h1) (hts _ h2) (hts _ h3) (hts _ h4) (by omega) (by omega) (by omega) (by omega) hd ?_
  exact kk ad H locs L hR he ho1 (okl.cons trivial ho2.tail.tail) hl
theorem go_min {x y : Int32} (h1 : Cond.methodLink own idx Lib.Math.min.name ∈ gtbl) (h2 : Cond.static Lib.Math.min.name ∈ gtbl) (h3 : Cond.initialized "java/lang/Math" ∈ gtbl) (h4 : Cond.code Lib.Math.min.name Lib.Math.min.code 2 (some .int) ∈ gtbl) (hdd : 1 ≤ d) (hcat : (st.map fun v => v.category).sum ≤ 8) (hd : decode cc pc = .ok (.invokestatic idx, 3)) :
    Go sp (cc, nL, own, d, ini) m pc ls (.int y :: .int x :: st) m (pc + 3) ls (.int (if y < x then y else x) :: st) := by
  refine ⟨Gr.rf, ?_⟩
  intro b B
  obtain ⟨p, l, e, R, s, mi, args, below, meth, c, D, cy, ro, A, n0, s0, ad0, Q⟩ := b
  obtain ⟨hx, hb, hml, hown, hts, hlk, hrm, hK, hA, hRO⟩ := B
  intro hn0 hs0 hN hSl ad H locs L hR he ho1 ho2 hl kk
  have hcat' : ((st.map (ren ad ro)).map fun v => v.category).sum ≤ 8 := by rw [renl_cat hRO.1]; exact hcat
  refine va_mmin hx hb hl.1.symm hown (hts _ h1) (hts _ h2) (hts _ h3) (hts _ h4) (by omega) (by omega) (by omega) (by omega) hd ?_
  exact kk ad H locs L hR he ho1 (okl.cons trivial ho2.tail.tail) hl
theorem go_oinit {k : Nat} (h1 : Cond.methodLink own idx Lib.objectInit ∈ gtbl) (h2 : Cond.instanceMethod Lib.objectInit ∈ gtbl) (h3 : Cond.code Lib.objectInit ⟨#[0xb1]⟩ 1 none ∈ gtbl) (hdd : 1 ≤ d) (hcat : (st.map fun v => v.category).sum ≤ 8) (hd : decode cc pc = .ok (.invokespecial idx, 3)) :
    Go sp (cc, nL, own, d, ini) m pc ls (.ref k :: st) m (pc + 3) ls st := by
  refine ⟨Gr.rf, ?_⟩
  intro b B
  obtain ⟨p, l, e, R, s, mi, args, below, meth, c, D, cy, ro, A, n0, s0, ad0, Q⟩ := b
  obtain ⟨hx, hb, hml, hown, hts, hlk, hrm, hK, hA, hRO⟩ := B
  intro hn0 hs0 hN hSl ad H locs L hR he ho1 ho2 hl kk
  have hcat' : ((st.map (ren ad ro)).map fun v => v.category).sum ≤ 8 := by rw [renl_cat hRO.1]; exact hcat
  refine W.objInit hx hb hown (hts _ h1) (hts _ h2) (hts _ h3) (g := F0 mi pc L (.ref (ad k) :: st.map (ren ad ro))) rfl hl.1 rfl hd (by omega) ?_ ?_
  · have := lv_room (m := mi) (pc := pc) (ls := L) (rest := .ref (ad k) :: st.map (ren ad ro)) hcat'
    omega
  · exact kk ad H locs L hR he ho1 ho2.tail hl
theorem go_copy {k0 k1 a0 a1 : Nat} {s1 d1 n : Int32} (h1 : Cond.methodLink own idx arraycopyName ∈ gtbl) (h2 : Cond.native arraycopyName ∈ gtbl) (h3 : Cond.static arraycopyName ∈ gtbl) (h4 : Cond.initialized "java/lang/System" ∈ gtbl) (hk0 : mK m k0 = (7, a0)) (hk1 : mK m k1 = (7, a1)) (g1 : ¬ s1 < 0) (g2 : ¬ d1 < 0) (g3 : ¬ n < 0) (g4 : s1.toNatClampNeg + n.toNatClampNeg ≤ a0) (g5 : d1.toNatClampNeg + n.toNatClampNeg ≤ a1) (hdd : 1 ≤ d) (hcat : (st.map fun v => v.category).sum ≤ 8) (hd : decode cc pc = .ok (.invokestatic idx, 3)) :
    Go sp (cc, nL, own, d, ini) m pc ls (.int n :: .int d1 :: .ref k1 :: .int s1 :: .ref k0 :: st) (wC m k1 (va_cpy (mD m k0) (mD m k1) s1.toNatClampNeg d1.toNatClampNeg n.toNatClampNeg)) (pc + 3) ls st := by
  refine ⟨Gr.sh SameSh.c, ?_⟩
  intro b B
  obtain ⟨p, l, e, R, s, mi, args, below, meth, c, D, cy, ro, A, n0, s0, ad0, Q⟩ := b
  obtain ⟨hx, hb, hml, hown, hts, hlk, hrm, hK, hA, hRO⟩ := B
  intro hn0 hs0 hN hSl ad H locs L hR he ho1 ho2 hl kk
  obtain ⟨hP, hD, hS, hcl⟩ := hR
  have hcat' : ((st.map (ren ad ro)).map fun v => v.category).sum ≤ 8 := by rw [renl_cat hRO.1]; exact hcat
  have hn1 : k1 < mN m := ho2.tail.tail.head
  have hn0' : k0 < mN m := ho2.tail.tail.tail.tail.head
  have hw0 : (wsOf cy ad m)[k0]? = some (ad k0, .inl (cy 7, a0, .inl (mD m k0))) := by rw [wsOf_get hn0', cellW_ints hk0]
  have hw1 : (wsOf cy ad m)[k1]? = some (ad k1, .inl (cy 7, a1, .inl (mD m k1))) := by rw [wsOf_get hn1, cellW_ints hk1]
  have hset : (wsOf cy ad m).set k1 (ad k1, .inl (cy 7, a1, .inl (va_cpy (mD m k0) (mD m k1) s1.toNatClampNeg d1.toNatClampNeg n.toNatClampNeg))) = wsOf cy ad (wC m k1 (va_cpy (mD m k0) (mD m k1) s1.toNatClampNeg d1.toNatClampNeg n.toNatClampNeg)) := by
    refine wsOf_set hn1 rfl ?_ (fun k' hk' => ?_)
    · rw [cellW_ints (n := a1) (show mK (wC m k1 _) k1 = (7, a1) from hk1)]
      congr 4
      funext i; rw [mD_wC]; simp
    · refine cellW_congr rfl ?_ rfl (fun _ => rfl)
      funext i'; rw [mD_wC]; simp [hk']
  refine va_copyi (ty := .int) hx hb hl.1.symm hown (hts _ h1) (hts _ h2) (hts _ h3) (hts _ h4) hK hP hD hS k0 k1 0 0 hw0 hw1 tysOf_0 tysOf_0 rfl g1 g2 g3 g4 g5 (fun _ _ => rfl) (by omega) ?_ hd ?_
  · have hz : nativeFrameWords "java/lang/System" "arraycopy" 5 = 7 := by decide
    rw [hz]; omega
  · intro H1 locs1 hP1 hD1 hS1
    rw [hset] at hP1 hD1
    exact kk ad H1 locs1 L ⟨hP1, hD1, hS1, hcl.sh SameSh.c⟩ he ho1 ho2.tail.tail.tail.tail.tail hl
theorem go_clone {k n : Nat} (h1 : Cond.methodLink own idx ⟨"[I", "clone", "()Ljava/lang/Object;"⟩ ∈ gtbl) (h2 : Cond.sameMethod "[I" "java/lang/Object" "clone" "()Ljava/lang/Object;" ∈ gtbl) (h3 : Cond.native ⟨"java/lang/Object", "clone", "()Ljava/lang/Object;"⟩ ∈ gtbl) (h4 : Cond.instanceMethod ⟨"java/lang/Object", "clone", "()Ljava/lang/Object;"⟩ ∈ gtbl) (h5 : Cond.selects "[I" ⟨"[I", "clone", "()Ljava/lang/Object;"⟩ ⟨"java/lang/Object", "clone", "()Ljava/lang/Object;"⟩ ∈ gtbl) (hk : mK m k = (7, n)) (hdd : 1 ≤ d) (hcat : (st.map fun v => v.category).sum ≤ 8) (hd : decode cc pc = .ok (.invokevirtual idx, 3)) :
    Go false (cc, nL, own, d, ini) m pc ls (.ref k :: st) (wC (mNew m 7 n n) (mN m) (mD m k)) (pc + 3) ls (.ref (mN m) :: st) := by
  refine ⟨⟨Nat.le_succ _, Nat.le_add_right _ _, fun h => by cases h⟩, ?_⟩
  intro b B
  obtain ⟨p, l, e, R, s, mi, args, below, meth, c, D, cy, ro, A, n0, s0, ad0, Q⟩ := b
  obtain ⟨hx, hb, hml, hown, hts, hlk, hrm, hK, hA, hRO⟩ := B
  intro hn0 hs0 hN hSl ad H locs L hR he ho1 ho2 hl kk
  obtain ⟨hP, hD, hS, hcl⟩ := hR
  have hN : mN m + 1 ≤ n0 + R.cells := hN
  have hSl : mS m + n ≤ s0 + R.slots := hSl
  have hcat' : ((st.map (ren ad ro)).map fun v => v.category).sum ≤ 8 := by rw [renl_cat hRO.1]; exact hcat
  have hkn : k < mN m := ho2.head
  have hws : (wsOf cy ad m)[k]? = some (ad k, .inl (cy 7, n, .inl (mD m k))) := by rw [wsOf_get hkn, cellW_ints hk]
  refine va_clone (ad := "[I") hx hb hl.1.symm hown (hts _ h1) (hts _ h2) (hts _ h3) (hts _ h4) (hts _ h5) (hRO.2.1 _ (by simp [nw])) hK hP hD hS hA k 0 hws tysOf_0 (hK.2 0 _ tysOf_0).2 (fun i v hv => ?_) (by omega) (by omega) (by omega) (by show mS m - s0 + n ≤ R.slots; omega) hd ?_
  · have : (vp_cell (cy 7) (n, .inl (mD m k))).slots[i]? = some v := hv
    rw [vp_cell_i] at this
    by_cases hin : i < n
    · rw [arrV_read _ _ hin] at this
      cases this; rfl
    · have hz : (arrV (cy 7) n (fun j => Value.int (mD m k j))).slots.size = n := arrV_size _ _ _
      have := (Array.getElem?_eq_some_iff.mp this).1
      omega
  · intro q H1 hK1 hP1 hD1 hS1
    have ep : wsOf cy (va_up ad (mN m) q) (wC (mNew m 7 n n) (mN m) (mD m k)) = wsOf cy ad m ++ [(q, .inl (cy 7, n, .inl (mD m k)))] := by
      rw [← wsOf_set (cy := cy) (ad := va_up ad (mN m) q) (m := mNew m 7 n n) (m' := wC (mNew m 7 n n) (mN m) (mD m k)) (k := mN m) (e := .inl (cy 7, n, .inl (mD m k))) (Nat.lt_succ_self _) rfl, wsOf_push hcl, List.set_append]
      · rw [wsOf_len, if_neg (by omega), Nat.sub_self]
        simp [va_up]
      · rw [cellW_ints (n := n) (show mK (wC (mNew m 7 n n) (mN m) (mD m k)) (mN m) = (7, n) from mK_new (m := m) (t := 7) (len := n) (sl := n))]
        congr 4
        funext i; rw [mD_wC]; simp
      · intro k' hk'
        refine cellW_congr rfl ?_ rfl (fun _ => rfl)
        funext i'; rw [mD_wC]; simp [hk']
    have ec : mN m - n0 + 1 = mN (wC (mNew m 7 n n) (mN m) (mD m k)) - n0 := by show _ = mN m + 1 - n0; omega
    have es : mS m - s0 + n = mS (wC (mNew m 7 n n) (mN m) (mD m k)) - s0 := by show _ = mS m + n - s0; omega
    show W p l e R s mi args below meth c H1 locs (mN m - n0 + 1) (mS m - s0 + n) Q _
    rw [ec, es]
    rw [← ep] at hP1 hD1
    have k0 := kk (va_up ad (mN m) q) H1 locs L ⟨hP1, hD1, hS1, (hcl.new (t := 7) (len := n) (sl := n)).sh SameSh.c⟩ (fun k h => by rw [ad_new k (by omega)]; exact he k h) (ho1.mono (Nat.le_succ _)) (okl.cons (Nat.lt_succ_self _) (ho2.tail.mono (Nat.le_succ _))) (lvs_ext hl ho1 ad_new)
    have est : (Value.ref (mN m) :: st).map (ren (va_up ad (mN m) q) ro) = .ref q :: st.map (ren ad ro) := by
      rw [List.map_cons, renl_ext ho2.tail ad_new]
      show Value.ref (va_up ad (mN m) q (mN m)) :: _ = _
      simp [va_up]
    rw [est] at k0
    exact k0
theorem go_castA {k n : Nat} (h1 : Cond.classLink own idx "[I" ∈ gtbl) (hk : mK m k = (7, n)) (hd : decode cc pc = .ok (.checkcast idx, 3)) :
    Go sp (cc, nL, own, d, ini) m pc ls (.ref k :: st) m (pc + 3) ls (.ref k :: st) := by
  refine ⟨Gr.rf, ?_⟩
  intro b B
  obtain ⟨p, l, e, R, s, mi, args, below, meth, c, D, cy, ro, A, n0, s0, ad0, Q⟩ := b
  obtain ⟨hx, hb, hml, hown, hts, hlk, hrm, hK, hA, hRO⟩ := B
  intro hn0 hs0 hN hSl ad H locs L hR he ho1 ho2 hl kk
  have hws : (wsOf cy ad m)[k]? = some (ad k, .inl (cy 7, n, .inl (mD m k))) := by rw [wsOf_get ho2.head, cellW_ints hk]
  refine va_castA hx hb hown (hts _ h1) hR.1 k hws (hK.2 0 _ tysOf_0).2 hd ?_
  exact kk ad H locs L hR he ho1 ho2 hl
/-- a static table, its length, its places -/
theorem go_getT {j N : Nat} {f : Nat → Int32} {nme : String} (hT : ∀ (ro : Nat → Value) (A : Nat → Prop) (s : State), RO ro A s → roT nme N f (ro j) A s) (hw : Cond.fieldLink own idx RX5 nme "[I" ∈ gtbl) (hd : decode cc pc = .ok (.getstatic idx, 3)) :
    Go sp (cc, nL, own, d, ini) m pc ls st m (pc + 3) ls (.retAddr j :: st) := by
  refine ⟨Gr.rf, ?_⟩
  intro b B
  obtain ⟨p, l, e, R, s, mi, args, below, meth, c, D, cy, ro, A, n0, s0, ad0, Q⟩ := b
  obtain ⟨hx, hb, hml, hown, hts, hlk, hrm, hK, hA, hRO⟩ := B
  intro hn0 hs0 hN hSl ad H locs L hR he ho1 ho2 hl kk
  obtain ⟨t, e1, hZ, -⟩ := hT ro A s hRO
  refine va_gets (ref := RX5) hx hb hZ hR.2.2.1 hown (hts _ hw) (fun x h => h) hd ?_
  rw [← e1]
  exact kk ad H locs L hR he ho1 (okl.cons trivial ho2) hl
theorem go_rdT {j N : Nat} {f : Nat → Int32} {nme : String} {i : Int32} (hT : ∀ (ro : Nat → Value) (A : Nat → Prop) (s : State), RO ro A s → roT nme N f (ro j) A s) (hi : vp_in i N) (hd : decode cc pc = .ok (.iaload, 1)) :
    Go sp (cc, nL, own, d, ini) m pc ls (.int i :: .retAddr j :: st) m (pc + 1) ls (.int (f i.toNatClampNeg) :: st) := by
  refine ⟨Gr.rf, ?_⟩
  intro b B
  obtain ⟨p, l, e, R, s, mi, args, below, meth, c, D, cy, ro, A, n0, s0, ad0, Q⟩ := b
  obtain ⟨hx, hb, hml, hown, hts, hlk, hrm, hK, hA, hRO⟩ := B
  intro hn0 hs0 hN hSl ad H locs L hR he ho1 ho2 hl kk
  obtain ⟨t, e1, -, hTT⟩ := hT ro A s hRO
  have k0 := kk ad H locs L hR he ho1 (okl.cons trivial ho2.tail.tail) hl
  show W p l e R s mi args below meth c H locs _ _ Q (F0 mi pc L (.int i :: ro j :: st.map (ren ad ro)))
  rw [e1]
  exact va_ti hx hb hTT hR.2.2.1 hi rfl hd k0
theorem go_lenT {j N : Nat} {f : Nat → Int32} {nme : String} (hT : ∀ (ro : Nat → Value) (A : Nat → Prop) (s : State), RO ro A s → roT nme N f (ro j) A s) (hd : decode cc pc = .ok (.arraylength, 1)) :
    Go sp (cc, nL, own, d, ini) m pc ls (.retAddr j :: st) m (pc + 1) ls (.int (Int32.ofNat N) :: st) := by
  refine ⟨Gr.rf, ?_⟩
  intro b B
  obtain ⟨p, l, e, R, s, mi, args, below, meth, c, D, cy, ro, A, n0, s0, ad0, Q⟩ := b
  obtain ⟨hx, hb, hml, hown, hts, hlk, hrm, hK, hA, hRO⟩ := B
  intro hn0 hs0 hN hSl ad H locs L hR he ho1 ho2 hl kk
  obtain ⟨t, e1, -, hTT⟩ := hT ro A s hRO
  have k0 := kk ad H locs L hR he ho1 (okl.cons trivial ho2.tail) hl
  show W p l e R s mi args below meth c H locs _ _ Q (F0 mi pc L (ro j :: st.map (ren ad ro)))
  rw [e1]
  exact va_tlen hx hb hTT hR.2.2.1 rfl hd k0
/-- the script -/
theorem go_lenX {L0 : Nat} {xs : Nat → Int32} {z : Bool} (hd : decode cc pc = .ok (.arraylength, 1)) :
    Go sp (cc, nL, own, d, (z, some (L0, xs))) m pc ls (.retAddr 0 :: st) m (pc + 1) ls (.int (Int32.ofNat L0) :: st) := by
  refine ⟨Gr.rf, ?_⟩
  intro b B
  obtain ⟨p, l, e, R, s, mi, args, below, meth, c, D, cy, ro, A, n0, s0, ad0, Q⟩ := b
  obtain ⟨hx, hb, hml, hown, hts, hlk, hrm, hK, hA, hRO⟩ := B
  intro hn0 hs0 hN hSl ad H locs L hR he ho1 ho2 hl kk
  obtain ⟨t, e1, hX, hlt, hnA⟩ := hlk.2.2 _ rfl
  have k0 := kk ad H locs L hR he ho1 (okl.cons trivial ho2.tail) hl
  show W p l e R s mi args below meth c H locs _ _ Q (F0 mi pc L (ro 0 :: st.map (ren ad ro)))
  rw [e1]
  exact va_slen hx hb hX hlt hnA hR.2.2.1 hd k0
theorem go_rdX {L0 : Nat} {xs : Nat → Int32} {z : Bool} {i : Int32} (hi : vp_in i L0) (hd : decode cc pc = .ok (.iaload, 1)) :
    Go sp (cc, nL, own, d, (z, some (L0, xs))) m pc ls (.int i :: .retAddr 0 :: st) m (pc + 1) ls (.int (xs i.toNatClampNeg) :: st) := by
  refine ⟨Gr.rf, ?_⟩
  intro b B
  obtain ⟨p, l, e, R, s, mi, args, below, meth, c, D, cy, ro, A, n0, s0, ad0, Q⟩ := b
  obtain ⟨hx, hb, hml, hown, hts, hlk, hrm, hK, hA, hRO⟩ := B
  intro hn0 hs0 hN hSl ad H locs L hR he ho1 ho2 hl kk
  obtain ⟨t, e1, hX, hlt, hnA⟩ := hlk.2.2 _ rfl
  have k0 := kk ad H locs L hR he ho1 (okl.cons trivial ho2.tail.tail) hl
  show W p l e R s mi args below meth c H locs _ _ Q (F0 mi pc L (.int i :: ro 0 :: st.map (ren ad ro)))
  rw [e1]
  exact va_sld hx hb hX hlt hnA hR.2.2.1 hi hd k0
end JD
theorem roLEAST (ro : Nat → Value) (A : Nat → Prop) (s : State) (h : RO ro A s) : roT "LEAST" 7 fLEAST (ro 1) A s := h.2.2.2.1.1
theorem roMOST (ro : Nat → Value) (A : Nat → Prop) (s : State) (h : RO ro A s) : roT "MOST" 7 fMOST (ro 2) A s := h.2.2.2.1.2.1
theorem roUNDER (ro : Nat → Value) (A : Nat → Prop) (s : State) (h : RO ro A s) : roT "UNDER" 6 fUNDER (ro 3) A s := h.2.2.2.1.2.2
theorem aoCoin (ro : Nat → Value) (A : Nat → Prop) (s : State) (h : RO ro A s) : va_AO RX0 s := h.2.2.1.1
theorem aoSheet (ro : Nat → Value) (A : Nat → Prop) (s : State) (h : RO ro A s) : va_AO RX2 s := h.2.2.1.2.1
theorem aoText (ro : Nat → Value) (A : Nat → Prop) (s : State) (h : RO ro A s) : va_AO RX4 s := h.2.2.1.2.2
