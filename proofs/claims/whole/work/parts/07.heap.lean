theorem lv_has.mono {L : Array Slot} {nL : Nat} {l l' : List (Nat × Value)} (h : lv_has L nL l) (hs : ∀ q ∈ l', q ∈ l) : lv_has L nL l' := ⟨h.1, h.2.1, fun q hq => h.2.2 q (hs q hq)⟩
theorem set_ne {ls : List Value} {i j : Nat} {v w : Value} (hj : j ≠ i) (h : (ls.set i v)[j]? = some w) : ls[j]? = some w := by
  rwa [List.getElem?_set_ne (Ne.symm hj)] at h
theorem set_eq {ls : List Value} {i : Nat} {v w : Value} (h : (ls.set i v)[i]? = some w) : w = v := by
  have hl : i < (ls.set i v).length := (List.getElem?_eq_some_iff.mp h).1
  rw [List.length_set] at hl
  rw [List.getElem?_set_self hl] at h
  exact (Option.some.inj h).symm
theorem killP_at {ls : List Value} {i j : Nat} {w : Value} (hw : w ≠ .null) (h : (killP ls i)[j]? = some w) : ls[j]? = some w ∧ (j + 1 = i → w.category = 1) := by
  cases i with
  | zero => exact ⟨h, fun z => by omega⟩
  | succ i =>
    have h : (killJ ls i)[j]? = some w := h
    unfold killJ at h
    cases hg : ls[i]? with
    | none => rw [hg] at h; exact ⟨h, fun z => by
        have : j = i := by omega
        subst this; rw [hg] at h; cases h⟩
    | some u =>
      rw [hg] at h
      by_cases hj : j = i
      · subst hj
        cases u <;> simp only at h <;> first
          | exact absurd (set_eq h) hw
          | (rw [hg] at h; cases h; exact ⟨hg, fun _ => rfl⟩)
      · have h2 : ls[j]? = some w := by
          cases u <;> simp only at h <;> first | exact set_ne hj h | exact h
        exact ⟨h2, fun z => by omega⟩
theorem ren_cat {ad : Nat → Nat} {ro : Nat → Value} (hro : ∀ k, ro k = .null ∨ ∃ a, ro k = .ref a) {v : Value} (h : v.category = 1) : (ren ad ro v).category = 1 := by
  cases v with
  | retAddr k =>
    show (ro k).category = 1
    rcases hro k with h | ⟨a, h⟩ <;> rw [h] <;> rfl
  | ref k => rfl
  | _ => exact h
theorem lvs_stl {ad : Nat → Nat} {ro : Nat → Value} (hro : ∀ k, ro k = .null ∨ ∃ a, ro k = .ref a) {ls : List Value} {i : Nat} {v : Value} :
    ∀ q ∈ lvs ad ro (stl ls i v), q ∈ (i, ren ad ro v) :: (lvs ad ro ls).filter (fun q => !(q.1 == i) && !(q.1 + 1 == i && q.2.category == 2)) := by
  intro q hq
  obtain ⟨w, h1, h2, h3⟩ := lvs_mem.mp hq
  by_cases hj : q.1 = i
  · unfold stl at h1
    rw [hj] at h1
    have := set_eq h1
    subst this
    exact List.mem_cons.mpr (Or.inl (Prod.ext hj h3))
  · obtain ⟨g1, g2⟩ := killP_at h2 (set_ne hj h1)
    refine List.mem_cons_of_mem _ (List.mem_filter.mpr ⟨lvs_mem.mpr ⟨w, g1, h2, h3⟩, ?_⟩)
    by_cases hz : q.1 + 1 = i
    · simp [hj, hz, h3, ren_cat hro (g2 hz)]
    · simp [hj, hz]
theorem lvs_stl2 {ad : Nat → Nat} {ro : Nat → Value} (hro : ∀ k, ro k = .null ∨ ∃ a, ro k = .ref a) {ls : List Value} {i : Nat} {v : Value} :
    ∀ q ∈ lvs ad ro (stl2 ls i v), q ∈ (i, ren ad ro v) :: (lvs ad ro ls).filter (fun q => !(q.1 == i) && (!(q.1 == i + 1) && !(q.1 + 1 == i && q.2.category == 2))) := by
  intro q hq
  obtain ⟨w, h1, h2, h3⟩ := lvs_mem.mp hq
  unfold stl2 at h1
  by_cases hk : q.1 = i + 1
  · rw [hk] at h1
    exact absurd (set_eq h1) h2
  · have h1 := set_ne hk h1
    by_cases hj : q.1 = i
    · rw [hj] at h1
      have := set_eq h1
      subst this
      exact List.mem_cons.mpr (Or.inl (Prod.ext hj h3))
    · obtain ⟨g1, g2⟩ := killP_at h2 (set_ne hj h1)
      refine List.mem_cons_of_mem _ (List.mem_filter.mpr ⟨lvs_mem.mpr ⟨w, g1, h2, h3⟩, ?_⟩)
      by_cases hz : q.1 + 1 = i
      · simp [hj, hk, hz, h3, ren_cat hro (g2 hz)]
      · simp [hj, hk, hz]
theorem okl.killP {n : Nat} {ls : List Value} {i : Nat} (h : okl n ls) : okl n (killP ls i) := by
  intro w hw
  by_cases hn : w = .null
  · subst hn; trivial
  · obtain ⟨j, hj⟩ := List.getElem?_of_mem hw
    exact h w (List.mem_of_getElem? (killP_at hn hj).1)
theorem okl.set {n : Nat} {ls : List Value} {i : Nat} {v : Value} (h : okl n ls) (hv : okv n v) : okl n (ls.set i v) := by
  intro w hw
  rcases List.mem_or_eq_of_mem_set hw with h1 | h1
  · exact h w h1
  · rw [h1]; exact hv
theorem okl.stl {n : Nat} {ls : List Value} {i : Nat} {v : Value} (h : okl n ls) (hv : okv n v) : okl n (stl ls i v) := h.killP.set hv
theorem okl.stl2 {n : Nat} {ls : List Value} {i : Nat} {v : Value} (h : okl n ls) (hv : okv n v) : okl n (stl2 ls i v) := (h.killP.set hv).set trivial
section ST
variable {sp : Bool} {ini : IK} {cc : ByteArray} {nL d : Nat} {own : String} {m : Mem} {pc : Nat} {ls ls' st : List Value}
theorem go_istore_n {k : Fin 4} {i : Nat} {x : Int32} (hd : decode cc pc = .ok (.istore_n k, 1)) (hi : (k : Nat) = i) (hn : i < nL) (hs : stl ls i (.int x) = ls') : Go sp (cc, nL, own, d, ini) m pc ls (.int x :: st) m (pc + 1) ls' st := by
  subst hs
  refine ⟨Gr.rf, ?_⟩
  intro b B
  obtain ⟨p, l, e, R, s, mi, args, below, meth, c, D, cy, ro, A, n0, s0, ad0, Q⟩ := b
  obtain ⟨hx, hb, hml, hown, hts, hlk, hrm, hK, hA, hRO⟩ := B
  intro _ _ _ _ ad H locs L hR he ho1 ho2 hl kk
  exact lv_istore_n hx hb hd hi hl (by rw [hml]; exact hn) rfl fun L' hl' => kk ad H locs L' hR he (ho1.stl trivial) ho2.tail (hl'.mono (lvs_stl hRO.1))
theorem go_istore {i : Nat} {x : Int32} (hd : decode cc pc = .ok (.istore i, 2)) (hn : i < nL) (hs : stl ls i (.int x) = ls') : Go sp (cc, nL, own, d, ini) m pc ls (.int x :: st) m (pc + 2) ls' st := by
  subst hs
  refine ⟨Gr.rf, ?_⟩
  intro b B
  obtain ⟨p, l, e, R, s, mi, args, below, meth, c, D, cy, ro, A, n0, s0, ad0, Q⟩ := b
  obtain ⟨hx, hb, hml, hown, hts, hlk, hrm, hK, hA, hRO⟩ := B
  intro _ _ _ _ ad H locs L hR he ho1 ho2 hl kk
  exact lv_istore hx hb hd hl (by rw [hml]; exact hn) rfl fun L' hl' => kk ad H locs L' hR he (ho1.stl trivial) ho2.tail (hl'.mono (lvs_stl hRO.1))
theorem go_astore_n {k : Fin 4} {i x : Nat} (hd : decode cc pc = .ok (.astore_n k, 1)) (hi : (k : Nat) = i) (hn : i < nL) (hs : stl ls i (.ref x) = ls') : Go sp (cc, nL, own, d, ini) m pc ls (.ref x :: st) m (pc + 1) ls' st := by
  subst hs
  refine ⟨Gr.rf, ?_⟩
  intro b B
  obtain ⟨p, l, e, R, s, mi, args, below, meth, c, D, cy, ro, A, n0, s0, ad0, Q⟩ := b
  obtain ⟨hx, hb, hml, hown, hts, hlk, hrm, hK, hA, hRO⟩ := B
  intro _ _ _ _ ad H locs L hR he ho1 ho2 hl kk
  exact lv_astore_n hx hb hd hi hl (by rw [hml]; exact hn) rfl fun L' hl' => kk ad H locs L' hR he (ho1.stl ho2.head) ho2.tail (hl'.mono (lvs_stl (v := .ref x) hRO.1))
theorem go_astore {i x : Nat} (hd : decode cc pc = .ok (.astore i, 2)) (hn : i < nL) (hs : stl ls i (.ref x) = ls') : Go sp (cc, nL, own, d, ini) m pc ls (.ref x :: st) m (pc + 2) ls' st := by
  subst hs
  refine ⟨Gr.rf, ?_⟩
  intro b B
  obtain ⟨p, l, e, R, s, mi, args, below, meth, c, D, cy, ro, A, n0, s0, ad0, Q⟩ := b
  obtain ⟨hx, hb, hml, hown, hts, hlk, hrm, hK, hA, hRO⟩ := B
  intro _ _ _ _ ad H locs L hR he ho1 ho2 hl kk
  exact lv_astore hx hb hd hl (by rw [hml]; exact hn) rfl fun L' hl' => kk ad H locs L' hR he (ho1.stl ho2.head) ho2.tail (hl'.mono (lvs_stl (v := .ref x) hRO.1))
theorem go_lstore_n {k : Fin 4} {i : Nat} {x : Int64} (hd : decode cc pc = .ok (.lstore_n k, 1)) (hi : (k : Nat) = i) (hn : i + 1 < nL) (hs : stl2 ls i (.long x) = ls') : Go sp (cc, nL, own, d, ini) m pc ls (.long x :: st) m (pc + 1) ls' st := by
  subst hs
  refine ⟨Gr.rf, ?_⟩
  intro b B
  obtain ⟨p, l, e, R, s, mi, args, below, meth, c, D, cy, ro, A, n0, s0, ad0, Q⟩ := b
  obtain ⟨hx, hb, hml, hown, hts, hlk, hrm, hK, hA, hRO⟩ := B
  intro _ _ _ _ ad H locs L hR he ho1 ho2 hl kk
  exact lv_lstore_n hx hb hd hi hl (by rw [hml]; exact hn) rfl fun L' hl' => kk ad H locs L' hR he (ho1.stl2 trivial) ho2.tail (hl'.mono (lvs_stl2 hRO.1))
theorem go_lstore {i : Nat} {x : Int64} (hd : decode cc pc = .ok (.lstore i, 2)) (hn : i + 1 < nL) (hs : stl2 ls i (.long x) = ls') : Go sp (cc, nL, own, d, ini) m pc ls (.long x :: st) m (pc + 2) ls' st := by
  subst hs
  refine ⟨Gr.rf, ?_⟩
  intro b B
  obtain ⟨p, l, e, R, s, mi, args, below, meth, c, D, cy, ro, A, n0, s0, ad0, Q⟩ := b
  obtain ⟨hx, hb, hml, hown, hts, hlk, hrm, hK, hA, hRO⟩ := B
  intro _ _ _ _ ad H locs L hR he ho1 ho2 hl kk
  exact lv_lstore hx hb hd hl (by rw [hml]; exact hn) rfl fun L' hl' => kk ad H locs L' hR he (ho1.stl2 trivial) ho2.tail (hl'.mono (lvs_stl2 hRO.1))
theorem go_iinc {i : Nat} {n : Int} {x v : Int32} (hd : decode cc pc = .ok (.iinc i n, 3)) (hg : ls[i]? = some (.int x)) (hv : x + Int32.ofInt n = v) (hn : i < nL) (hs : stl ls i (.int v) = ls') : Go sp (cc, nL, own, d, ini) m pc ls st m (pc + 3) ls' st := by
  subst hs
  refine ⟨Gr.rf, ?_⟩
  intro b B
  obtain ⟨p, l, e, R, s, mi, args, below, meth, c, D, cy, ro, A, n0, s0, ad0, Q⟩ := b
  obtain ⟨hx, hb, hml, hown, hts, hlk, hrm, hK, hA, hRO⟩ := B
  intro _ _ _ _ ad H locs L hR he ho1 ho2 hl kk
  obtain ⟨k, hk⟩ := List.getElem?_of_mem (lvs_mem (ad := ad) (ro := ro) (q := (i, .int x)).mpr ⟨_, hg, (by intro z; cases z), rfl⟩)
  exact lv_iinc hx hb hd hl hk hv (by rw [hml]; exact hn) rfl fun L' hl' => kk ad H locs L' hR he (ho1.stl trivial) ho2 (hl'.mono (lvs_stl hRO.1))
end ST
/-! fields and arrays -/
/-- what is known of class ci: its name, its fields -/
def ClsOK (ci : Nat) (C : String) (T : u_T) (N : Nat) : Prop := vwCl[ci]? = some (C, T, N) ∧ (∀ w ∈ u_ws C T N, w ∈ gtbl) ∧ (∀ k, k < N → parseFieldDescriptor (T k).2.2.1 = some (tyC ci k)) ∧ (∀ a, a < N → ∀ b, b < N → a ≠ b → (T a).2.1 ≠ (T b).2.1) ∧ nFC ci = N ∧ ci < 7
section HP
variable {sp : Bool} {ini : IK} {cc : ByteArray} {nL d : Nat} {own : String} {m : Mem} {pc : Nat} {ls ls' st : List Value}
theorem go_get {ci idx k i : Nat} {C : String} {T : u_T} {N : Nat} {v : Value} (hC : ClsOK ci C T N) (hk : mK m k = (ci, 0)) (hi : i < N) (hT : (T i).1 = C) (hw : Cond.fieldLink own idx C (T i).2.1 (T i).2.2.1 ∈ gtbl) (hv : ∀ (ad : Nat → Nat) (ro : Nat → Value), Closed m → k < mN m → fv (tyC ci i) ad m k i = ren ad ro v ∧ okv (mN m) v) (hd : decode cc pc = .ok (.getfield idx, 3)) :
    Go sp (cc, nL, own, d, ini) m pc ls (.ref k :: st) m (pc + 3) ls (v :: st) := by
  refine ⟨Gr.rf, ?_⟩
  intro b B
  obtain ⟨p, l, e, R, s, mi, args, below, meth, c, D, cy, ro, A, n0, s0, ad0, Q⟩ := b
  obtain ⟨hx, hb, hml, hown, hts, hlk, hrm, hK, hA, hRO⟩ := B
  intro _ _ _ _ ad H locs L hR he ho1 ho2 hl kk
  have hkn : k < mN m := ho2.head
  obtain ⟨hP, hD, hS, hcl⟩ := hR
  obtain ⟨c1, c2, c3, c4, c5, c6⟩ := hC
  obtain ⟨v1, v2⟩ := hv ad ro hcl hkn
  have hws : (wsOf cy ad m)[k]? = some (ad k, .inr (ci, fvs ad m k)) := by rw [wsOf_get hkn, cellW_obj hk c6]
  refine va_get (index := idx) (ref := C) hx hb hts c2 hown hK hP k hws c1 i hi (hts _ hw) (fun x h => by rw [hT] at h; exact h) (v := ren ad ro v) ?_ hd ?_
  · rw [fvs_get (by rw [hk, c5]; exact hi), hk, v1]
  · exact kk ad H locs L ⟨hP, hD, hS, hcl⟩ he ho1 (okl.cons v2 ho2.tail) hl
theorem go_getI {ci idx k i : Nat} {C : String} {T : u_T} {N : Nat} (hC : ClsOK ci C T N) (hk : mK m k = (ci, 0)) (hi : i < N) (hT : (T i).1 = C) (hw : Cond.fieldLink own idx C (T i).2.1 (T i).2.2.1 ∈ gtbl) (ht : tyC ci i = .int ∨ tyC ci i = .boolean) (hd : decode cc pc = .ok (.getfield idx, 3)) :
    Go sp (cc, nL, own, d, ini) m pc ls (.ref k :: st) m (pc + 3) ls (.int (mD m k i) :: st) :=
  go_get hC hk hi hT hw (fun ad ro _ _ => by rcases ht with h | h <;> rw [h] <;> exact ⟨rfl, trivial⟩) hd
theorem go_getL {ci idx k i : Nat} {C : String} {T : u_T} {N : Nat} (hC : ClsOK ci C T N) (hk : mK m k = (ci, 0)) (hi : i < N) (hT : (T i).1 = C) (hw : Cond.fieldLink own idx C (T i).2.1 (T i).2.2.1 ∈ gtbl) (ht : tyC ci i = .long) (hd : decode cc pc = .ok (.getfield idx, 3)) :
    Go sp (cc, nL, own, d, ini) m pc ls (.ref k :: st) m (pc + 3) ls (.long (mL m k i) :: st) :=
  go_get hC hk hi hT hw (fun ad ro _ _ => by rw [ht]; exact ⟨rfl, trivial⟩) hd
theorem go_getR {ci idx k i j : Nat} {C : String} {T : u_T} {N : Nat} (hC : ClsOK ci C T N) (hk : mK m k = (ci, 0)) (hi : i < N) (hT : (T i).1 = C) (hw : Cond.fieldLink own idx C (T i).2.1 (T i).2.2.1 ∈ gtbl) (ht : (∃ x, tyC ci i = .object x) ∨ ∃ x, tyC ci i = .array x) (hr : mR m k i = some j) (hd : decode cc pc = .ok (.getfield idx, 3)) :
    Go sp (cc, nL, own, d, ini) m pc ls (.ref k :: st) m (pc + 3) ls (.ref j :: st) :=
  go_get hC hk hi hT hw (fun ad ro hcl hkn => by
    rcases ht with ⟨x, h⟩ | ⟨x, h⟩ <;> rw [h] <;> refine ⟨?_, hcl k i j hkn hr⟩ <;> show va_rf ((mR m k i).map ad) = _ <;> rw [hr] <;> rfl) hd
/-- a field is written: memory m' is m but for that field -/
theorem put_rel {cy : Nat → ClassId} {ad : Nat → Nat} {m m' : Mem} {k i ci : Nat} {v : Value} (hk : mK m k = (ci, 0)) (c6 : ci < 7) (hkn : k < mN m) (hn : mN m' = mN m) (hK' : mK m' = mK m) (hv : fv (tyC ci i) ad m' k i = v)
    (ho : ∀ j, j ≠ i → fv (tyC ci j) ad m' k j = fv (tyC ci j) ad m k j) (hq : ∀ k', k' ≠ k → cellW cy ad m' k' = cellW cy ad m k') : (wsOf cy ad m).set k (ad k, .inr (ci, (fvs ad m k).set i v)) = wsOf cy ad m' := by
  refine wsOf_set hkn hn ?_ hq
  rw [cellW_obj (show mK m' k = (ci, 0) by rw [hK']; exact hk) c6, fvs_set (m' := m') (by rw [hK']) (by rw [hk]; exact hv) (fun j hj => by rw [hk]; exact ho j hj)]
theorem go_putI {ci idx k i : Nat} {C : String} {T : u_T} {N : Nat} {x : Int32} (hC : ClsOK ci C T N) (hk : mK m k = (ci, 0)) (hi : i < N) (hT : (T i).1 = C) (hw : Cond.fieldLink own idx C (T i).2.1 (T i).2.2.1 ∈ gtbl) (ht : tyC ci i = .int ∨ tyC ci i = .boolean) (hf : (T i).2.2.2 = false) (hnr : narrow (tyC ci i) (.int x) = .int x) (hft : fits (tyC ci i) (.int x) = true) (hd : decode cc pc = .ok (.putfield idx, 3)) :
    Go sp (cc, nL, own, d, ini) m pc ls (.int x :: .ref k :: st) (wD m k i x) (pc + 3) ls st := by
  refine ⟨Gr.sh SameSh.d, ?_⟩
  intro b B
  obtain ⟨p, l, e, R, s, mi, args, below, meth, c, D, cy, ro, A, n0, s0, ad0, Q⟩ := b
  obtain ⟨hx, hb, hml, hown, hts, hlk, hrm, hK, hA, hRO⟩ := B
  intro _ _ _ _ ad H locs L hR he ho1 ho2 hl kk
  have hkn : k < mN m := ho2.tail.head
  obtain ⟨hP, hD, hS, hcl⟩ := hR
  obtain ⟨c1, c2, c3, c4, c5, c6⟩ := hC
  have hws : (wsOf cy ad m)[k]? = some (ad k, .inr (ci, fvs ad m k)) := by rw [wsOf_get hkn, cellW_obj hk c6]
  have hfv : ∀ (m0 : Mem), fv (tyC ci i) ad m0 k i = .int (mD m0 k i) := fun m0 => by rcases ht with h | h <;> rw [h] <;> rfl
  have hset : (wsOf cy ad m).set k (ad k, .inr (ci, (fvs ad m k).set i (.int x))) = wsOf cy ad (wD m k i x) := by
    refine put_rel hk c6 hkn rfl rfl ?_ (fun j hj => ?_) (fun k' hk' => ?_)
    · rw [hfv, mD_wD]; simp
    · unfold fv; rw [mL_wD, mR_wD, mD_wD]; simp [hj]
    · refine cellW_congr rfl ?_ rfl (fun _ => rfl)
      funext i'; rw [mD_wD]; simp [hk']
  refine va_put (v := Value.int x) (index := idx) (ref := C) hx hb hts c2 (tyC ci) c3 c4 hown hK hP hD hS k hws c1 i hi (hts _ hw) (fun x h => by rw [hT] at h; exact h) hf (c3 i hi) hnr hft (by rw [fvs_len, hk, c5]; exact hi) hd ?_
  intro H1 locs1 hP1 hD1 hS1
  rw [hset] at hP1 hD1
  exact kk ad H1 locs1 L ⟨hP1, hD1, hS1, hcl.sh SameSh.d⟩ he ho1 ho2.tail.tail hl
theorem go_putL {ci idx k i : Nat} {C : String} {T : u_T} {N : Nat} {x : Int64} (hC : ClsOK ci C T N) (hk : mK m k = (ci, 0)) (hi : i < N) (hT : (T i).1 = C) (hw : Cond.fieldLink own idx C (T i).2.1 (T i).2.2.1 ∈ gtbl) (ht : tyC ci i = .long) (hf : (T i).2.2.2 = false) (hd : decode cc pc = .ok (.putfield idx, 3)) :
    Go sp (cc, nL, own, d, ini) m pc ls (.long x :: .ref k :: st) (wL m k i x) (pc + 3) ls st := by
  refine ⟨Gr.sh SameSh.l, ?_⟩
  intro b B
  obtain ⟨p, l, e, R, s, mi, args, below, meth, c, D, cy, ro, A, n0, s0, ad0, Q⟩ := b
  obtain ⟨hx, hb, hml, hown, hts, hlk, hrm, hK, hA, hRO⟩ := B
  intro _ _ _ _ ad H locs L hR he ho1 ho2 hl kk
  have hkn : k < mN m := ho2.tail.head
  obtain ⟨hP, hD, hS, hcl⟩ := hR
  obtain ⟨c1, c2, c3, c4, c5, c6⟩ := hC
  have hws : (wsOf cy ad m)[k]? = some (ad k, .inr (ci, fvs ad m k)) := by rw [wsOf_get hkn, cellW_obj hk c6]
  have hset : (wsOf cy ad m).set k (ad k, .inr (ci, (fvs ad m k).set i (.long x))) = wsOf cy ad (wL m k i x) := by
    refine put_rel hk c6 hkn rfl rfl ?_ (fun j hj => ?_) (fun k' hk' => ?_)
    · rw [ht]; show Value.long (mL (wL m k i x) k i) = _; rw [mL_wL]; simp
    · unfold fv; rw [mD_wL, mR_wL, mL_wL]; simp [hj]
    · refine cellW_congr rfl rfl ?_ (fun _ => rfl)
      funext i'; rw [mL_wL]; simp [hk']
  refine va_put (v := Value.long x) (index := idx) (ref := C) hx hb hts c2 (tyC ci) c3 c4 hown hK hP hD hS k hws c1 i hi (hts _ hw) (fun x h => by rw [hT] at h; exact h) hf (c3 i hi) (by rw [ht]; rfl) (by rw [ht]; rfl) (by rw [fvs_len, hk, c5]; exact hi) hd ?_
  intro H1 locs1 hP1 hD1 hS1
  rw [hset] at hP1 hD1
  exact kk ad H1 locs1 L ⟨hP1, hD1, hS1, hcl.sh SameSh.l⟩ he ho1 ho2.tail.tail hl
/-- a final field of references, in its constructor -/
theorem go_putF {ci idx k i j : Nat} {C : String} {T : u_T} {N : Nat} (hC : ClsOK ci C T N) (hk : mK m k = (ci, 0)) (hi : i < N) (hT : (T i).1 = C) (hO : C = own) (hw : Cond.fieldLink own idx C (T i).2.1 (T i).2.2.1 ∈ gtbl) (ht : (∃ x, tyC ci i = .object x) ∨ ∃ x, tyC ci i = .array x) (hf : (T i).2.2.2 = true) (hd : decode cc pc = .ok (.putfield idx, 3)) :
    Go false (cc, nL, own, d, (true, none)) m pc ls (.ref j :: .ref k :: st) (wR m k i (some j)) (pc + 3) ls st := by
  refine ⟨⟨Nat.le_refl _, Nat.le_refl _, fun h => by cases h⟩, ?_⟩
  intro b B
  obtain ⟨p, l, e, R, s, mi, args, below, meth, c, D, cy, ro, A, n0, s0, ad0, Q⟩ := b
  obtain ⟨hx, hb, hml, hown, hts, hlk, hrm, hK, hA, hRO⟩ := B
  intro _ _ _ _ ad H locs L hR he ho1 ho2 hl kk
  have hkn : k < mN m := ho2.tail.head
  have hjn : j < mN m := ho2.head
  obtain ⟨hP, hD, hS, hcl⟩ := hR
  obtain ⟨c1, c2, c3, c4, c5, c6⟩ := hC
  have hws : (wsOf cy ad m)[k]? = some (ad k, .inr (ci, fvs ad m k)) := by rw [wsOf_get hkn, cellW_obj hk c6]
  have hset : (wsOf cy ad m).set k (ad k, .inr (ci, (fvs ad m k).set i (.ref (ad j)))) = wsOf cy ad (wR m k i (some j)) := by
    refine put_rel hk c6 hkn rfl rfl ?_ (fun j' hj => ?_) (fun k' hk' => ?_)
    · rcases ht with ⟨x, h⟩ | ⟨x, h⟩ <;> rw [h] <;> show va_rf ((mR (wR m k i (some j)) k i).map ad) = _ <;> rw [mR_wR] <;> simp [va_rf]
    · unfold fv; rw [mD_wR, mL_wR, mR_wR]; simp [hj]
    · refine cellW_congr rfl rfl rfl (fun i' => ?_)
      rw [mR_wR]; simp [hk']
  refine va_putF (v := Value.ref (ad j)) (index := idx) (ref := C) hx hb hts c2 (tyC ci) c3 c4 hown hK hP hD hS k hws c1 i hi (hts _ hw) (fun x h => by rw [hT] at h; exact h) hf (hlk.2.1 rfl) (by rw [hT]; exact hO) (c3 i hi) (by rcases ht with ⟨x, h⟩ | ⟨x, h⟩ <;> rw [h] <;> rfl) (by rcases ht with ⟨x, h⟩ | ⟨x, h⟩ <;> rw [h] <;> rfl) (by rw [fvs_len, hk, c5]; exact hi) hd ?_
  intro H1 locs1 hP1 hD1 hS1
  rw [hset] at hP1 hD1
  exact kk ad H1 locs1 L ⟨hP1, hD1, hS1, hcl.r hjn⟩ he ho1 ho2.tail.tail hl
theorem tysOf_0 {cy : Nat → ClassId} : (tysOf cy)[0]? = some (cy 7, .int) := rfl
theorem tysOf_1 {cy : Nat → ClassId} : (tysOf cy)[1]? = some (cy 8, .boolean) := rfl
theorem go_iaload {k n : Nat} {i : Int32} (hk : mK m k = (7, n)) (hi : vp_in i n) (hd : decode cc pc = .ok (.iaload, 1)) : Go sp (cc, nL, own, d, ini) m pc ls (.int i :: .ref k :: st) m (pc + 1) ls (.int (mD m k i.toNatClampNeg) :: st) := by
  refine ⟨Gr.rf, ?_⟩
  intro b B
  obtain ⟨p, l, e, R, s, mi, args, below, meth, c, D, cy, ro, A, n0, s0, ad0, Q⟩ := b
  obtain ⟨hx, hb, hml, hown, hts, hlk, hrm, hK, hA, hRO⟩ := B
  intro _ _ _ _ ad H locs L hR he ho1 ho2 hl kk
  have hws : (wsOf cy ad m)[k]? = some (ad k, .inl (cy 7, n, .inl (mD m k))) := by rw [wsOf_get ho2.tail.head, cellW_ints hk]
  refine va_iald hx hb hK hR.1 k 0 hws tysOf_0 hi hd ?_
  exact kk ad H locs L hR he ho1 (okl.cons trivial ho2.tail.tail) hl
theorem go_baload {k n : Nat} {i : Int32} (hk : mK m k = (8, n)) (hi : vp_in i n) (hd : decode cc pc = .ok (.baload, 1)) : Go sp (cc, nL, own, d, ini) m pc ls (.int i :: .ref k :: st) m (pc + 1) ls (.int (mD m k i.toNatClampNeg) :: st) := by
  refine ⟨Gr.rf, ?_⟩
  intro b B
  obtain ⟨p, l, e, R, s, mi, args, below, meth, c, D, cy, ro, A, n0, s0, ad0, Q⟩ := b
  obtain ⟨hx, hb, hml, hown, hts, hlk, hrm, hK, hA, hRO⟩ := B
  intro _ _ _ _ ad H locs L hR he ho1 ho2 hl kk
  have hws : (wsOf cy ad m)[k]? = some (ad k, .inl (cy 8, n, .inl (mD m k))) := by rw [wsOf_get ho2.tail.head, cellW_bools hk]
  refine va_zald hx hb hK hR.1 k 1 hws tysOf_1 hi hd ?_
  exact kk ad H locs L hR he ho1 (okl.cons trivial ho2.tail.tail) hl
theorem upd_row {m : Mem} {k i : Nat} {x : Int32} : mD (wD m k i x) k = upd (mD m k) i x := by
  funext j; rw [mD_wD]; simp [upd]
theorem go_iastore {k n : Nat} {i x : Int32} (hk : mK m k = (7, n)) (hi : vp_in i n) (hd : decode cc pc = .ok (.iastore, 1)) : Go sp (cc, nL, own, d, ini) m pc ls (.int x :: .int i :: .ref k :: st) (wD m k i.toNatClampNeg x) (pc + 1) ls st := by
  refine ⟨Gr.sh SameSh.d, ?_⟩
  intro b B
  obtain ⟨p, l, e, R, s, mi, args, below, meth, c, D, cy, ro, A, n0, s0, ad0, Q⟩ := b
  obtain ⟨hx, hb, hml, hown, hts, hlk, hrm, hK, hA, hRO⟩ := B
  intro _ _ _ _ ad H locs L hR he ho1 ho2 hl kk
  have hkn : k < mN m := ho2.tail.tail.head
  obtain ⟨hP, hD, hS, hcl⟩ := hR
  have hws : (wsOf cy ad m)[k]? = some (ad k, .inl (cy 7, n, .inl (mD m k))) := by rw [wsOf_get hkn, cellW_ints hk]
  have hset : (wsOf cy ad m).set k (ad k, .inl (cy 7, n, .inl (upd (mD m k) i.toNatClampNeg x))) = wsOf cy ad (wD m k i.toNatClampNeg x) := by
    refine wsOf_set hkn rfl ?_ (fun k' hk' => ?_)
    · rw [cellW_ints (n := n) (show mK (wD m k i.toNatClampNeg x) k = (7, n) from hk), upd_row]
    · refine cellW_congr rfl ?_ rfl (fun _ => rfl)
      funext i'; rw [mD_wD]; simp [hk']
  refine va_iast hx hb hK hP hD hS k 0 hws tysOf_0 hi hd ?_
  intro H1 locs1 hP1 hD1 hS1
  rw [hset] at hP1 hD1
  exact kk ad H1 locs1 L ⟨hP1, hD1, hS1, hcl.sh SameSh.d⟩ he ho1 ho2.tail.tail.tail hl
theorem go_bastore {k n : Nat} {i x : Int32} (hk : mK m k = (8, n)) (hi : vp_in i n) (hx0 : vp_nar .boolean x = x) (hd : decode cc pc = .ok (.bastore, 1)) : Go sp (cc, nL, own, d, ini) m pc ls (.int x :: .int i :: .ref k :: st) (wD m k i.toNatClampNeg x) (pc + 1) ls st := by
  refine ⟨Gr.sh SameSh.d, ?_⟩
  intro b B
  obtain ⟨p, l, e, R, s, mi, args, below, meth, c, D, cy, ro, A, n0, s0, ad0, Q⟩ := b
  obtain ⟨hx, hb, hml, hown, hts, hlk, hrm, hK, hA, hRO⟩ := B
  intro _ _ _ _ ad H locs L hR he ho1 ho2 hl kk
  have hkn : k < mN m := ho2.tail.tail.head
  obtain ⟨hP, hD, hS, hcl⟩ := hR
  have hws : (wsOf cy ad m)[k]? = some (ad k, .inl (cy 8, n, .inl (mD m k))) := by rw [wsOf_get hkn, cellW_bools hk]
  have hset : (wsOf cy ad m).set k (ad k, .inl (cy 8, n, .inl (upd (mD m k) i.toNatClampNeg (vp_nar .boolean x)))) = wsOf cy ad (wD m k i.toNatClampNeg x) := by
    refine wsOf_set hkn rfl ?_ (fun k' hk' => ?_)
    · rw [cellW_bools (n := n) (show mK (wD m k i.toNatClampNeg x) k = (8, n) from hk), upd_row, hx0]
    · refine cellW_congr rfl ?_ rfl (fun _ => rfl)
      funext i'; rw [mD_wD]; simp [hk']
  refine va_zast hx hb hK hP hD hS k 1 hws tysOf_1 hi hd ?_
  intro H1 locs1 hP1 hD1 hS1
  rw [hset] at hP1 hD1
  exact kk ad H1 locs1 L ⟨hP1, hD1, hS1, hcl.sh SameSh.d⟩ he ho1 ho2.tail.tail.tail hl
theorem go_aaload {k n t t0 j : Nat} {C : String} {i : Int32} (hk : mK m k = (t, n)) (ht9 : 9 ≤ t) (ht : ∀ cy : Nat → ClassId, (tysOf cy)[t0]? = some (cy t, .object C)) (hi : vp_in i n) (hr : mR m k i.toNatClampNeg = some j) (hd : decode cc pc = .ok (.aaload, 1)) : Go sp (cc, nL, own, d, ini) m pc ls (.int i :: .ref k :: st) m (pc + 1) ls (.ref j :: st) := by
  refine ⟨Gr.rf, ?_⟩
  intro b B
  obtain ⟨p, l, e, R, s, mi, args, below, meth, c, D, cy, ro, A, n0, s0, ad0, Q⟩ := b
  obtain ⟨hx, hb, hml, hown, hts, hlk, hrm, hK, hA, hRO⟩ := B
  intro _ _ _ _ ad H locs L hR he ho1 ho2 hl kk
  have hws : (wsOf cy ad m)[k]? = some (ad k, .inl (cy t, n, .inr (.inr (.inr (.inr (fun i => (mR m k i).map ad)))))) := by rw [wsOf_get ho2.tail.head, cellW_refs hk ht9]
  refine va_aldq hx hb hK hR.1 k t0 hws (ht cy) hi hd ?_
  have e1 : va_rf ((mR m k i.toNatClampNeg).map ad) = .ref (ad j) := by rw [hr]; rfl
  rw [e1]
  exact kk ad H locs L hR he ho1 (okl.cons (hR.2.2.2 k _ j ho2.tail.head hr) ho2.tail.tail) hl
theorem go_alen {k n t t0 : Nat} {ty : FieldType} (hk : mK m k = (t, n)) (ht7 : 7 ≤ t) (ht : ∀ cy : Nat → ClassId, (tysOf cy)[t0]? = some (cy t, ty)) (hd : decode cc pc = .ok (.arraylength, 1)) : Go sp (cc, nL, own, d, ini) m pc ls (.ref k :: st) m (pc + 1) ls (.int (Int32.ofNat n) :: st) := by
  refine ⟨Gr.rf, ?_⟩
  intro b B
  obtain ⟨p, l, e, R, s, mi, args, below, meth, c, D, cy, ro, A, n0, s0, ad0, Q⟩ := b
  obtain ⟨hx, hb, hml, hown, hts, hlk, hrm, hK, hA, hRO⟩ := B
  intro _ _ _ _ ad H locs L hR he ho1 ho2 hl kk
  have hk0 := kk ad H locs L hR he ho1 (okl.cons trivial ho2.tail) hl
  by_cases h9 : 9 ≤ t
  · have hws : (wsOf cy ad m)[k]? = some (ad k, .inl (cy t, n, .inr (.inr (.inr (.inr (fun i => (mR m k i).map ad)))))) := by rw [wsOf_get ho2.head, cellW_refs hk h9]
    exact va_alen hx hb hK hR.1 k t0 hws (ht cy) rfl hd hk0
  · have hws : (wsOf cy ad m)[k]? = some (ad k, .inl (cy t, n, .inl (mD m k))) := by
      rcases (show t = 7 ∨ t = 8 by omega) with rfl | rfl
      · rw [wsOf_get ho2.head, cellW_ints hk]
      · rw [wsOf_get ho2.head, cellW_bools hk]
    exact va_alen hx hb hK hR.1 k t0 hws (ht cy) rfl hd hk0
end HP
