/-! THE MEMORY: cells by numbers; a cell's kind (0 .. 6 an object of the class of that number, 7 int[], 8 boolean[], 9 Coin[], 10 Sheet[], 11 Text[]) and length, its ints, longs, references by place -/
abbrev Mem : Type := Nat × Nat × (Nat → Nat × Nat) × (Nat → Nat → Int32) × (Nat → Nat → Int64) × (Nat → Nat → Option Nat)
def mN (m : Mem) : Nat := m.1
def mS (m : Mem) : Nat := m.2.1
def mK (m : Mem) : Nat → Nat × Nat := m.2.2.1
def mD (m : Mem) : Nat → Nat → Int32 := m.2.2.2.1
def mL (m : Mem) : Nat → Nat → Int64 := m.2.2.2.2.1
def mR (m : Mem) : Nat → Nat → Option Nat := m.2.2.2.2.2
def up2 {α : Type} (f : Nat → Nat → α) (k i : Nat) (v : α) : Nat → Nat → α := fun k' i' => if k' = k ∧ i' = i then v else f k' i'
def wD (m : Mem) (k i : Nat) (v : Int32) : Mem := (mN m, mS m, mK m, up2 (mD m) k i v, mL m, mR m)
def wL (m : Mem) (k i : Nat) (v : Int64) : Mem := (mN m, mS m, mK m, mD m, up2 (mL m) k i v, mR m)
def wR (m : Mem) (k i : Nat) (v : Option Nat) : Mem := (mN m, mS m, mK m, mD m, mL m, up2 (mR m) k i v)
/-- a whole row of ints anew -/
def wC (m : Mem) (k : Nat) (g : Nat → Int32) : Mem := (mN m, mS m, mK m, (fun k' i => if k' = k then g i else mD m k' i), mL m, mR m)
/-- one cell more -/
def mNew (m : Mem) (t len sl : Nat) : Mem := (mN m + 1, mS m + sl, va_up (mK m) (mN m) (t, len), (fun k i => if k = mN m then 0 else mD m k i), (fun k i => if k = mN m then 0 else mL m k i), (fun k i => if k = mN m then none else mR m k i))
def mEmpty : Mem := (0, 0, (fun _ => (0, 0)), (fun _ _ => 0), (fun _ _ => 0), (fun _ _ => none))
theorem mN_wD (m k i v) : mN (wD m k i v) = mN m := rfl
theorem mS_wD (m k i v) : mS (wD m k i v) = mS m := rfl
theorem mK_wD (m k i v) : mK (wD m k i v) = mK m := rfl
theorem mR_wD (m k i v) : mR (wD m k i v) = mR m := rfl
theorem mL_wD (m k i v) : mL (wD m k i v) = mL m := rfl
theorem mD_wD (m k i v) (k' i' : Nat) : mD (wD m k i v) k' i' = if k' = k ∧ i' = i then v else mD m k' i' := rfl
theorem mN_wL (m k i v) : mN (wL m k i v) = mN m := rfl
theorem mS_wL (m k i v) : mS (wL m k i v) = mS m := rfl
theorem mK_wL (m k i v) : mK (wL m k i v) = mK m := rfl
theorem mR_wL (m k i v) : mR (wL m k i v) = mR m := rfl
theorem mD_wL (m k i v) : mD (wL m k i v) = mD m := rfl
theorem mL_wL (m k i v) (k' i' : Nat) : mL (wL m k i v) k' i' = if k' = k ∧ i' = i then v else mL m k' i' := rfl
theorem mN_wR (m k i v) : mN (wR m k i v) = mN m := rfl
theorem mS_wR (m k i v) : mS (wR m k i v) = mS m := rfl
theorem mK_wR (m k i v) : mK (wR m k i v) = mK m := rfl
theorem mD_wR (m k i v) : mD (wR m k i v) = mD m := rfl
theorem mL_wR (m k i v) : mL (wR m k i v) = mL m := rfl
theorem mR_wR (m k i v) (k' i' : Nat) : mR (wR m k i v) k' i' = if k' = k ∧ i' = i then v else mR m k' i' := rfl
theorem mN_wC (m k g) : mN (wC m k g) = mN m := rfl
theorem mS_wC (m k g) : mS (wC m k g) = mS m := rfl
theorem mK_wC (m k g) : mK (wC m k g) = mK m := rfl
theorem mR_wC (m k g) : mR (wC m k g) = mR m := rfl
theorem mL_wC (m k g) : mL (wC m k g) = mL m := rfl
theorem mD_wC (m k g) (k' i' : Nat) : mD (wC m k g) k' i' = if k' = k then g i' else mD m k' i' := rfl
/-- the shape is the same -/
def SameSh (m m' : Mem) : Prop := mN m' = mN m ∧ mS m' = mS m ∧ mK m' = mK m ∧ mR m' = mR m
theorem SameSh.rf {m : Mem} : SameSh m m := ⟨rfl, rfl, rfl, rfl⟩
theorem SameSh.tr {a b c : Mem} (h : SameSh a b) (g : SameSh b c) : SameSh a c := ⟨g.1.trans h.1, g.2.1.trans h.2.1, g.2.2.1.trans h.2.2.1, g.2.2.2.trans h.2.2.2⟩
theorem SameSh.d {m k i v} : SameSh m (wD m k i v) := ⟨rfl, rfl, rfl, rfl⟩
theorem SameSh.l {m k i v} : SameSh m (wL m k i v) := ⟨rfl, rfl, rfl, rfl⟩
theorem SameSh.c {m k g} : SameSh m (wC m k g) := ⟨rfl, rfl, rfl, rfl⟩
/-- it has grown (sp: its shape is the same) -/
def Gr (sp : Bool) (m m' : Mem) : Prop := mN m ≤ mN m' ∧ mS m ≤ mS m' ∧ (sp = true → SameSh m m')
theorem Gr.rf {sp : Bool} {m : Mem} : Gr sp m m := ⟨Nat.le_refl _, Nat.le_refl _, fun _ => SameSh.rf⟩
theorem Gr.tr {sp : Bool} {a b c : Mem} (h : Gr sp a b) (g : Gr sp b c) : Gr sp a c := ⟨Nat.le_trans h.1 g.1, Nat.le_trans h.2.1 g.2.1, fun z => (h.2.2 z).tr (g.2.2 z)⟩
theorem Gr.sh {sp : Bool} {m m' : Mem} (h : SameSh m m') : Gr sp m m' := ⟨Nat.le_of_eq h.1.symm, Nat.le_of_eq h.2.1.symm, fun _ => h⟩
theorem Gr.wk {sp sp' : Bool} {m m' : Mem} (h : Gr sp m m') (hs : sp' = true → sp = true) : Gr sp' m m' := ⟨h.1, h.2.1, fun z => h.2.2 (hs z)⟩
/-- no reference leads out -/
def Closed (m : Mem) : Prop := ∀ k i j, k < mN m → mR m k i = some j → j < mN m
theorem Closed.sh {m m' : Mem} (h : Closed m) (hs : SameSh m m') : Closed m' := fun k i j hk hr => by
  rw [hs.1] at hk ⊢; rw [hs.2.2.2] at hr; exact h k i j hk hr
/-! the cells as the kit's worlds have them -/
def tyC : Nat → Nat → FieldType := fun c => match c with
  | 0 => tyX0 | 1 => tyX1 | 2 => tyX2 | 3 => tyX3 | 4 => tyX4 | 5 => tyX5 | _ => tyX6
def nFC : Nat → Nat := fun c => match c with
  | 0 => 6 | 1 => 5 | 2 => 3 | 3 => 8 | 4 => 3 | 5 => 11 | _ => 38
def fv (ty : FieldType) (ad : Nat → Nat) (m : Mem) (k i : Nat) : Value := match ty with
  | .long => .long (mL m k i)
  | .object _ => va_rf ((mR m k i).map ad)
  | .array _ => va_rf ((mR m k i).map ad)
  | _ => .int (mD m k i)
def fvs (ad : Nat → Nat) (m : Mem) (k : Nat) : List Value := (List.range (nFC (mK m k).1)).map (fun i => fv (tyC (mK m k).1 i) ad m k i)
def cellW (cy : Nat → ClassId) (ad : Nat → Nat) (m : Mem) (k : Nat) : va_E :=
  if (mK m k).1 < 7 then .inr ((mK m k).1, fvs ad m k)
  else if (mK m k).1 < 9 then .inl (cy (mK m k).1, (mK m k).2, .inl (mD m k))
  else .inl (cy (mK m k).1, (mK m k).2, .inr (.inr (.inr (.inr (fun i => (mR m k i).map ad)))))
def wsOf (cy : Nat → ClassId) (ad : Nat → Nat) (m : Mem) : va_W := (List.range (mN m)).map (fun k => (ad k, cellW cy ad m k))
def tysOf (cy : Nat → ClassId) : List (ClassId × FieldType) := [(cy 7, .int), (cy 8, .boolean), (cy 9, .object RX0), (cy 10, .object RX2), (cy 11, .object RX4)]
theorem wsOf_get {cy : Nat → ClassId} {ad : Nat → Nat} {m : Mem} {k : Nat} (h : k < mN m) : (wsOf cy ad m)[k]? = some (ad k, cellW cy ad m k) := by
  simp [wsOf, h]
theorem wsOf_len {cy : Nat → ClassId} {ad : Nat → Nat} {m : Mem} : (wsOf cy ad m).length = mN m := by simp [wsOf]
theorem wsOf_at {cy : Nat → ClassId} {ad : Nat → Nat} {m : Mem} {k : Nat} {q : Nat × va_E} (h : (wsOf cy ad m)[k]? = some q) : k < mN m ∧ q = (ad k, cellW cy ad m k) := by
  have hk : k < mN m := by
    have := (List.getElem?_eq_some_iff.mp h).1
    rwa [wsOf_len] at this
  rw [wsOf_get hk] at h
  exact ⟨hk, (Option.some.inj h).symm⟩
theorem wsOf_set {cy : Nat → ClassId} {ad : Nat → Nat} {m m' : Mem} {k : Nat} {e : va_E} (hk : k < mN m) (hn : mN m' = mN m) (he : cellW cy ad m' k = e) (ho : ∀ k', k' ≠ k → cellW cy ad m' k' = cellW cy ad m k') :
    (wsOf cy ad m).set k (ad k, e) = wsOf cy ad m' := by
  subst he
  apply List.ext_getElem?
  intro j
  by_cases hj : j = k
  · subst hj
    rw [List.getElem?_set_self (by rw [wsOf_len]; exact hk), wsOf_get (by rw [hn]; exact hk)]
  · rw [List.getElem?_set_ne (Ne.symm hj)]
    by_cases hl : j < mN m
    · rw [wsOf_get hl, wsOf_get (by rw [hn]; exact hl), ho j hj]
    · rw [List.getElem?_eq_none (by rw [wsOf_len]; omega), List.getElem?_eq_none (by rw [wsOf_len, hn]; omega)]
theorem fvs_get {ad : Nat → Nat} {m : Mem} {k i : Nat} (h : i < nFC (mK m k).1) : (fvs ad m k)[i]? = some (fv (tyC (mK m k).1 i) ad m k i) := by
  simp [fvs, h]
theorem fvs_len {ad : Nat → Nat} {m : Mem} {k : Nat} : (fvs ad m k).length = nFC (mK m k).1 := by simp [fvs]
theorem fvs_set {ad : Nat → Nat} {m m' : Mem} {k i : Nat} {v : Value} (hk : mK m' k = mK m k) (hv : fv (tyC (mK m k).1 i) ad m' k i = v) (ho : ∀ j, j ≠ i → fv (tyC (mK m k).1 j) ad m' k j = fv (tyC (mK m k).1 j) ad m k j) :
    (fvs ad m k).set i v = fvs ad m' k := by
  subst hv
  apply List.ext_getElem?
  intro j
  by_cases hl : j < nFC (mK m k).1
  · by_cases hj : j = i
    · subst hj
      rw [List.getElem?_set_self (by rw [fvs_len]; exact hl), fvs_get (by rw [hk]; exact hl), hk]
    · rw [List.getElem?_set_ne (Ne.symm hj), fvs_get hl, fvs_get (by rw [hk]; exact hl), hk, ho j hj]
  · rw [List.getElem?_eq_none (by rw [List.length_set, fvs_len]; omega), List.getElem?_eq_none (by rw [fvs_len, hk]; omega)]
/-- cells that nobody touched are as they were -/
theorem cellW_congr {cy : Nat → ClassId} {ad ad' : Nat → Nat} {m m' : Mem} {k : Nat} (hk : mK m' k = mK m k) (hd : mD m' k = mD m k) (hl : mL m' k = mL m k) (hr : ∀ i, (mR m' k i).map ad' = (mR m k i).map ad) : cellW cy ad' m' k = cellW cy ad m k := by
  have hf : fvs ad' m' k = fvs ad m k := by
    unfold fvs
    rw [hk]
    apply List.map_congr_left
    intro i _
    unfold fv
    rw [hd, hl, hr i]
  unfold cellW
  rw [hk, hf, hd]
  have e : (fun i => (mR m' k i).map ad') = fun i => (mR m k i).map ad := funext hr
  rw [e]
theorem cellW_obj {cy : Nat → ClassId} {ad : Nat → Nat} {m : Mem} {k ci n : Nat} (h : mK m k = (ci, n)) (hc : ci < 7) : cellW cy ad m k = .inr (ci, fvs ad m k) := by
  unfold cellW; rw [h]; simp [hc]
theorem cellW_ints {cy : Nat → ClassId} {ad : Nat → Nat} {m : Mem} {k n : Nat} (h : mK m k = (7, n)) : cellW cy ad m k = .inl (cy 7, n, .inl (mD m k)) := by
  unfold cellW; rw [h]; simp
theorem cellW_bools {cy : Nat → ClassId} {ad : Nat → Nat} {m : Mem} {k n : Nat} (h : mK m k = (8, n)) : cellW cy ad m k = .inl (cy 8, n, .inl (mD m k)) := by
  unfold cellW; rw [h]; simp
theorem cellW_refs {cy : Nat → ClassId} {ad : Nat → Nat} {m : Mem} {k t n : Nat} (h : mK m k = (t, n)) (ht : 9 ≤ t) : cellW cy ad m k = .inl (cy t, n, .inr (.inr (.inr (.inr (fun i => (mR m k i).map ad))))) := by
  unfold cellW; rw [h]; simp [show ¬ t < 7 by omega, show ¬ t < 9 by omega]
theorem wsOf_push {cy : Nat → ClassId} {ad : Nat → Nat} {m : Mem} {t len sl q : Nat} (hc : Closed m) :
    wsOf cy (va_up ad (mN m) q) (mNew m t len sl) = wsOf cy ad m ++ [(q, cellW cy (va_up ad (mN m) q) (mNew m t len sl) (mN m))] := by
  apply List.ext_getElem?
  intro j
  by_cases hj : j < mN m
  · rw [wsOf_get (show j < mN (mNew m t len sl) from Nat.lt_succ_of_lt hj), List.getElem?_append_left (by rw [wsOf_len]; exact hj), wsOf_get hj]
    have hne : j ≠ mN m := Nat.ne_of_lt hj
    have e1 : va_up ad (mN m) q j = ad j := by simp [va_up, hne]
    rw [e1, cellW_congr (m := m) (ad := ad)]
    · show va_up (mK m) (mN m) (t, len) j = _
      simp [va_up, hne]
    · funext i; show (if j = mN m then 0 else mD m j i) = _; rw [if_neg hne]
    · funext i; show (if j = mN m then 0 else mL m j i) = _; rw [if_neg hne]
    · intro i
      show Option.map _ (if j = mN m then none else mR m j i) = _
      rw [if_neg hne]
      cases hr : mR m j i with
      | none => rfl
      | some x =>
        have : x < mN m := hc j i x hj hr
        simp [va_up, Nat.ne_of_lt this]
  · by_cases he : j = mN m
    · subst he
      rw [wsOf_get (show mN m < mN (mNew m t len sl) from Nat.lt_succ_self _), List.getElem?_append_right (by rw [wsOf_len]; omega), wsOf_len, Nat.sub_self]
      simp [va_up]
    · rw [List.getElem?_eq_none (by rw [wsOf_len]; show mN m + 1 ≤ j; omega), List.getElem?_eq_none (by rw [List.length_append, wsOf_len]; simp; omega)]
theorem Closed.new {m : Mem} {t len sl : Nat} (h : Closed m) : Closed (mNew m t len sl) := by
  intro k i j hk hr
  change (if k = mN m then none else mR m k i) = some j at hr
  by_cases e : k = mN m
  · rw [if_pos e] at hr; cases hr
  · rw [if_neg e] at hr
    exact Nat.lt_succ_of_lt (h k i j (Nat.lt_of_le_of_ne (Nat.le_of_lt_succ hk) e) hr)
theorem Closed.r {m : Mem} {k i j : Nat} (h : Closed m) (hj : j < mN m) : Closed (wR m k i (some j)) := by
  intro k' i' j' hk hr
  rw [mR_wR] at hr
  by_cases e : k' = k ∧ i' = i
  · rw [if_pos e] at hr; cases hr; exact hj
  · rw [if_neg e] at hr; exact h k' i' j' hk hr
/-! values with cell numbers in the place of addresses; .retAddr k stands for what is only read -/
def ren (ad : Nat → Nat) (ro : Nat → Value) : Value → Value
  | .ref k => .ref (ad k)
  | .retAddr k => ro k
  | v => v
def okv (n : Nat) : Value → Prop
  | .ref k => k < n
  | _ => True
def okl (n : Nat) (l : List Value) : Prop := ∀ v ∈ l, okv n v
theorem okv.mono {n n' : Nat} {v : Value} (h : okv n v) (hn : n ≤ n') : okv n' v := by
  cases v with
  | ref k => exact Nat.lt_of_lt_of_le h hn
  | _ => trivial
theorem okl.mono {n n' : Nat} {l : List Value} (h : okl n l) (hn : n ≤ n') : okl n' l := fun v hv => (h v hv).mono hn
theorem okl.nil {n : Nat} : okl n [] := fun _ h => by cases h
theorem okl.cons {n : Nat} {v : Value} {l : List Value} (hv : okv n v) (h : okl n l) : okl n (v :: l) := fun w hw => by
  rcases List.mem_cons.mp hw with rfl | hw
  · exact hv
  · exact h w hw
theorem okl.tail {n : Nat} {v : Value} {l : List Value} (h : okl n (v :: l)) : okl n l := fun w hw => h w (List.mem_cons_of_mem _ hw)
theorem okl.head {n : Nat} {v : Value} {l : List Value} (h : okl n (v :: l)) : okv n v := h v List.mem_cons_self
theorem okl.app {n : Nat} {a b : List Value} (ha : okl n a) (hb : okl n b) : okl n (a ++ b) := fun w hw => by
  rcases List.mem_append.mp hw with h | h
  · exact ha w h
  · exact hb w h
theorem ren_ext {ad ad' : Nat → Nat} {ro : Nat → Value} {n : Nat} {v : Value} (h : okv n v) (e : ∀ k, k < n → ad' k = ad k) : ren ad' ro v = ren ad ro v := by
  cases v <;> simp_all [ren, okv]
theorem renl_ext {ad ad' : Nat → Nat} {ro : Nat → Value} {n : Nat} {l : List Value} (h : okl n l) (e : ∀ k, k < n → ad' k = ad k) : l.map (ren ad' ro) = l.map (ren ad ro) :=
  List.map_congr_left fun v hv => ren_ext (h v hv) e
/-- the locals as the kit has them: what is set, by place -/
def lvs (ad : Nat → Nat) (ro : Nat → Value) (ls : List Value) : List (Nat × Value) := (List.range ls.length).filterMap (fun i => match ls[i]? with
  | some Value.null => none
  | some v => some (i, ren ad ro v)
  | none => none)
theorem lvs_mem {ad : Nat → Nat} {ro : Nat → Value} {ls : List Value} {q : Nat × Value} : q ∈ lvs ad ro ls ↔ ∃ v, ls[q.1]? = some v ∧ v ≠ .null ∧ q.2 = ren ad ro v := by
  constructor
  · intro h
    obtain ⟨i, -, hi⟩ := List.mem_filterMap.mp h
    revert hi
    cases hv : ls[i]? with
    | none => intro hi; cases hi
    | some v => cases v <;> intro hi <;> first | (cases hi; done) | (cases hi; exact ⟨_, hv, (by intro z; cases z), rfl⟩)
  · rintro ⟨v, h1, h2, h3⟩
    refine List.mem_filterMap.mpr ⟨q.1, List.mem_range.mpr (List.getElem?_eq_some_iff.mp h1).1, ?_⟩
    rw [h1]
    cases v <;> first | exact absurd rfl h2 | (simp only; rw [← h3])
theorem lvs_at {ad : Nat → Nat} {ro : Nat → Value} {L : Array Slot} {nL : Nat} {ls : List Value} {i : Nat} {v : Value} (h : lv_has L nL (lvs ad ro ls)) (hi : ls[i]? = some v) (hv : v ≠ .null) : L[i]? = some (.val (ren ad ro v)) :=
  h.2.2 (i, ren ad ro v) (lvs_mem.mpr ⟨v, hi, hv, rfl⟩)
theorem lvs_ext {ad ad' : Nat → Nat} {ro : Nat → Value} {n : Nat} {ls : List Value} {L : Array Slot} {nL : Nat} (h : lv_has L nL (lvs ad ro ls)) (ho : okl n ls) (e : ∀ k, k < n → ad' k = ad k) : lv_has L nL (lvs ad' ro ls) := by
  refine ⟨h.1, h.2.1, fun q hq => ?_⟩
  obtain ⟨v, h1, h2, h3⟩ := lvs_mem.mp hq
  rw [h3, ren_ext (ho v (List.mem_of_getElem? h1)) e]
  exact lvs_at h h1 h2
/-- a store of one slot: what lay there, and a long that it cuts, is gone -/
def killJ (ls : List Value) (j : Nat) : List Value := match ls[j]? with
  | some (Value.long _) => ls.set j .null
  | some (Value.double _) => ls.set j .null
  | _ => ls
def killP (ls : List Value) (i : Nat) : List Value := match i with
  | 0 => ls
  | j + 1 => killJ ls j
def stl (ls : List Value) (i : Nat) (v : Value) : List Value := (killP ls i).set i v
def stl2 (ls : List Value) (i : Nat) (v : Value) : List Value := ((killP ls i).set i v).set (i + 1) .null
