/-! a method's beginning and end -/
def sprd : List Value → List Value
  | [] => []
  | v :: vs => if v.category = 2 then v :: .null :: sprd vs else v :: sprd vs
theorem ren_cat2 {ad : Nat → Nat} {ro : Nat → Value} (hro : ∀ k, ro k = .null ∨ ∃ a, ro k = .ref a) (v : Value) : (ren ad ro v).category = v.category := by
  cases v with
  | retAddr k =>
    show (ro k).category = 1
    rcases hro k with h | ⟨a, h⟩ <;> rw [h] <;> rfl
  | _ => rfl
theorem sprd_args {ad : Nat → Nat} {ro : Nat → Value} (hro : ∀ k, ro k = .null ∨ ∃ a, ro k = .ref a) (r : Nat) : ∀ (av : List Value) (i j : Nat) (v : Value), (sprd av ++ List.replicate r .null)[j]? = some v → v ≠ .null → (i + j, ren ad ro v) ∈ lv_args i (av.map (ren ad ro)) := by
  intro av
  induction av with
  | nil =>
    intro i j v h hv
    have := List.eq_of_mem_replicate (List.mem_of_getElem? (show (List.replicate r Value.null)[j]? = some v from h))
    exact absurd this hv
  | cons a av ih =>
    intro i j v h hv
    show _ ∈ (i, ren ad ro a) :: lv_args (if (ren ad ro a).category = 2 then i + 2 else i + 1) (av.map (ren ad ro))
    by_cases hc : a.category = 2
    · have hs : sprd (a :: av) = a :: .null :: sprd av := by simp [sprd, hc]
      rw [hs] at h
      rw [ren_cat2 hro, if_pos hc]
      match j with
      | 0 => cases h; exact List.mem_cons_self
      | 1 => cases h; exact absurd rfl hv
      | j + 2 =>
        have := ih (i + 2) j v h hv
        rw [show i + 2 + j = i + (j + 2) by omega] at this
        exact List.mem_cons_of_mem _ this
    · have hs : sprd (a :: av) = a :: sprd av := by simp [sprd, hc]
      rw [hs] at h
      rw [ren_cat2 hro, if_neg hc]
      match j with
      | 0 => cases h; exact List.mem_cons_self
      | j + 1 =>
        have := ih (i + 1) j v h hv
        rw [show i + 1 + j = i + (j + 1) by omega] at this
        exact List.mem_cons_of_mem _ this
theorem lg_sl_len (vs : List Value) : (lg_sl vs).length = (vs.map fun v => v.category).sum := by
  induction vs with
  | nil => rfl
  | cons v vs ih =>
    have e : lg_sl (v :: vs) = (if v.category = 2 then [Slot.val v, .second] else [.val v]) ++ lg_sl vs := rfl
    rw [e, List.length_append, ih, List.map_cons, List.sum_cons]
    rcases lv_cat v with h | h <;> rw [h] <;> simp
/-- the value that a method of that type answers with that instruction -/
def RetTy (ret : Option FieldType) (ri : Instr) (rv : Option Value) : Prop :=
  (∃ ty x, ret = some ty ∧ ri = .ireturn ∧ rv = some (.int x) ∧ narrow ty (.int x) = .int x) ∨ (∃ x, ret = some .long ∧ ri = .lreturn ∧ rv = some (.long x)) ∨ (∃ ty q, ret = some ty ∧ ((∃ n, ty = .object n) ∨ ∃ t, ty = .array t) ∧ ri = .areturn ∧ rv = some (.ref q)) ∨ (ret = none ∧ ri = .return_ ∧ rv = none)
def bz (v : Bool) : Int32 := if v then 1 else 0
theorem bz_t : bz true = 1 := rfl
theorem bz_f : bz false = 0 := rfl
abbrev eI : Int32 → Option Value := fun v => some (.int v)
abbrev eZ : Bool → Option Value := fun v => some (.int (bz v))
abbrev eL : Int64 → Option Value := fun v => some (.long v)
abbrev eR : Nat → Option Value := fun v => some (.ref v)
abbrev eV : Unit → Option Value := fun _ => none
theorem RetTy.i {v : Int32} : RetTy (some .int) .ireturn (eI v) := Or.inl ⟨_, _, rfl, rfl, rfl, rfl⟩
theorem RetTy.z {v : Bool} : RetTy (some .boolean) .ireturn (eZ v) := Or.inl ⟨_, _, rfl, rfl, rfl, by cases v <;> rfl⟩
theorem RetTy.l {v : Int64} : RetTy (some .long) .lreturn (eL v) := Or.inr (Or.inl ⟨_, rfl, rfl, rfl⟩)
theorem RetTy.o {v : Nat} {n : String} : RetTy (some (.object n)) .areturn (eR v) := Or.inr (Or.inr (Or.inl ⟨_, _, rfl, Or.inl ⟨_, rfl⟩, rfl, rfl⟩))
theorem RetTy.a {v : Nat} {t : FieldType} : RetTy (some (.array t)) .areturn (eR v) := Or.inr (Or.inr (Or.inl ⟨_, _, rfl, Or.inr ⟨_, rfl⟩, rfl, rfl⟩))
theorem RetTy.v {v : Unit} : RetTy none .return_ (eV v) := Or.inr (Or.inr (Or.inr ⟨rfl, rfl, rfl⟩))
theorem Cv.ret {α : Type} {sp : Bool} {ini : IK} {ri : Instr} {enc : α → Option Value} {v : α} {m : Mem} {pc : Nat} {ls st : List Value} {cc : ByteArray} {nL d : Nat} {own : String} (hd : decode cc pc = .ok (ri, 1)) (hst : st = (enc v).toList) : Cv sp (cc, nL, own, d, ini) ri enc (some (v, m)) m pc ls st := by
  subst hst
  intro v' mE h
  cases h
  refine ⟨Gr.rf, fun b B hr ho => ?_⟩
  obtain ⟨p, l, e, R, s, mi, args, below, meth, c, D, cy, ro, A, n0, s0, ad0, Q⟩ := b
  obtain ⟨hx, hb, -⟩ := B
  intro hn hs ad H locs L hR he ho1 ho2 hl
  exact hr hn hs ad H locs L pc hR he ho2 (by rw [hb]; exact hd)
set_option maxHeartbeats 1000000 in
theorem Con.of {α : Type} {sp ini : Bool} {k : MD} {d : Nat} {av ls0 : List Value} {m : Mem} {enc : α → Option Value} {ri : Instr} {f : Option (α × Mem)} (hp : plainName k.1.cls = true) (hini : ini = true → k.1.name = "<init>") (hls : ls0 = sprd av ++ List.replicate (k.2.2.1 - (sprd av).length) .null) (hcat : (av.map fun v => v.category).sum ≤ k.2.2.1) (hret : ∀ v mE, f = some (v, mE) → RetTy k.2.2.2 ri (enc v))
    (h : Cv sp (k.2.1, k.2.2.1, k.1.cls, d, (ini, none)) ri enc f m 0 ls0 []) (v : α) (mE : Mem) (hf : f = some (v, mE)) : Con sp k d av m (enc v) mE := by
  obtain ⟨hG, hJ⟩ := h v mE hf
  have hrt := hret v mE hf
  refine ⟨hG, fun l D cy ro ad sz => ?_⟩
  refine Met.ofW (cc := k.2.1) (maxL := k.2.2.1) (ret := k.2.2.2) hp rfl ?_
  intro p e s mi args below meth c s₁ B hml hv
  obtain ⟨rfl, hsz, hcl, hok, hP, hK, hD0, hRO⟩ := hv
  have hx := B.exec
  have hb := B.bytes
  have hr := B.returns
  have hts0 := atoms_spec (ws := wy k) B.pre
  have hts : ∀ w ∈ gtbl, w.before (av.map (ren ad ro)).toArray s = true := fun w hw => hts0 w (List.mem_cons_of_mem _ hw)
  have hown : s.vm.findClass k.1.cls = some mi.cls := findClass_of_methodNamed B.named
  have hlocks := B.notSynchronized
  have hnm : meth.name = k.1.name := (name_of_methodNamed B.named B.method).1
  subst hsz
  have hD := hD0.self (sz := s.heap.size)
  have hA : ∀ q : Nat, s.heap.size ≤ q → va_A (wsOf cy ad m) s.heap.size q := fun q h => Or.inr h
  have hS : va_S (va_A (wsOf cy ad m) s.heap.size) s.heap s.heap [] := va_S.rf
  have hlen : (lg_sl (av.map (ren ad ro))).length ≤ k.2.2.1 := by rw [lg_sl_len, renl_cat hRO.1]; exact hcat
  have hl := lv_entry (av.map (ren ad ro)) (n := k.2.2.1) hlen
  rw [lg_entry_eq]
  generalize (lg_sl (av.map (ren ad ro)) ++ List.replicate (k.2.2.1 - (lg_sl (av.map (ren ad ro))).length) Slot.unset).toArray = L at hl ⊢
  have hl : lv_has L c.maxLocals (lvs ad ro ls0) := by
    rw [hml]
    refine hl.mono fun q hq => ?_
    obtain ⟨v, h1, h2, h3⟩ := lvs_mem.mp hq
    rw [hls] at h1
    have := sprd_args (ad := ad) hRO.1 _ av 0 q.1 v h1 h2
    rw [Nat.zero_add] at this
    rw [show q = (q.1, ren ad ro v) from Prod.ext rfl h3]
    exact this
  have hols : okl (mN m) ls0 := by
    intro v hv
    by_cases hn : v = .null
    · subst hn; trivial
    · obtain ⟨j, hj⟩ := List.getElem?_of_mem hv
      rw [hls] at hj
      have hmem : v ∈ sprd av := by
        rcases List.mem_append.mp (List.mem_of_getElem? hj) with h | h
        · exact h
        · exact absurd (List.eq_of_mem_replicate h) hn
      have : ∀ (l : List Value), v ∈ sprd l → v ∈ l := by
        intro l
        induction l with
        | nil => intro h; exact h
        | cons a l ih =>
          intro h
          unfold sprd at h
          split at h
          · rcases List.mem_cons.mp h with rfl | h
            · exact List.mem_cons_self
            · rcases List.mem_cons.mp h with rfl | h
              · exact absurd rfl hn
              · exact List.mem_cons_of_mem _ (ih h)
          · rcases List.mem_cons.mp h with rfl | h
            · exact List.mem_cons_self
            · exact List.mem_cons_of_mem _ (ih h)
      exact hok v (this av hmem)
  have hJ := hJ (p, l, e, { frames := d, cells := mN mE - mN m, slots := mS mE - mS m, locals := 40 * d }, s, mi, (av.map (ren ad ro)).toArray, below, meth, c, D, cy, ro, va_A (wsOf cy ad m) s.heap.size, mN m, mS m, ad, MQ below (QcM D cy ro ad s.heap.size (enc v) m mE) (av.map (ren ad ro)).toArray s (mN mE - mN m) (mS mE - mS m) (va_A (wsOf cy ad m) s.heap.size))
    ⟨hx, hb, hml, hown, hts, ⟨hlocks, (fun z => by rw [hnm]; exact hini z), fun q hq => by cases hq⟩, ⟨Nat.le_refl _, Nat.le_refl _⟩, hK, hA, hRO⟩
  have hJ := hJ (by
    intro _ _ ad' H locs L' pc hR he hov hd
    obtain ⟨hP', hD', hS', hcl'⟩ := hR
    have hq : ∀ t : State, t.heap = H → s.WarmedH t.vm → QcM D cy ro ad s.heap.size (enc v) m mE (av.map (ren ad ro)).toArray s (.returned ((enc v).map (ren ad' ro))) t := fun t ht _ => ⟨⟨ad', rfl, he, hov, hcl', by rw [ht]; exact hP', hD'⟩, hS'.F ht⟩
    rcases hrt with ⟨ty, x, r1, r2, r3, r4⟩ | ⟨x, r1, r2, r3⟩ | ⟨ty, q, r1, r2, r3, r4⟩ | ⟨r1, r2, r3⟩
    · subst r2
      rw [r3] at hq ⊢
      exact W.zret hx rfl (hr.trans r1) r4 hq hS'.2.2 hd
    · subst r2
      rw [r3] at hq ⊢
      exact W.lret hx rfl (hr.trans r1) hq hS'.2.2 hd
    · subst r3
      rw [r4] at hq ⊢
      exact W.aret hx rfl (hr.trans r1) r2 (Or.inr ⟨_, rfl⟩) hq hS'.2.2 hd
    · subst r2
      rw [r3] at hq ⊢
      exact W.vret hx rfl (hr.trans r1) hq hS'.2.2 hd) ⟨by show mN mE ≤ mN m + (mN mE - mN m); omega, by show mS mE ≤ mS m + (mS mE - mS m); omega⟩
  have hW := hJ (Nat.le_refl _) (Nat.le_refl _) ad s.heap [] L ⟨hP, hD, hS, hcl⟩ (fun _ _ => rfl) hols okl.nil hl
  rw [Nat.sub_self, Nat.sub_self] at hW
  exact hW
