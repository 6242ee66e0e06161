/-! WHAT IS ONLY READ: tables of ints (1 LEAST, 2 MOST, 3 UNDER), the script (0), the two texts (4, 5) and their bytes (6, 7), Preconditions' formatter (8: a reference or null); and what the tables say of nest mates and arrays of references -/
def fLEAST : Nat → Int32 := fun j => if j = 2 then 1 else 0
def fMOST : Nat → Int32 := fun j => match j with | 0 => 999 | 1 => 9 | 2 => 99 | 3 => 9 | 4 => 999 | 5 => 3 | _ => 5
def fUNDER : Nat → Int32 := fun j => match j with | 0 => -1 | 1 => 0 | 2 => 0 | 3 => 1 | 4 => 2 | _ => 0
/-- a static table of ints -/
def roT (n : String) (N : Nat) (f : Nat → Int32) (v : Value) (A : Nat → Prop) (U : State) : Prop := ∃ t, v = .ref t ∧ va_Z RX5 n "[I" (.ref t) A U U.heap ∧ va_T .int t N (fun j => .int (f j)) A U U.heap
/-- the words that don't last as words -/
def nw : List Cond := [Cond.methodLinkNest RX5 17 yX3_init RX5, Cond.methodLinkNest RX1 17 yX0_init RX5, Cond.methodLinkNest RX5 41 yX0_init RX5, Cond.methodLinkNest RX5 50 yX2_init RX5, Cond.methodLinkNest RX3 70 yX5_isBetween RX5, Cond.castable "[I" "java/lang/Cloneable"]
def txt0 : String := "turns 7 ; gives first * 5 ; spoils 2 ;"
def txt1 : String := "value first number age owner day turns gives spoils or and not "
def tlen : List Nat := [38, 63]
def tbyt : List (List Int32) := [txt0.toList.map (fun c => Int32.ofNat c.toNat), txt1.toList.map (fun c => Int32.ofNat c.toNat)]
def RO (ro : Nat → Value) (A : Nat → Prop) (U : State) : Prop :=
  (∀ k, ro k = .null ∨ ∃ a, ro k = .ref a) ∧ (∀ w ∈ nw, va_Nw w U) ∧ (va_AO RX0 U ∧ va_AO RX2 U ∧ va_AO RX4 U)
  ∧ (roT "LEAST" 7 fLEAST (ro 1) A U ∧ roT "MOST" 7 fMOST (ro 2) A U ∧ roT "UNDER" 6 fUNDER (ro 3) A U)
  ∧ (∃ adK adV : Nat → Nat, vk_S 2 tlen tbyt adK adV A U U.heap ∧ ro 4 = .ref (adK 0) ∧ ro 5 = .ref (adK 1) ∧ ro 6 = .ref (adV 0) ∧ ro 7 = .ref (adV 1) ∧ vk_R RX5 51 txt0 (adK 0) U ∧ vk_R RX3 88 txt1 (adK 1) U)
  ∧ va_Z "java/lang/String" "COMPACT_STRINGS" "Z" (.int 1) A U U.heap ∧ va_Z "jdk/internal/util/Preconditions" "SIOOBE_FORMATTER" "Ljava/util/function/BiFunction;" (ro 8) A U U.heap
theorem nw_warm {s U : State} (hW : s.WarmedH U.vm) (h : ∀ w ∈ nw, va_Nw w s) : ∀ w ∈ nw, va_Nw w U := by
  intro w hw
  have h0 := h w hw
  simp only [nw, List.mem_cons, List.not_mem_nil, or_false] at hw
  rcases hw with rfl | rfl | rfl | rfl | rfl | rfl <;> first | exact va_Nw.warmM hW h0 | exact va_Nw.warmC hW h0
theorem roT.go {n : String} {N : Nat} {f : Nat → Int32} {v : Value} {A B : Nat → Prop} {s U : State} (h : roT n N f v A s) (hv : s.vm.Alike U.vm) (hq : ∀ a : Nat, a < s.heap.size → ¬ A a → U.heap[a]? = s.heap[a]?) (hAB : ∀ q, B q → A q) : roT n N f v B U := by
  obtain ⟨t, h1, h2, h3⟩ := h
  exact ⟨t, h1, ((h2.moved hv).kept hq).narrow hAB, ((h3.moved hv).kept hq).narrow hAB⟩
/-- from a method's start to the start of one that it calls -/
theorem RO.go {ro : Nat → Value} {A B : Nat → Prop} {s U : State} (h : RO ro A s) (hW : s.WarmedH U.vm) (hq : ∀ a : Nat, a < s.heap.size → ¬ A a → U.heap[a]? = s.heap[a]?) (hAB : ∀ q, B q → A q) : RO ro B U := by
  obtain ⟨h0, h1, ⟨h2, h3, h4⟩, ⟨h5, h6, h7⟩, ⟨adK, adV, h8, e4, e5, e6, e7, h9, h10⟩, h11, h12⟩ := h
  have hv := hW.alike
  exact ⟨h0, nw_warm hW h1, ⟨h2.moved hv, h3.moved hv, h4.moved hv⟩, ⟨h5.go hv hq hAB, h6.go hv hq hAB, h7.go hv hq hAB⟩, ⟨adK, adV, ((h8.moved hv).kept hq).narrow hAB, e4, e5, e6, e7, h9.warm hW, h10.warm hW⟩, ((h11.moved hv).kept hq).narrow hAB, ((h12.moved hv).kept hq).narrow hAB⟩
theorem RO.calling {ro : Nat → Value} {A : Nat → Prop} {U : State} {g : JFrame} {mk : MethodId} {a : Array Value} (h : RO ro A U) : RO ro A (U.calling g mk a) := by
  obtain ⟨h0, h1, ⟨h2, h3, h4⟩, ⟨h5, h6, h7⟩, ⟨adK, adV, h8, e4, e5, e6, e7, h9, h10⟩, h11, h12⟩ := h
  have hv : U.vm.Alike (U.calling g mk a).vm := Vm.Alike.refl U.vm
  have hq : ∀ a' : Nat, a' < U.heap.size → ¬ A a' → (U.calling g mk a).heap[a']? = U.heap[a']? := fun _ _ _ => rfl
  refine ⟨h0, fun w hw => ?_, ⟨h2.moved hv, h3.moved hv, h4.moved hv⟩, ⟨h5.go hv hq fun _ h => h, h6.go hv hq fun _ h => h, h7.go hv hq fun _ h => h⟩, ⟨adK, adV, (h8.moved hv).kept hq, e4, e5, e6, e7, vk_R.same rfl h9, vk_R.same rfl h10⟩, (h11.moved hv).kept hq, (h12.moved hv).kept hq⟩
  have hw0 := h1 w hw
  simp only [nw, List.mem_cons, List.not_mem_nil, or_false] at hw
  rcases hw with rfl | rfl | rfl | rfl | rfl | rfl <;> exact va_tabs (u := U) rfl rfl hw0
/-! A BODY THAT RUNS: machine, launch, environment, room, start, method, arguments, frames below, the method's record and code; class numbers, array classes, what is read, what may change; the memory's counts and addresses at the start; the end -/
abbrev BT : Type := Program × Launch × Env × Room × State × MethodId × Array Value × List Frame × Method × Code × va_G × (Nat → ClassId) × (Nat → Value) × (Nat → Prop) × Nat × Nat × (Nat → Nat) × (State → Prop)
/-- a constructor; a body that reads the script of L ints xs (.retAddr 0) -/
abbrev IK : Type := Bool × Option (Nat × (Nat → Int32))
/-- the code, its locals, its class, the frames it may nest, what it is -/
abbrev KT : Type := ByteArray × Nat × String × Nat × IK
def BOK (κ : KT) (b : BT) : Prop := match κ, b with
  | (cc, nL, own, d, ini), (p, _, _, R, s, mi, args, _, meth, c, D, cy, ro, A, _, _, _, _) => p.tables.exec = Jvm.exec ∧ c.code = cc ∧ c.maxLocals = nL ∧ s.vm.findClass own = some mi.cls ∧ (∀ w ∈ gtbl, w.before args s = true) ∧ (meth.locks = false ∧ (ini.1 = true → meth.name = "<init>") ∧ ∀ q, ini.2 = some q → ∃ t, ro 0 = .ref t ∧ va_X t q.1 q.2 s s.heap ∧ t < s.heap.size ∧ ¬ A t) ∧ (d ≤ R.frames ∧ 40 * d ≤ R.locals) ∧ va_K D vwCl (tysOf cy) s ∧ (∀ q, s.heap.size ≤ q → A q) ∧ RO ro A s
def RelM (D : va_G) (cy : Nat → ClassId) (A : Nat → Prop) (s : State) (m : Mem) (ad : Nat → Nat) (H : Heap) (locs : List Loc) : Prop := va_P D vwCl (wsOf cy ad m) H ∧ va_D A (wsOf cy ad m) ∧ va_S A s.heap H locs ∧ Closed m
/-- one step, or several: from (m, pc, ls, st) to (m', pc', ls', st') -/
def GoB (b : BT) (m : Mem) (pc : Nat) (ls st : List Value) (m' : Mem) (pc' : Nat) (ls' st' : List Value) : Prop := match b with
  | (p, l, e, R, s, mi, args, below, meth, c, D, cy, ro, A, n0, s0, ad0, Q) => n0 ≤ mN m → s0 ≤ mS m → mN m' ≤ n0 + R.cells → mS m' ≤ s0 + R.slots →
    ∀ (ad : Nat → Nat) (H : Heap) (locs : List Loc) (L : Array Slot), RelM D cy A s m ad H locs → (∀ k, k < n0 → ad k = ad0 k) → okl (mN m) ls → okl (mN m) st → lv_has L c.maxLocals (lvs ad ro ls) →
    (∀ (ad' : Nat → Nat) (H' : Heap) (locs' : List Loc) (L' : Array Slot), RelM D cy A s m' ad' H' locs' → (∀ k, k < n0 → ad' k = ad0 k) → okl (mN m') ls' → okl (mN m') st' → lv_has L' c.maxLocals (lvs ad' ro ls') →
      W p l e R s mi args below meth c H' locs' (mN m' - n0) (mS m' - s0) Q (F0 mi pc' L' (st'.map (ren ad' ro)))) →
    W p l e R s mi args below meth c H locs (mN m - n0) (mS m - s0) Q (F0 mi pc L (st.map (ren ad ro)))
def Go (sp : Bool) (κ : KT) (m : Mem) (pc : Nat) (ls st : List Value) (m' : Mem) (pc' : Nat) (ls' st' : List Value) : Prop := Gr sp m m' ∧ ∀ b, BOK κ b → GoB b m pc ls st m' pc' ls' st'
/-- the machine goes on from here to its end -/
def Ju (b : BT) (m : Mem) (pc : Nat) (ls st : List Value) : Prop := match b with
  | (p, l, e, R, s, mi, args, below, meth, c, D, cy, ro, A, n0, s0, ad0, Q) => n0 ≤ mN m → s0 ≤ mS m →
    ∀ (ad : Nat → Nat) (H : Heap) (locs : List Loc) (L : Array Slot), RelM D cy A s m ad H locs → (∀ k, k < n0 → ad k = ad0 k) → okl (mN m) ls → okl (mN m) st → lv_has L c.maxLocals (lvs ad ro ls) →
    W p l e R s mi args below meth c H locs (mN m - n0) (mS m - s0) Q (F0 mi pc L (st.map (ren ad ro)))
/-- the return with rv at memory mE comes to the end -/
def RetOK (b : BT) (ri : Instr) (rv : Option Value) (mE : Mem) : Prop := match b with
  | (p, l, e, R, s, mi, args, below, meth, c, D, cy, ro, A, n0, s0, ad0, Q) => n0 ≤ mN mE → s0 ≤ mS mE →
    ∀ (ad : Nat → Nat) (H : Heap) (locs : List Loc) (L : Array Slot) (pc : Nat), RelM D cy A s mE ad H locs → (∀ k, k < n0 → ad k = ad0 k) → okl (mN mE) rv.toList → decode c.code pc = .ok (ri, 1) →
    W p l e R s mi args below meth c H locs (mN mE - n0) (mS mE - s0) Q (F0 mi pc L (rv.toList.map (ren ad ro)))
def RoomOK (b : BT) (mE : Mem) : Prop := match b with
  | (_, _, _, R, _, _, _, _, _, _, _, _, _, _, n0, s0, _, _) => mN mE ≤ n0 + R.cells ∧ mS mE ≤ s0 + R.slots
/-- what f says is what the body does from here on -/
def Cv {α : Type} (sp : Bool) (κ : KT) (ri : Instr) (enc : α → Option Value) (f : Option (α × Mem)) (m : Mem) (pc : Nat) (ls st : List Value) : Prop :=
  ∀ (v : α) (mE : Mem), f = some (v, mE) → Gr sp m mE ∧ ∀ b, BOK κ b → RetOK b ri (enc v) mE → RoomOK b mE → Ju b m pc ls st
section CV
variable {α β : Type} {sp : Bool} {κ : KT} {ri : Instr} {enc : α → Option Value} {f g : Option (α × Mem)} {m m' : Mem} {pc pc' : Nat} {ls ls' st st' : List Value}
theorem Cv.go (h : Go sp κ m pc ls st m' pc' ls' st') (k : Cv sp κ ri enc f m' pc' ls' st') : Cv sp κ ri enc f m pc ls st := by
  intro v mE hf
  obtain ⟨k1, k2⟩ := k v mE hf
  refine ⟨h.1.tr k1, fun b B hr ho => ?_⟩
  have k3 := k2 b B hr ho
  obtain ⟨g1, h2⟩ := h
  have h2 := h2 b B
  obtain ⟨p, l, e, R, s, mi, args, below, meth, c, D, cy, ro, A, n0, s0, ad0, Q⟩ := b
  intro hn hs ad H locs L hR he ho1 ho2 hl
  exact h2 hn hs (Nat.le_trans k1.1 ho.1) (Nat.le_trans k1.2.1 ho.2) ad H locs L hR he ho1 ho2 hl (fun ad' H' locs' L' a1 a2 a3 a4 a5 => k3 (Nat.le_trans hn g1.1) (Nat.le_trans hs g1.2.1) ad' H' locs' L' a1 a2 a3 a4 a5)
theorem Cv.ite {cnd : Prop} {dec : Decidable cnd} (h1 : cnd → Cv sp κ ri enc f m pc ls st) (h2 : ¬ cnd → Cv sp κ ri enc g m pc ls st) : Cv sp κ ri enc (if cnd then f else g) m pc ls st := by
  intro v mE hf
  by_cases hc : cnd
  · rw [if_pos hc] at hf; exact h1 hc v mE hf
  · rw [if_neg hc] at hf; exact h2 hc v mE hf
theorem Cv.no : Cv sp κ ri enc none m pc ls st := fun v mE h => by cases h
theorem Cv.of (h : f = g) (k : Cv sp κ ri enc g m pc ls st) : Cv sp κ ri enc f m pc ls st := by rw [h]; exact k
end CV
/-- a guard -/
noncomputable def gIf {α : Type} (p : Prop) (x : Option α) : Option α := @ite _ p (Classical.propDecidable p) x none
theorem gIf_pos {α : Type} {p : Prop} {x : Option α} (h : p) : gIf p x = x := by unfold gIf; exact if_pos h
/-- a reference that must be there -/
def gRef {α : Type} (r : Option Nat) (k : Nat → Option α) : Option α := match r with
  | some q => k q
  | none => none
theorem gRef_some {α : Type} {r : Option Nat} {q : Nat} {k : Nat → Option α} (h : r = some q) : gRef r k = k q := by rw [h]; rfl
/-- a value with a name -/
def nm {α β : Type} (e : α) (k : α → β) : β := k e
theorem nm_eq {α β : Type} (e : α) (k : α → β) : nm e k = k e := rfl
section CV2
variable {α β : Type} {sp : Bool} {κ : KT} {ri : Instr} {enc : α → Option Value} {f : Option (α × Mem)} {m : Mem} {pc : Nat} {ls st : List Value}
theorem Cv.gif {p : Prop} (h : p → Cv sp κ ri enc f m pc ls st) : Cv sp κ ri enc (gIf p f) m pc ls st := by
  intro v mE hf
  by_cases hp : p
  · rw [gIf_pos hp] at hf; exact h hp v mE hf
  · unfold gIf at hf; rw [if_neg hp] at hf; cases hf
theorem Cv.gref {r : Option Nat} {k : Nat → Option (α × Mem)} (h : ∀ q, r = some q → Cv sp κ ri enc (k q) m pc ls st) : Cv sp κ ri enc (gRef r k) m pc ls st := by
  cases hr : r with
  | none => exact Cv.no
  | some q => exact h q hr
theorem Cv.nam {e : β} {k : β → Option (α × Mem)} (h : ∀ x, x = e → Cv sp κ ri enc (k x) m pc ls st) : Cv sp κ ri enc (nm e k) m pc ls st := h e rfl
theorem Cv.bind {F : Option (β × Mem)} {k : β × Mem → Option (α × Mem)} (h : ∀ v m1, F = some (v, m1) → Cv sp κ ri enc (k (v, m1)) m pc ls st) : Cv sp κ ri enc (F.bind k) m pc ls st := by
  cases hF : F with
  | none => exact Cv.no
  | some q => exact h q.1 q.2 hF
end CV2
