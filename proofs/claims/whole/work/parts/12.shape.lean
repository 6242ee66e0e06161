/-! WHERE THINGS LIE: the class's object 0 and what belongs to it; the reference's object 40 and its rows -/
def isS (m : Mem) (k : Nat) : Prop := mK m k = (2, 0) ∧ mR m k 2 = some (k + 1) ∧ mK m (k + 1) = (7, 40)
def isT (m : Mem) (k : Nat) : Prop := mK m k = (4, 0) ∧ mR m k 0 = some (k + 1) ∧ mR m k 1 = some (k + 2) ∧ mR m k 2 = some (k + 3) ∧ (mK m (k + 1)).1 = 7 ∧ mK m (k + 2) = (7, 3) ∧ mK m (k + 3) = mK m (k + 1)
theorem isS.sh {m m' : Mem} {k : Nat} (h : isS m k) (hs : SameSh m m') : isS m' k := by
  unfold isS at h ⊢; rw [hs.2.2.1, hs.2.2.2]; exact h
theorem isT.sh {m m' : Mem} {k : Nat} (h : isT m k) (hs : SameSh m m') : isT m' k := by
  unfold isT at h ⊢; rw [hs.2.2.1, hs.2.2.2]; exact h
theorem kA {m : Mem} {k t : Nat} (h : (mK m k).1 = t) : mK m k = (t, (mK m k).2) := Prod.ext h rfl
theorem kB {m : Mem} {k t n : Nat} (h : mK m k = (t, n)) : (mK m k).1 = t := by rw [h]
theorem isT_1 {m : Mem} {k : Nat} (h : isT m k) : mK m (k + 1) = (7, (mK m (k + 1)).2) := kA h.2.2.2.2.1
theorem isT_2 {m : Mem} {k : Nat} (h : isT m k) : mK m (k + 2) = (7, 3) := h.2.2.2.2.2.1
theorem isT_3 {m : Mem} {k : Nat} (h : isT m k) : mK m (k + 3) = (7, (mK m (k + 1)).2) := h.2.2.2.2.2.2.trans (isT_1 h)
theorem sk {m m' : Mem} {k : Nat} {x : Nat × Nat} (hs : SameSh m m') (h : mK m k = x) : mK m' k = x := by rw [hs.2.2.1]; exact h
theorem sk1 {m m' : Mem} {k x : Nat} (hs : SameSh m m') (h : (mK m k).1 = x) : (mK m' k).1 = x := by rw [hs.2.2.1]; exact h
theorem vp_lt {i : Int32} {n : Nat} (h : vp_in i n) : i.toNatClampNeg < n := Nat.not_le.mp fun q => h (Or.inr q)
def xK : List (Nat × Nat × Nat) := [(0, 5, 0), (1, 9, 8), (2, 3, 0), (3, 7, 160), (4, 7, 160), (5, 7, 3), (6, 11, 6), (7, 10, 4), (8, 1, 0), (9, 9, 8), (18, 0, 0), (19, 7, 8)]
def xR : List ((Nat × Nat) × Nat) := [((0, 1), 1), ((0, 3), 2), ((0, 4), 6), ((0, 7), 7), ((0, 8), 8), ((0, 9), 18), ((0, 10), 19), ((2, 0), 3), ((2, 5), 4), ((2, 7), 5), ((8, 4), 9)]
def ShX (m : Mem) : Prop := (∀ q ∈ xK, mK m q.1 = q.2) ∧ (∀ q ∈ xR, mR m q.1.1 q.1.2 = some q.2) ∧ (∀ i, i < 8 → mR m 1 i = some (20 + i) ∧ mK m (20 + i) = (0, 0)) ∧ (∀ i, i < 8 → mR m 9 i = some (10 + i) ∧ mK m (10 + i) = (0, 0)) ∧ (∀ i, i < 4 → mR m 7 i = some (28 + 2 * i) ∧ isS m (28 + 2 * i)) ∧ (∀ i k, mR m 6 i = some k → isT m k)
def mmK : List (Nat × Nat × Nat) := [(40, 6, 0), (41, 7, 960), (42, 7, 6), (43, 7, 160), (44, 7, 8), (45, 7, 40), (46, 7, 8), (47, 7, 8), (48, 7, 8), (49, 7, 40), (50, 8, 4), (51, 7, 4), (52, 7, 4), (53, 7, 160)]
def mmR : List ((Nat × Nat) × Nat) := [((40, 1), 41), ((40, 2), 42), ((40, 5), 43), ((40, 8), 44), ((40, 9), 45), ((40, 26), 46), ((40, 27), 47), ((40, 29), 48), ((40, 30), 49), ((40, 34), 50), ((40, 35), 51), ((40, 36), 52), ((40, 37), 53)]
def ShM (m : Mem) : Prop := (∀ q ∈ mmK, mK m q.1 = q.2) ∧ (∀ q ∈ mmR, mR m q.1.1 q.1.2 = some q.2)
theorem ShX.sh {m m' : Mem} (h : ShX m) (hs : SameSh m m') : ShX m' := by
  unfold ShX isS isT at h ⊢; rw [hs.2.2.1, hs.2.2.2]; exact h
theorem ShM.sh {m m' : Mem} (h : ShM m) (hs : SameSh m m') : ShM m' := by
  unfold ShM at h ⊢; rw [hs.2.2.1, hs.2.2.2]; exact h
theorem sx_e1 {m : Mem} (h : ShX m) {i : Nat} (hi : i < 8) : mR m 1 i = some (20 + i) ∧ mK m (20 + i) = (0, 0) := h.2.2.1 i hi
theorem sx_e9 {m : Mem} (h : ShX m) {i : Nat} (hi : i < 8) : mR m 9 i = some (10 + i) ∧ mK m (10 + i) = (0, 0) := h.2.2.2.1 i hi
theorem sx_e7 {m : Mem} (h : ShX m) {i : Nat} (hi : i < 4) : mR m 7 i = some (28 + 2 * i) ∧ isS m (28 + 2 * i) := h.2.2.2.2.1 i hi
theorem sx_e6 {m : Mem} (h : ShX m) {i k : Nat} (hi : mR m 6 i = some k) : isT m k := h.2.2.2.2.2 i k hi
/-- a sign of one of the two texts -/
def sch (j i : Nat) : Int32 := (tbyt.getD j []).getD i 0
/-- a call's answer and the memory behind it -/
def bnd {β γ : Type} (x : Option (β × Mem)) (k : β → Mem → Option γ) : Option γ := match x with
  | some (v, m) => k v m
  | none => none
theorem bnd_some {β γ : Type} {x : Option (β × Mem)} {v : β} {m : Mem} {k : β → Mem → Option γ} (h : x = some (v, m)) : bnd x k = k v m := by rw [h]; rfl
section CV3
variable {α β : Type} {sp : Bool} {κ : KT} {ri : Instr} {enc : α → Option Value} {m : Mem} {pc : Nat} {ls ls' st : List Value}
theorem Cv.bnd {F : Option (β × Mem)} {k : β → Mem → Option (α × Mem)} (h : ∀ v m1, F = some (v, m1) → Cv sp κ ri enc (k v m1) m pc ls st) : Cv sp κ ri enc (bnd F k) m pc ls st := by
  cases hF : F with
  | none => exact Cv.no
  | some q => obtain ⟨v, m1⟩ := q; exact h v m1 hF
theorem Cv.namM {k : Mem → Option (α × Mem)} (h : ∀ x, x = m → Cv sp κ ri enc (k x) x pc ls st) : Cv sp κ ri enc (nm m k) m pc ls st := h m rfl
theorem Cv.namI {e : Int32} {k : Int32 → Option (α × Mem)} (h : ∀ x, x = e → Cv sp κ ri enc (k x) m pc ls (.int x :: st)) : Cv sp κ ri enc (nm e k) m pc ls (.int e :: st) := h e rfl
theorem Cv.namL {e : Int64} {k : Int64 → Option (α × Mem)} (h : ∀ x, x = e → Cv sp κ ri enc (k x) m pc ls (.long x :: st)) : Cv sp κ ri enc (nm e k) m pc ls (.long e :: st) := h e rfl
theorem Cv.namR {e : Nat} {k : Nat → Option (α × Mem)} (h : ∀ x, x = e → Cv sp κ ri enc (k x) m pc ls (.ref x :: st)) : Cv sp κ ri enc (nm e k) m pc ls (.ref e :: st) := h e rfl
/-- some locals forgotten -/
def wkl : List Value → List Value → Prop
  | [], [] => True
  | b :: l', a :: l => (b = .null ∨ b = a) ∧ wkl l' l
  | _, _ => False
theorem wkl_at : ∀ {l' l : List Value}, wkl l' l → ∀ {i : Nat} {v : Value}, l'[i]? = some v → v ≠ .null → l[i]? = some v
  | [], [], _, i, v, h, _ => by cases h
  | b :: l', a :: l, h, 0, v, hv, hn => by
    cases hv
    rcases h.1 with z | z
    · exact absurd z hn
    · rw [z]; rfl
  | b :: l', a :: l, h, i + 1, v, hv, hn => wkl_at (l' := l') (l := l) h.2 (i := i) hv hn
  | [], _ :: _, h, _, _, _, _ => h.elim
  | _ :: _, [], h, _, _, _, _ => h.elim
theorem Cv.weak {f : Option (α × Mem)} (hw : wkl ls' ls) (h : Cv sp κ ri enc f m pc ls' st) : Cv sp κ ri enc f m pc ls st := by
  intro v mE hf
  obtain ⟨h1, h2⟩ := h v mE hf
  refine ⟨h1, fun b B hr ho => ?_⟩
  have h3 := h2 b B hr ho
  obtain ⟨p, l, e, R, s, mi, args, below, meth, c, D, cy, ro, A, n0, s0, ad0, Q⟩ := b
  intro hn hs ad H locs L hR he ho1 ho2 hl
  refine h3 hn hs ad H locs L hR he (fun w hw' => ?_) ho2 (hl.mono fun q hq => ?_)
  · by_cases hz : w = .null
    · subst hz; trivial
    · obtain ⟨j, hj⟩ := List.getElem?_of_mem hw'
      exact ho1 w (List.mem_of_getElem? (wkl_at hw hj hz))
  · obtain ⟨w, g1, g2, g3⟩ := lvs_mem.mp hq
    exact lvs_mem.mpr ⟨w, wkl_at hw g1 g2, g2, g3⟩
end CV3
theorem sx_k0 {m : Mem} (h : ShX m) : mK m 0 = (5, 0) := h.1 (0, 5, 0) (by decide)
theorem sx_k1 {m : Mem} (h : ShX m) : mK m 1 = (9, 8) := h.1 (1, 9, 8) (by decide)
theorem sx_k2 {m : Mem} (h : ShX m) : mK m 2 = (3, 0) := h.1 (2, 3, 0) (by decide)
theorem sx_k3 {m : Mem} (h : ShX m) : mK m 3 = (7, 160) := h.1 (3, 7, 160) (by decide)
theorem sx_k4 {m : Mem} (h : ShX m) : mK m 4 = (7, 160) := h.1 (4, 7, 160) (by decide)
theorem sx_k5 {m : Mem} (h : ShX m) : mK m 5 = (7, 3) := h.1 (5, 7, 3) (by decide)
theorem sx_k6 {m : Mem} (h : ShX m) : mK m 6 = (11, 6) := h.1 (6, 11, 6) (by decide)
theorem sx_k7 {m : Mem} (h : ShX m) : mK m 7 = (10, 4) := h.1 (7, 10, 4) (by decide)
theorem sx_k8 {m : Mem} (h : ShX m) : mK m 8 = (1, 0) := h.1 (8, 1, 0) (by decide)
theorem sx_k9 {m : Mem} (h : ShX m) : mK m 9 = (9, 8) := h.1 (9, 9, 8) (by decide)
theorem sx_k18 {m : Mem} (h : ShX m) : mK m 18 = (0, 0) := h.1 (18, 0, 0) (by decide)
theorem sx_k19 {m : Mem} (h : ShX m) : mK m 19 = (7, 8) := h.1 (19, 7, 8) (by decide)
theorem sx_r0_1 {m : Mem} (h : ShX m) : mR m 0 1 = some 1 := h.2.1 ((0, 1), 1) (by decide)
theorem sx_r0_3 {m : Mem} (h : ShX m) : mR m 0 3 = some 2 := h.2.1 ((0, 3), 2) (by decide)
theorem sx_r0_4 {m : Mem} (h : ShX m) : mR m 0 4 = some 6 := h.2.1 ((0, 4), 6) (by decide)
theorem sx_r0_7 {m : Mem} (h : ShX m) : mR m 0 7 = some 7 := h.2.1 ((0, 7), 7) (by decide)
theorem sx_r0_8 {m : Mem} (h : ShX m) : mR m 0 8 = some 8 := h.2.1 ((0, 8), 8) (by decide)
theorem sx_r0_9 {m : Mem} (h : ShX m) : mR m 0 9 = some 18 := h.2.1 ((0, 9), 18) (by decide)
theorem sx_r0_10 {m : Mem} (h : ShX m) : mR m 0 10 = some 19 := h.2.1 ((0, 10), 19) (by decide)
theorem sx_r2_0 {m : Mem} (h : ShX m) : mR m 2 0 = some 3 := h.2.1 ((2, 0), 3) (by decide)
theorem sx_r2_5 {m : Mem} (h : ShX m) : mR m 2 5 = some 4 := h.2.1 ((2, 5), 4) (by decide)
theorem sx_r2_7 {m : Mem} (h : ShX m) : mR m 2 7 = some 5 := h.2.1 ((2, 7), 5) (by decide)
theorem sx_r8_4 {m : Mem} (h : ShX m) : mR m 8 4 = some 9 := h.2.1 ((8, 4), 9) (by decide)
theorem sx_k40 {m : Mem} (h : ShM m) : mK m 40 = (6, 0) := h.1 (40, 6, 0) (by decide)
theorem sx_k41 {m : Mem} (h : ShM m) : mK m 41 = (7, 960) := h.1 (41, 7, 960) (by decide)
theorem sx_k42 {m : Mem} (h : ShM m) : mK m 42 = (7, 6) := h.1 (42, 7, 6) (by decide)
theorem sx_k43 {m : Mem} (h : ShM m) : mK m 43 = (7, 160) := h.1 (43, 7, 160) (by decide)
theorem sx_k44 {m : Mem} (h : ShM m) : mK m 44 = (7, 8) := h.1 (44, 7, 8) (by decide)
theorem sx_k45 {m : Mem} (h : ShM m) : mK m 45 = (7, 40) := h.1 (45, 7, 40) (by decide)
theorem sx_k46 {m : Mem} (h : ShM m) : mK m 46 = (7, 8) := h.1 (46, 7, 8) (by decide)
theorem sx_k47 {m : Mem} (h : ShM m) : mK m 47 = (7, 8) := h.1 (47, 7, 8) (by decide)
theorem sx_k48 {m : Mem} (h : ShM m) : mK m 48 = (7, 8) := h.1 (48, 7, 8) (by decide)
theorem sx_k49 {m : Mem} (h : ShM m) : mK m 49 = (7, 40) := h.1 (49, 7, 40) (by decide)
theorem sx_k50 {m : Mem} (h : ShM m) : mK m 50 = (8, 4) := h.1 (50, 8, 4) (by decide)
theorem sx_k51 {m : Mem} (h : ShM m) : mK m 51 = (7, 4) := h.1 (51, 7, 4) (by decide)
theorem sx_k52 {m : Mem} (h : ShM m) : mK m 52 = (7, 4) := h.1 (52, 7, 4) (by decide)
theorem sx_k53 {m : Mem} (h : ShM m) : mK m 53 = (7, 160) := h.1 (53, 7, 160) (by decide)
theorem sx_r40_1 {m : Mem} (h : ShM m) : mR m 40 1 = some 41 := h.2 ((40, 1), 41) (by decide)
theorem sx_r40_2 {m : Mem} (h : ShM m) : mR m 40 2 = some 42 := h.2 ((40, 2), 42) (by decide)
theorem sx_r40_5 {m : Mem} (h : ShM m) : mR m 40 5 = some 43 := h.2 ((40, 5), 43) (by decide)
theorem sx_r40_8 {m : Mem} (h : ShM m) : mR m 40 8 = some 44 := h.2 ((40, 8), 44) (by decide)
theorem sx_r40_9 {m : Mem} (h : ShM m) : mR m 40 9 = some 45 := h.2 ((40, 9), 45) (by decide)
theorem sx_r40_26 {m : Mem} (h : ShM m) : mR m 40 26 = some 46 := h.2 ((40, 26), 46) (by decide)
theorem sx_r40_27 {m : Mem} (h : ShM m) : mR m 40 27 = some 47 := h.2 ((40, 27), 47) (by decide)
theorem sx_r40_29 {m : Mem} (h : ShM m) : mR m 40 29 = some 48 := h.2 ((40, 29), 48) (by decide)
theorem sx_r40_30 {m : Mem} (h : ShM m) : mR m 40 30 = some 49 := h.2 ((40, 30), 49) (by decide)
theorem sx_r40_34 {m : Mem} (h : ShM m) : mR m 40 34 = some 50 := h.2 ((40, 34), 50) (by decide)
theorem sx_r40_35 {m : Mem} (h : ShM m) : mR m 40 35 = some 51 := h.2 ((40, 35), 51) (by decide)
theorem sx_r40_36 {m : Mem} (h : ShM m) : mR m 40 36 = some 52 := h.2 ((40, 36), 52) (by decide)
theorem sx_r40_37 {m : Mem} (h : ShM m) : mR m 40 37 = some 53 := h.2 ((40, 37), 53) (by decide)
