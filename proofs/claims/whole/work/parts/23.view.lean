/-! THE VALLEY: how many coins, the day, the coins (kind, number, value, first, age, owner), what the rule says -/
abbrev VW : Type := Nat × Int32 × (Nat → Nat → Int32) × (Nat → (Int32 → Int32) → Int32)
def vn (v : VW) : Nat := v.1
def vd (v : VW) : Int32 := v.2.1
def vc (v : VW) : Nat → Nat → Int32 := v.2.2.1
def vS (v : VW) : Nat → (Int32 → Int32) → Int32 := v.2.2.2
def row6 (r : Nat → Int32) : Nat → Int32 := fun f => if f < 6 then r f else 0
theorem row6_at {r : Nat → Int32} {f : Nat} (h : f < 6) : row6 r f = r f := by simp [row6, h]
theorem envC_row6 (c : Nat → Int32) (age day : Int32) : envC (row6 c) age day = envC c age day := by
  unfold envC row6; rfl
theorem pT_row6 (S : Nat → (Int32 → Int32) → Int32) (c : Nat → Int32) (age day : Int32) : pT S (row6 c) age day = pT S c age day := by
  unfold pT; rw [envC_row6]; rfl
theorem pG_row6 (S : Nat → (Int32 → Int32) → Int32) (c : Nat → Int32) (age day : Int32) : pG S (row6 c) age day = pG S c age day := by
  unfold pG; rw [envC_row6]; rfl
theorem pO_row6 (S : Nat → (Int32 → Int32) → Int32) (c : Nat → Int32) (age day : Int32) : pO S (row6 c) age day = pO S c age day := by
  unfold pO; rw [envC_row6]; rfl
theorem pW_row6 (S : Nat → (Int32 → Int32) → Int32) (c : Nat → Int32) (age day : Int32) : pW S (row6 c) age day = pW S c age day := by
  unfold pW; rw [pT_row6, pG_row6, pO_row6]; rfl
/-- the age behind k days -/
def ag (r : Nat → Int32) (k : Int32) : Int32 := if r 4 + k < 999 then r 4 + k else 999
def whole (v : VW) (r : Nat → Int32) (k : Int32) : Bool := decide (¬ pT (vS v) r (ag r k) (vd v + k) ≤ ag r k)
def wor (v : VW) (r : Nat → Int32) (k : Int32) : Int32 := pW (vS v) r (ag r k) (vd v + k)
/-- whether a set holds a coin -/
def hb (a i : Int32) : Bool := decide ((a >>> (i &&& 31)) &&& 1 = 1)
def bit (i : Int32) : Int32 := (1 : Int32) <<< (i &&& 31)
def purse (v : VW) (p k : Int32) : Int32 := fold (fun i s => if vc v i 5 = p ∧ whole v (vc v i) k = true then s ||| bit (nI i) else s) 0 (vn v) 0
def rich (v : VW) (p k : Int32) : Int32 := fold (fun i s => if vc v i 5 = p then s + wor v (vc v i) k else s) 0 (vn v) 0
def vals (v : VW) (set : Int32) : Int32 := fold (fun i s => if hb set (nI i) = true then s + vc v i 2 else s) 0 (vn v) 0
def owns (v : VW) (p : Int32) : Int32 := fold (fun i s => if vc v i 5 = p then s ||| bit (nI i) else s) 0 (vn v) 0
def wcnt (v : VW) : Int32 := fold (fun i s => if whole v (vc v i) 0 = true then s + 1 else s) 0 (vn v) 0
/-- what the class uses for itself alone -/
def pX (k i : Nat) : Prop := pSt k i ∨ k = 18 ∨ k = 19 ∨ k = 4 ∨ k = 5 ∨ (k = 2 ∧ i ≠ 1)
theorem pSt.x {k i : Nat} (h : pSt k i) : pX k i := Or.inl h
theorem nX {k i : Nat} (h1 : k ≠ 39) (h2 : k < 54) (h3 : k ≠ 18) (h4 : k ≠ 19) (h5 : k ≠ 4) (h6 : k ≠ 5) (h7 : k ≠ 2) : ¬ pX k i := by
  unfold pX pSt; omega
theorem nX_t {q i : Nat} (h : isTc q) : ¬ pX (q + 1) i ∧ ¬ pX (q + 2) i := by
  unfold isTc at h; unfold pX pSt; omega
/-- the class's memory holds the valley v -/
def RepX (v : VW) (m : Mem) : Prop := ShX m ∧ vn v ≤ 8 ∧ mD m 0 2 = nI (vn v) ∧ mD m 0 0 = vd v ∧ (∀ i, i < vn v → row6 (mD m (20 + i)) = vc v i) ∧ ∃ j q, j < 6 ∧ mD m 0 6 = nI j ∧ mR m 6 j = some q ∧ TX m q (vS v)
theorem row6_ag {P : Nat → Nat → Prop} {m m' : Mem} {k : Nat} (ha : Ag P m m') (hk : ∀ i, ¬ P k i) : mD m' k = mD m k := funext fun i => ha.2 k i (hk i)
theorem RepX.ag {v : VW} {m m' : Mem} (h : RepX v m) (ha : Ag pX m m') : RepX v m' := by
  obtain ⟨h1, h2, h3, h4, h5, j, q, e1, e2, e3, e4⟩ := h
  refine ⟨h1.sh ha.1, h2, ?_, ?_, fun i hi => ?_, j, q, e1, ?_, ?_, e4.ag ha (fun _ => (nX_t e4.2.1).1) (fun _ => (nX_t e4.2.1).2)⟩
  · rw [ha.2 0 2 (nX (by decide) (by decide) (by decide) (by decide) (by decide) (by decide) (by decide))]; exact h3
  · rw [ha.2 0 0 (nX (by decide) (by decide) (by decide) (by decide) (by decide) (by decide) (by decide))]; exact h4
  · rw [row6_ag ha (fun f => nX (by omega) (by omega) (by omega) (by omega) (by omega) (by omega) (by omega))]; exact h5 i hi
  · rw [ha.2 0 6 (nX (by decide) (by decide) (by decide) (by decide) (by decide) (by decide) (by decide))]; exact e2
  · rw [ha.1.2.2.2]; exact e3
/-- nothing is written -/
def pF (_ _ : Nat) : Prop := False
theorem Ev.eqm {α : Type} {f : Option (α × Mem)} {m : Mem} {w : α} (h : Ev pF (fun x => x = m) f m w) : f = some (w, m) := by
  obtain ⟨m', e1, -, e2⟩ := h; rw [e1, e2]
section XV
variable {v : VW} {m : Mem}
theorem RepX.lift {α : Type} {f : Option (α × Mem)} {w : α} (h : RepX v m) (e : Ev pSt TT f m w) : Ev pSt (RepX v) f m w := by
  obtain ⟨m', e1, e2, -⟩ := e
  exact ⟨m', e1, e2, h.ag (e2.mono (fun k i hp => pSt.x hp))⟩
theorem x_holds (m : Mem) (a i : Int32) : F_X5_holds m a i = some (hb a i, m) := by
  unfold F_X5_holds hb; split <;> simp_all
theorem x_isOf (m : Mem) (w : Nat) (hw : w < 7) (x : Int32) : F_X5_isOf m (nI w) x = some (btw x (fLEAST w).toInt (fMOST w).toInt, m) := by
  unfold F_X5_isOf btw
  rw [gIf_pos (vp_n hw (by decide)), gIf_pos (vp_n hw (by decide)), nI_c (by omega)]
  simp only [Int32.lt_iff_toInt_lt]
  by_cases h1 : x.toInt < (fLEAST w).toInt
  · rw [if_pos h1]; simp; omega
  · rw [if_neg h1]
    by_cases h2 : (fMOST w).toInt < x.toInt
    · rw [if_pos h2]; simp; omega
    · rw [if_neg h2]; simp; omega
theorem x_isOwner (m : Mem) (x : Int32) : F_X5_isOf m 5 x = some (btw x 0 3, m) := x_isOf m 5 (by decide) x
theorem x_isKind (m : Mem) (x : Int32) : F_X5_isOf m 6 x = some (btw x 0 5, m) := x_isOf m 6 (by decide) x
theorem x_isNumber (m : Mem) (x : Int32) : F_X5_isOf m 1 x = some (btw x 0 9, m) := x_isOf m 1 (by decide) x
theorem x_isValue (m : Mem) (x : Int32) : F_X5_isOf m 2 x = some (btw x 1 99, m) := x_isOf m 2 (by decide) x
theorem x_isSheet (m : Mem) (x : Int32) : F_X5_isSheet m x = some (btw x 0 3, m) := by
  unfold F_X5_isSheet btw
  simp only [Int32.lt_iff_toInt_lt, Int32.le_iff_toInt_le, show (0 : Int32).toInt = 0 from rfl, show (4 : Int32).toInt = 4 from rfl]
  by_cases h1 : x.toInt < 0
  · rw [if_pos h1]; simp; omega
  · rw [if_neg h1]
    by_cases h2 : 4 ≤ x.toInt
    · rw [if_pos h2]; simp; omega
    · rw [if_neg h2]; simp; omega
theorem x_isCoin (h : RepX v m) (x : Int32) : F_X5_isCoin m x = some (btw x 0 ((vn v : Int) - 1), m) := by
  unfold F_X5_isCoin btw
  rw [h.2.2.1]
  simp only [Int32.lt_iff_toInt_lt, Int32.le_iff_toInt_le, show (0 : Int32).toInt = 0 from rfl, nI_toInt (show vn v < 2 ^ 31 by have := h.2.1; omega)]
  by_cases h1 : x.toInt < 0
  · rw [if_pos h1]; simp; omega
  · rw [if_neg h1]
    by_cases h2 : (vn v : Int) ≤ x.toInt
    · rw [if_pos h2]; simp; omega
    · rw [if_neg h2]; simp; omega
theorem x_two (m : Mem) (a b : Int32) : F_X5_areTwoOwners m a b = some (btw a 0 3 && btw b 0 3 && decide (¬ a = b), m) := by
  unfold F_X5_areTwoOwners
  simp only [x_isOwner, bnd_eq, bz0]
  cases btw a 0 3 <;> cases btw b 0 3 <;> simp
  split <;> simp_all
theorem x_theRule (h : RepX v m) : ∃ q, F_X5_theRule m = some (q, m) ∧ TX m q (vS v) := by
  obtain ⟨h1, h2, h3, h4, h5, j, q, e1, e2, e3, e4⟩ := h
  refine ⟨q, ?_, e4⟩
  unfold F_X5_theRule
  rw [e2, gIf_pos (vp_n e1 (by decide)), nI_c (by omega), gRef_some e3]
theorem x_age (m : Mem) (c : Nat) (k : Int32) : F_X0_ageBehind m c k = some (ag (row6 (mD m c)) k, m) := rfl
theorem x_isWhole (h : RepX v m) {c : Nat} (hc : ∀ i, ¬ pSt c i) {r : Nat → Int32} (hr : row6 (mD m c) = r) (k : Int32) : Ev pSt (RepX v) (F_X5_isWholeBehind m c k) m (whole v r k) := by
  obtain ⟨q, e1, e2⟩ := x_theRule h
  unfold F_X5_isWholeBehind
  rw [x_age, bnd_eq, e1, bnd_eq, h.2.2.2.1, hr]
  refine Ev.bd (h.lift (x_turnsOf e2 hc)) fun m' h' => ?_
  rw [← pT_row6, hr]
  unfold whole
  by_cases hh : pT (vS v) r (ag r k) (vd v + k) ≤ ag r k
  · rw [if_pos hh]; exact (Ev.ret h').eq (by simp [hh])
  · rw [if_neg hh]; exact (Ev.ret h').eq (by simp [hh])
theorem x_worth (h : RepX v m) {c : Nat} (hc : ∀ i, ¬ pSt c i) {r : Nat → Int32} (hr : row6 (mD m c) = r) (k : Int32) : Ev pSt (RepX v) (F_X5_worthBehind m c k) m (wor v r k) := by
  obtain ⟨q, e1, e2⟩ := x_theRule h
  unfold F_X5_worthBehind
  rw [e1, bnd_eq, x_age, bnd_eq, h.2.2.2.1, hr]
  refine Ev.bd (h.lift (x_worthOf e2 hc)) fun m' h' => ?_
  rw [← pW_row6, hr]
  exact Ev.ret h'
/-- a coin's cell is no row for a stack -/
theorem nSt {i : Nat} (hi : i < 8) : ∀ j, ¬ pSt (20 + i) j := fun j => by unfold pSt; omega
theorem RepX.row (h : RepX v m) {i : Nat} (hi : i < vn v) : row6 (mD m (20 + i)) = vc v i := h.2.2.2.2.1 i hi
theorem RepX.fld (h : RepX v m) {i f : Nat} (hi : i < vn v) (hf : f < 6) : mD m (20 + i) f = vc v i f := by rw [← h.row hi, row6_at hf]
theorem hFU {n : Nat} (h : n < 1000) : n < FU := by show n < 5000; omega
/-- the head of a loop over the coins -/
theorem RepX.hd (h : RepX v m) {i : Nat} (hi : i < vn v) : ¬ mD m 0 2 ≤ nI i := by
  rw [h.2.2.1, nI_le' (by have := h.2.1; omega) (by have := h.2.1; omega)]; omega
theorem RepX.ex (h : RepX v m) : mD m 0 2 ≤ nI (vn v) := by
  rw [h.2.2.1, nI_le' (by have := h.2.1; omega) (by have := h.2.1; omega)]; omega
theorem RepX.vp (h : RepX v m) {i : Nat} (hi : i < vn v) : vp_in (nI i) 8 := vp_n (by have := h.2.1; omega) (by decide)
theorem RepX.lt8 (h : RepX v m) {i : Nat} (hi : i < vn v) : i < 8 := by have := h.2.1; omega
theorem x_purse (h : RepX v m) (p k : Int32) : Ev pSt (RepX v) (F_X5_purseBehind m p k) m (purse v p k) := by
  unfold F_X5_purseBehind purse
  refine Ev.loop (L := fun fu m s i => F_X5_purseBehind_5 fu m p k s i) (n := vn v) (ex := id) (RR := fun _ => RepX v) (fun fu m s h => ?_) (fun fu m s i hi h w hw => ?_) (vn v) 0 FU m 0 (by omega) (hFU (by have := h.2.1; omega)) h
  · show Ev pSt (RepX v) (F_X5_purseBehind_5 (fu + 1) m p k s (nI (vn v))) m s
    unfold F_X5_purseBehind_5
    rw [if_pos h.ex]; exact Ev.ret h
  · show Ev pSt (RepX v) (F_X5_purseBehind_5 (fu + 1) m p k s (nI i)) m w
    unfold F_X5_purseBehind_5 F_X5_purseBehind_50
    simp only [nI_1, nm]
    have h8 := h.lt8 hi
    rw [if_neg (h.hd hi), gIf_pos (h.vp hi), nI_c (by omega), h.fld hi (by decide), gIf_pos (h.vp hi)]
    by_cases ho : vc v i 5 = p
    · rw [if_pos ho]
      refine Ev.bd (x_isWhole h (nSt h8) (h.row hi) k) fun m' h' => ?_
      simp only [bz0]
      cases hwh : whole v (vc v i) k with
      | false => simpa [ho, hwh] using hw m' h'
      | true => simpa [ho, hwh, bit] using hw m' h'
    · rw [if_neg ho]
      simpa [ho] using hw m h
theorem x_rich (h : RepX v m) (p k : Int32) : Ev pSt (RepX v) (F_X5_richBehind m p k) m (rich v p k) := by
  unfold F_X5_richBehind rich
  refine Ev.loop (L := fun fu m s i => F_X5_richBehind_5 fu m p k s i) (n := vn v) (ex := id) (RR := fun _ => RepX v) (fun fu m s h => ?_) (fun fu m s i hi h w hw => ?_) (vn v) 0 FU m 0 (by omega) (hFU (by have := h.2.1; omega)) h
  · show Ev pSt (RepX v) (F_X5_richBehind_5 (fu + 1) m p k s (nI (vn v))) m s
    unfold F_X5_richBehind_5
    rw [if_pos h.ex]; exact Ev.ret h
  · show Ev pSt (RepX v) (F_X5_richBehind_5 (fu + 1) m p k s (nI i)) m w
    unfold F_X5_richBehind_5 F_X5_richBehind_43
    simp only [nI_1, nm]
    have h8 := h.lt8 hi
    rw [if_neg (h.hd hi), gIf_pos (h.vp hi), nI_c (by omega), h.fld hi (by decide), gIf_pos (h.vp hi)]
    by_cases ho : vc v i 5 = p
    · rw [if_pos ho]
      refine Ev.bd (x_worth h (nSt h8) (h.row hi) k) fun m' h' => ?_
      simpa [ho] using hw m' h'
    · rw [if_neg ho]
      simpa [ho] using hw m h
theorem x_vals (h : RepX v m) (set : Int32) : F_X5_valuesOf m set = some (vals v set, m) := by
  refine Ev.eqm ?_
  unfold F_X5_valuesOf vals
  refine Ev.loop (L := fun fu m s i => F_X5_valuesOf_4 fu m set s i) (n := vn v) (ex := id) (RR := fun _ x => x = m) (fun fu m1 s h1 => ?_) (fun fu m1 s i hi h1 w hw => ?_) (vn v) 0 FU m 0 (by omega) (hFU (by have := h.2.1; omega)) rfl
  · subst h1
    show Ev pF (fun x => x = m1) (F_X5_valuesOf_4 (fu + 1) m1 set s (nI (vn v))) m1 s
    unfold F_X5_valuesOf_4
    rw [if_pos h.ex]; exact Ev.ret rfl
  · subst h1
    show Ev pF (fun x => x = m1) (F_X5_valuesOf_4 (fu + 1) m1 set s (nI i)) m1 w
    unfold F_X5_valuesOf_4 F_X5_valuesOf_32
    simp only [nI_1, nm, x_holds, bnd_eq, bz0]
    have h8 := h.lt8 hi
    rw [if_neg (h.hd hi), gIf_pos (h.vp hi), nI_c (by omega), h.fld hi (by decide)]
    cases hh : hb set (nI i) with
    | false => simpa [hh] using hw m1 rfl
    | true => simpa [hh] using hw m1 rfl
theorem x_owns (h : RepX v m) (p : Int32) : F_X5_coinsOf m p = some (owns v p, m) := by
  refine Ev.eqm ?_
  unfold F_X5_coinsOf owns
  refine Ev.loop (L := fun fu m s i => F_X5_coinsOf_4 fu m p s i) (n := vn v) (ex := id) (RR := fun _ x => x = m) (fun fu m1 s h1 => ?_) (fun fu m1 s i hi h1 w hw => ?_) (vn v) 0 FU m 0 (by omega) (hFU (by have := h.2.1; omega)) rfl
  · subst h1
    show Ev pF (fun x => x = m1) (F_X5_coinsOf_4 (fu + 1) m1 p s (nI (vn v))) m1 s
    unfold F_X5_coinsOf_4
    rw [if_pos h.ex]; exact Ev.ret rfl
  · subst h1
    show Ev pF (fun x => x = m1) (F_X5_coinsOf_4 (fu + 1) m1 p s (nI i)) m1 w
    unfold F_X5_coinsOf_4 F_X5_coinsOf_31
    simp only [nI_1, nm]
    have h8 := h.lt8 hi
    rw [if_neg (h.hd hi), gIf_pos (h.vp hi), nI_c (by omega), h.fld hi (by decide)]
    by_cases ho : vc v i 5 = p
    · rw [if_pos ho]; simpa [ho, bit] using hw m1 rfl
    · rw [if_neg ho]; simpa [ho] using hw m1 rfl
theorem x_wcnt (h : RepX v m) : Ev pSt (RepX v) (F_X5_wholeCount m) m (wcnt v) := by
  unfold F_X5_wholeCount wcnt
  refine Ev.loop (L := fun fu m s i => F_X5_wholeCount_4 fu m s i) (n := vn v) (ex := id) (RR := fun _ => RepX v) (fun fu m s h => ?_) (fun fu m s i hi h w hw => ?_) (vn v) 0 FU m 0 (by omega) (hFU (by have := h.2.1; omega)) h
  · show Ev pSt (RepX v) (F_X5_wholeCount_4 (fu + 1) m s (nI (vn v))) m s
    unfold F_X5_wholeCount_4
    rw [if_pos h.ex]; exact Ev.ret h
  · show Ev pSt (RepX v) (F_X5_wholeCount_4 (fu + 1) m s (nI i)) m w
    unfold F_X5_wholeCount_4 F_X5_wholeCount_29
    simp only [nI_1]
    have h8 := h.lt8 hi
    rw [if_neg (h.hd hi), gIf_pos (h.vp hi), nI_c (by omega)]
    refine Ev.bd (x_isWhole h (nSt h8) (h.row hi) 0) fun m' h' => ?_
    simp only [bz0]
    cases hwh : whole v (vc v i) 0 with
    | false => simpa [hwh] using hw m' h'
    | true => simpa [hwh] using hw m' h'
end XV
