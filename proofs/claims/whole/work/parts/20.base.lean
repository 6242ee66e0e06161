/-! THE PURE PART: memories that agree but for some places; a function that answers w and changes no other places -/
def Ag (P : Nat → Nat → Prop) (m m' : Mem) : Prop := SameSh m m' ∧ ∀ k i, ¬ P k i → mD m' k i = mD m k i
theorem Ag.rf {P : Nat → Nat → Prop} {m : Mem} : Ag P m m := ⟨SameSh.rf, fun _ _ _ => rfl⟩
theorem Ag.tr {P : Nat → Nat → Prop} {a b c : Mem} (h : Ag P a b) (g : Ag P b c) : Ag P a c := ⟨h.1.tr g.1, fun k i hp => (g.2 k i hp).trans (h.2 k i hp)⟩
theorem Ag.mono {P Q : Nat → Nat → Prop} {m m' : Mem} (h : Ag P m m') (hq : ∀ k i, P k i → Q k i) : Ag Q m m' := ⟨h.1, fun k i hp => h.2 k i (fun z => hp (hq k i z))⟩
theorem Ag.d {P : Nat → Nat → Prop} {m : Mem} {k i : Nat} {v : Int32} (h : P k i) : Ag P m (wD m k i v) := ⟨SameSh.d, fun k' i' hp => by
  rw [mD_wD]
  by_cases e : k' = k ∧ i' = i
  · rw [e.1, e.2] at hp; exact absurd h hp
  · rw [if_neg e]⟩
theorem Ag.l {P : Nat → Nat → Prop} {m : Mem} {k i : Nat} {v : Int64} : Ag P m (wL m k i v) := ⟨SameSh.l, fun _ _ _ => rfl⟩
def Ev {α : Type} (P : Nat → Nat → Prop) (R : Mem → Prop) (f : Option (α × Mem)) (m : Mem) (w : α) : Prop := ∃ m', f = some (w, m') ∧ Ag P m m' ∧ R m'
section EV
variable {α β σ : Type} {P : Nat → Nat → Prop} {R R1 Q : Mem → Prop} {m : Mem} {w : α}
theorem Ev.ret (h : R m) : Ev P R (some (w, m)) m w := ⟨m, rfl, Ag.rf, h⟩
theorem Ev.eq {w' : α} {f : Option (α × Mem)} (h : Ev P R f m w) (e : w = w') : Ev P R f m w' := e ▸ h
theorem Ev.of {f g : Option (α × Mem)} (e : f = g) (h : Ev P R g m w) : Ev P R f m w := e ▸ h
theorem Ev.im {f : Option (α × Mem)} (h : Ev P R f m w) (hi : ∀ m', R m' → Q m') : Ev P Q f m w := by
  obtain ⟨m', h1, h2, h3⟩ := h; exact ⟨m', h1, h2, hi m' h3⟩
theorem Ev.imA {f : Option (α × Mem)} (h : Ev P R f m w) (hi : ∀ m', Ag P m m' → R m' → Q m') : Ev P Q f m w := by
  obtain ⟨m', h1, h2, h3⟩ := h; exact ⟨m', h1, h2, hi m' h2 h3⟩
theorem Ev.mono {P' : Nat → Nat → Prop} {f : Option (α × Mem)} (h : Ev P R f m w) (hq : ∀ k i, P k i → P' k i) : Ev P' R f m w := by
  obtain ⟨m', h1, h2, h3⟩ := h; exact ⟨m', h1, h2.mono hq, h3⟩
theorem Ev.bd {f : Option (β × Mem)} {k : β → Mem → Option (α × Mem)} {a : β} (h1 : Ev P R1 f m a) (h2 : ∀ m', R1 m' → Ev P R (k a m') m' w) : Ev P R (bnd f k) m w := by
  obtain ⟨m', e1, g1, r1⟩ := h1
  obtain ⟨m2, e2, g2, r2⟩ := h2 m' r1
  exact ⟨m2, by rw [bnd_some e1]; exact e2, g1.tr g2, r2⟩
theorem Ev.bdA {f : Option (β × Mem)} {k : β → Mem → Option (α × Mem)} {a : β} (h1 : Ev P R1 f m a) (h2 : ∀ m', Ag P m m' → R1 m' → Ev P R (k a m') m' w) : Ev P R (bnd f k) m w := by
  obtain ⟨m', e1, g1, r1⟩ := h1
  obtain ⟨m2, e2, g2, r2⟩ := h2 m' g1 r1
  exact ⟨m2, by rw [bnd_some e1]; exact e2, g1.tr g2, r2⟩
theorem Ev.bdM {P' : Nat → Nat → Prop} {f : Option (β × Mem)} {k : β → Mem → Option (α × Mem)} {a : β} (h1 : Ev P' R1 f m a) (hq : ∀ k i, P' k i → P k i) (h2 : ∀ m', Ag P' m m' → R1 m' → Ev P R (k a m') m' w) : Ev P R (bnd f k) m w := by
  obtain ⟨m', e1, g1, r1⟩ := h1
  obtain ⟨m2, e2, g2, r2⟩ := h2 m' g1 r1
  exact ⟨m2, by rw [bnd_some e1]; exact e2, (g1.mono hq).tr g2, r2⟩
theorem Ev.gif {p : Prop} {f : Option (α × Mem)} (hp : p) (h : Ev P R f m w) : Ev P R (gIf p f) m w := by rw [gIf_pos hp]; exact h
theorem Ev.gref {r : Option Nat} {q : Nat} {k : Nat → Option (α × Mem)} (hr : r = some q) (h : Ev P R (k q) m w) : Ev P R (gRef r k) m w := by rw [gRef_some hr]; exact h
theorem Ev.nam {e : β} {k : β → Option (α × Mem)} (h : Ev P R (k e) m w) : Ev P R (nm e k) m w := h
theorem Ev.ift {c : Prop} {d : Decidable c} {f g : Option (α × Mem)} (hc : c) (h : Ev P R f m w) : Ev P R (if c then f else g) m w := by rw [if_pos hc]; exact h
theorem Ev.iff {c : Prop} {d : Decidable c} {f g : Option (α × Mem)} (hc : ¬ c) (h : Ev P R g m w) : Ev P R (if c then f else g) m w := by rw [if_neg hc]; exact h
theorem Ev.ifs {c : Prop} {d : Decidable c} {f g : Option (α × Mem)} (h1 : c → Ev P R f m w) (h2 : ¬ c → Ev P R g m w) : Ev P R (if c then f else g) m w := by
  by_cases hc : c
  · rw [if_pos hc]; exact h1 hc
  · rw [if_neg hc]; exact h2 hc
/-- a write, then on -/
theorem Ev.wr {k i : Nat} {v : Int32} {f : Option (α × Mem)} (hp : P k i) (h : Ev P R f (wD m k i v) w) : Ev P R f m w := by
  obtain ⟨m', e1, g1, r1⟩ := h; exact ⟨m', e1, (Ag.d hp).tr g1, r1⟩
theorem Ev.namW {k i : Nat} {v : Int32} {f : Mem → Option (α × Mem)} (hp : P k i) (h : Ev P R (f (wD m k i v)) (wD m k i v) w) : Ev P R (nm (wD m k i v) f) m w := Ev.wr hp h
theorem Ev.namL {k i : Nat} {v : Int64} {f : Mem → Option (α × Mem)} (h : Ev P R (f (wL m k i v)) (wL m k i v) w) : Ev P R (nm (wL m k i v) f) m w := by
  obtain ⟨m', e1, g1, r1⟩ := h; exact ⟨m', e1, Ag.l.tr g1, r1⟩
theorem Ev.step {m1 : Mem} {f : Option (α × Mem)} (ha : Ag P m m1) (h : Ev P R f m1 w) : Ev P R f m w := by
  obtain ⟨m', e1, g1, r1⟩ := h; exact ⟨m', e1, ha.tr g1, r1⟩
/-- from place i on, r times -/
def fold (st : Nat → σ → σ) : Nat → Nat → σ → σ
  | _, 0, s => s
  | i, r + 1, s => fold st (i + 1) r (st i s)
theorem fold_congr {st st' : Nat → σ → σ} {n : Nat} (h : ∀ i s, i < n → st i s = st' i s) : ∀ (r i : Nat) (s : σ), i + r ≤ n → fold st i r s = fold st' i r s := by
  intro r
  induction r with
  | zero => intros; rfl
  | succ r ih => intro i s hn; show fold st (i + 1) r (st i s) = fold st' (i + 1) r (st' i s); rw [h i s (by omega)]; exact ih (i + 1) _ (by omega)
theorem fold_snoc (st : Nat → σ → σ) : ∀ (r i : Nat) (s : σ), fold st i (r + 1) s = st (i + r) (fold st i r s) := by
  intro r
  induction r with
  | zero => intros; rfl
  | succ r ih =>
    intro i s
    show fold st (i + 1) (r + 1) (st i s) = st (i + (r + 1)) (fold st (i + 1) r (st i s))
    rw [ih (i + 1) (st i s), show i + 1 + r = i + (r + 1) by omega]
/-- a loop from 0 up to n -/
theorem Ev.loop {L : Nat → Mem → σ → Int32 → Option (α × Mem)} {n : Nat} {st : Nat → σ → σ} {ex : σ → α} {RR : Nat → Mem → Prop}
    (hx : ∀ fu m s, RR n m → Ev P Q (L (fu + 1) m s (nI n)) m (ex s))
    (hs : ∀ fu m s i, i < n → RR i m → ∀ w, (∀ m', RR (i + 1) m' → Ev P Q (L fu m' (st i s) (nI (i + 1))) m' w) → Ev P Q (L (fu + 1) m s (nI i)) m w) :
    ∀ (r i fu : Nat) (m : Mem) (s : σ), i + r = n → r < fu → RR i m → Ev P Q (L fu m s (nI i)) m (ex (fold st i r s)) := by
  intro r
  induction r with
  | zero =>
    intro i fu m s hn hf hR
    cases fu with
    | zero => omega
    | succ fu =>
      have : i = n := by omega
      subst this
      exact hx fu m s hR
  | succ r ih =>
    intro i fu m s hn hf hR
    cases fu with
    | zero => omega
    | succ fu => exact hs fu m s i (by omega) hR _ fun m' hR' => ih (i + 1) fu m' (st i s) (by omega) (by omega) hR'
end EV
theorem bnd_eq {β γ : Type} {v : β} {m : Mem} {k : β → Mem → Option γ} : bnd (some (v, m)) k = k v m := rfl
theorem gIf_tt {α : Type} {x : Option α} : gIf True x = x := gIf_pos trivial
theorem bz0 {v : Bool} : (bz v = 0) = (v = false) := by cases v <;> simp [bz]
theorem nI_c {n : Nat} (h : n < 1000) : (nI n).toNatClampNeg = n := nI_clamp (by omega)
theorem nI_le' {a b : Nat} (ha : a < 1000) (hb : b < 1000) : (nI a ≤ nI b) = (a ≤ b) := propext (nI_leI (by omega) (by omega))
theorem nI_lt' {a b : Nat} (ha : a < 1000) (hb : b < 1000) : (nI a < nI b) = (a < b) := propext (nI_ltI (by omega) (by omega))
theorem nI_eq' {a b : Nat} (ha : a < 1000) (hb : b < 1000) : (nI a = nI b) = (a = b) := propext (nI_eq (by omega) (by omega))
theorem vp_n {i n : Nat} (h : i < n) (hn : n < 1000) : vp_in (nI i) n := vp_in_nI h (by omega)
/-- between -/
def btw (x : Int32) (lo hi : Int) : Bool := decide (lo ≤ x.toInt) && decide (x.toInt ≤ hi)
theorem btw_iff {x : Int32} {lo hi : Int} : btw x lo hi = true ↔ lo ≤ x.toInt ∧ x.toInt ≤ hi := by simp [btw]
theorem btw_nat {x : Int32} {hi : Nat} (h : btw x 0 hi = true) (hh : hi < 1000) : ∃ k, k ≤ hi ∧ x = nI k := by
  obtain ⟨h1, h2⟩ := btw_iff.mp h
  refine ⟨x.toInt.toNat, by omega, ?_⟩
  apply Int32.toInt_inj.mp
  rw [nI_toInt (by omega)]
  omega
/-- with bounds laid -/
def cl (v lo hi : Int32) : Int32 := if v < lo then lo else if hi < v then hi else v
theorem x_isBetween (m : Mem) (a b c : Int32) : F_X5_isBetween m a b c = some (btw a b.toInt c.toInt, m) := by
  unfold F_X5_isBetween btw
  simp only [Int32.lt_iff_toInt_lt]
  by_cases h1 : a.toInt < b.toInt
  · rw [if_pos h1]; simp; omega
  · rw [if_neg h1]
    by_cases h2 : c.toInt < a.toInt
    · rw [if_pos h2]; simp; omega
    · rw [if_neg h2]; simp; omega
theorem x_bounded (m : Mem) (a b c : Int32) (h : b.toInt ≤ c.toInt) : F_X4_bounded m a b c = some (cl a b c, m) := by
  unfold F_X4_bounded cl
  simp only [Int32.lt_iff_toInt_lt]
  congr 2
  by_cases h1 : a.toInt < c.toInt
  · simp only [if_pos h1]
    by_cases h2 : b.toInt < a.toInt
    · rw [if_pos h2, if_neg (by omega), if_neg (by omega)]
    · by_cases h3 : a.toInt < b.toInt
      · simp [h2, h3]
      · have : a = b := Int32.toInt_inj.mp (by omega)
        subst this; simp; omega
  · simp only [if_neg h1]
    by_cases h3 : c.toInt < a.toInt
    · simp only [if_pos h3]
      by_cases h2 : b.toInt < c.toInt
      · rw [if_pos h2, if_neg (by omega)]
      · have : b = c := Int32.toInt_inj.mp (by omega)
        subst this; simp
    · have : a = c := Int32.toInt_inj.mp (by omega)
      subst this
      by_cases h2 : b.toInt < a.toInt
      · rw [if_pos h2, if_neg (by omega), if_neg (by omega)]
      · have : b = a := Int32.toInt_inj.mp (by omega)
        subst this; simp
theorem m_within (m : Mem) (a b c : Int32) : F_X6_within m a b c = some (cl a b c, m) := by
  unfold F_X6_within cl
  simp only [Int32.lt_iff_toInt_lt, Int32.le_iff_toInt_le]
  by_cases h1 : b.toInt ≤ a.toInt
  · rw [if_pos h1, if_neg (show ¬ a.toInt < b.toInt by omega)]
    by_cases h2 : a.toInt ≤ c.toInt
    · rw [if_pos h2, if_neg (by omega)]
    · rw [if_neg h2, if_pos (by omega)]
  · rw [if_neg h1, if_pos (by omega)]
theorem m_in (m : Mem) (a b c : Int64) : F_X6_in m a b c = some (decide (b.toInt ≤ a.toInt) && decide (a.toInt ≤ c.toInt), m) := by
  unfold F_X6_in
  have e1 : (lg_cmp a b < 0) ↔ a.toInt < b.toInt := by
    unfold lg_cmp
    simp only [gt_iff_lt, Int64.lt_iff_toInt_lt, ← Int64.toInt_inj]
    by_cases h1 : b.toInt < a.toInt
    · simp only [if_pos h1]; constructor
      · intro z; exact absurd z (by decide)
      · intro z; omega
    · simp only [if_neg h1]
      by_cases h2 : a.toInt = b.toInt
      · simp only [if_pos h2]; constructor
        · intro z; exact absurd z (by decide)
        · intro z; omega
      · simp only [if_neg h2]; constructor
        · intro _; omega
        · intro _; decide
  have e2 : (0 < lg_cmp a c) ↔ c.toInt < a.toInt := by
    unfold lg_cmp
    simp only [gt_iff_lt, Int64.lt_iff_toInt_lt, ← Int64.toInt_inj]
    by_cases h1 : c.toInt < a.toInt
    · simp only [if_pos h1]; constructor
      · intro _; trivial
      · intro _; decide
    · simp only [if_neg h1]
      by_cases h2 : a.toInt = c.toInt
      · simp only [if_pos h2]; constructor
        · intro z; exact absurd z (by decide)
        · intro z; omega
      · simp only [if_neg h2]; constructor
        · intro z; exact absurd z (by decide)
        · intro z; omega
  by_cases h1 : a.toInt < b.toInt
  · rw [if_pos (e1.mpr h1)]; simp; omega
  · rw [if_neg (fun z => h1 (e1.mp z))]
    by_cases h2 : c.toInt < a.toInt
    · rw [if_pos (e2.mpr h2)]; simp; omega
    · rw [if_neg (fun z => h2 (e2.mp z))]; simp; omega
