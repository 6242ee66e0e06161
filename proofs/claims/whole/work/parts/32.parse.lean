/-! READING A TEXT: a token on; levels; what is read is a list of steps -/
abbrev PR : Type := Option (List Int32) × PS
def lv (t : Int32) : Int32 := if t = -17 then 4 else if t = -16 then 3 else if t = -15 then 3 else if t = -14 then 2 else if t = -13 then 2 else if t = -11 then 1 else if t = -10 then 0 else -1
def pThen (r : PR) (f : List Int32 → PS → PR) : PR := match r.1 with
  | none => (none, r.2)
  | some cs => f cs r.2
section PURE
variable (B : Nat → Int32) (n : Nat)
def adv (s : PS) : PS := tok B n s.2.2
def pLoop (sub : PS → PR) (lev : Int32) : Nat → List Int32 → PS → PR
  | 0, cs, s => (some cs, s)
  | r + 1, cs, s => if lv s.1 = lev then pThen (sub (adv B n s)) fun c2 s' => pLoop sub lev r (cs ++ (c2 ++ [s.1])) s' else (some cs, s)
def pLev (sub : PS → PR) (lev : Int32) (lim : Nat) (s : PS) : PR := pThen (sub s) fun c s' => pLoop B n sub lev lim c s'
def pTerm (one : PS → PR) : PS → PR := pLev B n one 4 160
def pSum (one : PS → PR) : PS → PR := pLev B n (pTerm B n one) 3 160
def pCmp (one : PS → PR) : PS → PR := pLev B n (pSum B n one) 2 1
def pAnd (no : PS → PR) : PS → PR := pLev B n no 1 160
def pOr (no : PS → PR) : PS → PR := pLev B n (pAnd B n no) 0 160
def oneZ (s : PS) : PR := if s.1 < -6 then (none, s) else (some [s.1], adv B n s)
def oneS (a : (PS → PR) × (PS → PR)) (s : PS) : PR :=
  if s.1 < -6 then
    (if s.1 = -16 then pThen (a.1 (adv B n s)) fun c s' => (some (c ++ [-18]), s')
    else if s.1 = -19 then pThen (pOr B n a.2 (adv B n s)) fun c s' => if s'.1 = -20 then (some c, adv B n s') else (none, s')
    else (none, s))
  else (some [s.1], adv B n s)
def notZ (s : PS) : PR := if s.1 = -12 then (none, s) else pCmp B n (oneZ B n) s
def notS (a : (PS → PR) × (PS → PR)) (s : PS) : PR := if s.1 = -12 then pThen (a.2 (adv B n s)) fun c s' => (some (c ++ [-12]), s') else pCmp B n (oneS B n a) s
def pAll : Nat → (PS → PR) × (PS → PR)
  | 0 => (oneZ B n, notZ B n)
  | k + 1 => (oneS B n (pAll k), notS B n (pAll k))
/-- a state that a step to a token leaves -/
def okS (s : PS) : Prop := s.2.1 ≤ n ∧ s.2.2 ≤ n ∧ (¬ s.1 = -22 → s.2.1 < s.2.2)
/-- what a reader keeps -/
def Gd (sub : PS → PR) : Prop := ∀ s, okS n s → okS n (sub s).2 ∧ s.2.1 ≤ (sub s).2.2.1 ∧ ∀ cs, (sub s).1 = some cs → s.2.1 + cs.length ≤ (sub s).2.2.1 ∧ 1 ≤ cs.length
end PURE
section PUREL
variable {B : Nat → Int32} {n : Nat}
theorem tok_ok {p : Nat} (hp : p ≤ n) : okS n (tok B n p) ∧ p ≤ (tok B n p).2.1 := by
  unfold tok tokAt okS
  have hb := scan_le isBl B (n - p) p
  generalize scan isBl B (n - p) p = b at hb
  split
  · rename_i hbn
    split
    · rename_i hl
      have h1 := scan_le isLt B (n - b) b
      have h2 := scan_gt (q := isLt) (B := B) (r := n - b) (p := b) (by omega) hl
      refine ⟨⟨?_, ?_, fun _ => ?_⟩, ?_⟩ <;> dsimp only <;> omega
    · split
      · rename_i hl
        have h1 := scan_le isDg B (n - b) b
        have h2 := scan_gt (q := isDg) (B := B) (r := n - b) (p := b) (by omega) hl
        refine ⟨⟨?_, ?_, fun _ => ?_⟩, ?_⟩ <;> dsimp only <;> omega
      · refine ⟨⟨?_, ?_, fun _ => ?_⟩, ?_⟩ <;> dsimp only <;> omega
  · refine ⟨⟨?_, ?_, fun z => absurd rfl z⟩, ?_⟩ <;> dsimp only <;> omega
theorem adv_ok {s : PS} (h : okS n s) : okS n (adv B n s) ∧ s.2.2 ≤ (adv B n s).2.1 := tok_ok h.2.1
theorem adv_lt {s : PS} (h : okS n s) (ht : ¬ s.1 = -22) : okS n (adv B n s) ∧ s.2.1 + 1 ≤ (adv B n s).2.1 := ⟨(adv_ok h).1, by have := (adv_ok (B := B) h).2; have := h.2.2 ht; omega⟩
theorem lv_end {t lev : Int32} (h : lv t = lev) (hl : ¬ lev = -1) : ¬ t = -22 := fun z => by subst z; exact hl h.symm
theorem pLoop_gd {sub : PS → PR} (hg : Gd n sub) {lev : Int32} (hl : ¬ lev = -1) : ∀ (r : Nat) (cs : List Int32) (s : PS) (b0 : Nat), okS n s → b0 + cs.length ≤ s.2.1 → 1 ≤ cs.length → okS n (pLoop B n sub lev r cs s).2 ∧ b0 ≤ (pLoop B n sub lev r cs s).2.2.1 ∧ ∀ c', (pLoop B n sub lev r cs s).1 = some c' → b0 + c'.length ≤ (pLoop B n sub lev r cs s).2.2.1 ∧ 1 ≤ c'.length := by
  intro r
  induction r with
  | zero => intro cs s b0 ho hb hc; exact ⟨ho, by show b0 ≤ s.2.1; omega, fun c' e => by cases e; exact ⟨hb, hc⟩⟩
  | succ r ih =>
    intro cs s b0 ho hb hc
    unfold pLoop
    by_cases h1 : lv s.1 = lev
    · rw [if_pos h1]
      obtain ⟨a1, a2⟩ := adv_lt (B := B) ho (lv_end h1 hl)
      obtain ⟨g1, g2, g3⟩ := hg (adv B n s) a1
      unfold pThen
      cases hr : (sub (adv B n s)).1 with
      | none => exact ⟨g1, by dsimp only; omega, fun c' e => by cases e⟩
      | some c2 =>
        obtain ⟨g4, g5⟩ := g3 c2 hr
        exact ih _ _ b0 g1 (by simp; omega) (by simp; omega)
    · rw [if_neg h1]
      exact ⟨ho, by show b0 ≤ s.2.1; omega, fun c' e => by cases e; exact ⟨hb, hc⟩⟩
theorem pLev_gd {sub : PS → PR} (hg : Gd n sub) {lev : Int32} (hl : ¬ lev = -1) (lim : Nat) : Gd n (pLev B n sub lev lim) := by
  intro s ho
  obtain ⟨g1, g2, g3⟩ := hg s ho
  unfold pLev pThen
  cases hr : (sub s).1 with
  | none => exact ⟨g1, g2, fun c' e => by cases e⟩
  | some c => exact pLoop_gd hg hl lim c _ _ g1 (g3 c hr).1 (g3 c hr).2
theorem one_gd (s : PS) (ho : okS n s) (ht : ¬ s.1 < -6) : okS n (adv B n s) ∧ s.2.1 ≤ (adv B n s).2.1 ∧ ∀ cs : List Int32, some [s.1] = some cs → s.2.1 + cs.length ≤ (adv B n s).2.1 ∧ 1 ≤ cs.length := by
  obtain ⟨a1, a2⟩ := adv_lt (B := B) ho (fun z => ht (by rw [z]; decide))
  refine ⟨a1, by omega, fun cs e => ?_⟩
  cases e
  exact ⟨a2, Nat.le_refl _⟩
theorem no_gd (s : PS) (ho : okS n s) : okS n s ∧ s.2.1 ≤ s.2.1 ∧ ∀ cs : List Int32, (none : Option (List Int32)) = some cs → s.2.1 + cs.length ≤ s.2.1 ∧ 1 ≤ cs.length := ⟨ho, Nat.le_refl _, fun cs e => by cases e⟩
theorem oneZ_gd : Gd n (oneZ B n) := by
  intro s ho
  unfold oneZ
  split
  · exact no_gd s ho
  · rename_i h; exact one_gd s ho h
theorem pOr_gd {no : PS → PR} (h : Gd n no) : Gd n (pOr B n no) := pLev_gd (pLev_gd h (by decide) 160) (by decide) 160
theorem pCmp_gd {one : PS → PR} (h : Gd n one) : Gd n (pCmp B n one) := pLev_gd (pLev_gd (pLev_gd h (by decide) 160) (by decide) 160) (by decide) 1
theorem app_gd {sub : PS → PR} (hg : Gd n sub) (x : Int32) (s : PS) (ho : okS n s) (ht : ¬ s.1 = -22) : okS n (pThen (sub (adv B n s)) fun c s' => (some (c ++ [x]), s')).2 ∧ s.2.1 ≤ (pThen (sub (adv B n s)) fun c s' => (some (c ++ [x]), s')).2.2.1 ∧ ∀ cs, (pThen (sub (adv B n s)) fun c s' => (some (c ++ [x]), s')).1 = some cs → s.2.1 + cs.length ≤ (pThen (sub (adv B n s)) fun c s' => (some (c ++ [x]), s')).2.2.1 ∧ 1 ≤ cs.length := by
  obtain ⟨a1, a2⟩ := adv_lt (B := B) ho ht
  obtain ⟨g1, g2, g3⟩ := hg (adv B n s) a1
  unfold pThen
  cases hr : (sub (adv B n s)).1 with
  | none => exact ⟨g1, by dsimp only; omega, fun c' e => by cases e⟩
  | some c =>
    obtain ⟨g4, g5⟩ := g3 c hr
    refine ⟨g1, by dsimp only; omega, fun c' e => ?_⟩
    cases e
    dsimp only
    simp
    omega
theorem oneS_gd {a : (PS → PR) × (PS → PR)} (h1 : Gd n a.1) (h2 : Gd n a.2) : Gd n (oneS B n a) := by
  intro s ho
  unfold oneS
  by_cases t0 : s.1 < -6
  · rw [if_pos t0]
    by_cases t1 : s.1 = -16
    · rw [if_pos t1]; exact app_gd h1 (-18) s ho (by rw [t1]; decide)
    · rw [if_neg t1]
      by_cases t2 : s.1 = -19
      · rw [if_pos t2]
        obtain ⟨a1, a2⟩ := adv_lt (B := B) ho (by rw [t2]; decide)
        obtain ⟨g1, g2, g3⟩ := pOr_gd (B := B) h2 (adv B n s) a1
        unfold pThen
        cases hr : (pOr B n a.2 (adv B n s)).1 with
        | none => exact ⟨g1, by dsimp only; omega, fun c' e => by cases e⟩
        | some c =>
          obtain ⟨g4, g5⟩ := g3 c hr
          dsimp only
          by_cases t3 : (pOr B n a.2 (adv B n s)).2.1 = -20
          · rw [if_pos t3]
            obtain ⟨b1, b2⟩ := adv_lt (B := B) g1 (by rw [t3]; decide)
            exact ⟨b1, by dsimp only; omega, fun c' e => by cases e; dsimp only; omega⟩
          · rw [if_neg t3]
            exact ⟨g1, by dsimp only; omega, fun c' e => by cases e⟩
      · rw [if_neg t2]; exact no_gd s ho
  · rw [if_neg t0]; exact one_gd s ho t0
theorem notZ_gd : Gd n (notZ B n) := by
  intro s ho
  unfold notZ
  by_cases h : s.1 = -12
  · simp only [if_pos h]; exact no_gd s ho
  · simp only [if_neg h]; exact pCmp_gd oneZ_gd s ho
theorem notS_gd {a : (PS → PR) × (PS → PR)} (h1 : Gd n a.1) (h2 : Gd n a.2) : Gd n (notS B n a) := by
  intro s ho
  unfold notS
  by_cases h : s.1 = -12
  · simp only [if_pos h]; exact app_gd h2 (-12) s ho (by rw [h]; decide)
  · simp only [if_neg h]; exact pCmp_gd (oneS_gd h1 h2) s ho
theorem pAll_gd : ∀ k, Gd n (pAll B n k).1 ∧ Gd n (pAll B n k).2
  | 0 => ⟨oneZ_gd, notZ_gd⟩
  | k + 1 => ⟨oneS_gd (pAll_gd k).1 (pAll_gd k).2, notS_gd (pAll_gd k).1 (pAll_gd k).2⟩
end PUREL
