/-! THE TOKENS OF A TEXT: bytes B, n of them; from place p on: the token, where it begins, what is behind it -/
abbrev PS : Type := Int32 × Nat × Nat
def isBl (x : Int32) : Bool := decide (x = 32 ∨ x = 10)
def isLt (x : Int32) : Bool := decide (¬ x < 97 ∧ ¬ 122 < x)
def isDg (x : Int32) : Bool := decide (¬ x < 48 ∧ ¬ 57 < x)
def scan (q : Int32 → Bool) (B : Nat → Int32) : Nat → Nat → Nat
  | 0, p => p
  | r + 1, p => if q (B p) = true then scan q B r (p + 1) else p
def sgn (x : Int32) : Int32 := if x = 40 then -19 else if x = 41 then -20 else if x = 42 then -17 else if x = 43 then -15 else if x = 45 then -16 else if x = 59 then -21 else if x = 60 then -13 else if x = 61 then -14 else -23
def numN (B : Nat → Int32) (b r : Nat) : Nat := fold (fun i s => 10 * s + ((B i).toNatClampNeg - 48)) b r 0
def isW (B : Nat → Int32) (b e : Nat) (w : List Int32) : Bool := decide (e = b + w.length ∧ ∀ i, i < w.length → B (b + i) = w.getD i 0)
def wordL : List (List Int32) := [[118, 97, 108, 117, 101], [102, 105, 114, 115, 116], [110, 117, 109, 98, 101, 114], [97, 103, 101], [111, 119, 110, 101, 114], [100, 97, 121], [116, 117, 114, 110, 115], [103, 105, 118, 101, 115], [115, 112, 111, 105, 108, 115], [111, 114], [97, 110, 100], [110, 111, 116]]
def wrdF (B : Nat → Int32) (b e : Nat) : List (List Int32) → Int32 → Int32
  | [], _ => -23
  | w :: ws, c => if isW B b e w = true then c else wrdF B b e ws (c - 1)
def wrd (B : Nat → Int32) (b e : Nat) : Int32 := wrdF B b e wordL (-1)
def tokAt (B : Nat → Int32) (n p b : Nat) : PS :=
  if b < n then
    (if isLt (B b) = true then (wrd B b (scan isLt B (n - b) b), b, scan isLt B (n - b) b)
    else if isDg (B b) = true then (if scan isDg B (n - b) b - b ≤ 4 then nI (numN B b (scan isDg B (n - b) b - b)) else -23, b, scan isDg B (n - b) b)
    else (sgn (B b), b, b + 1))
  else (-22, b, p)
def tok (B : Nat → Int32) (n p : Nat) : PS := tokAt B n p (scan isBl B (n - p) p)
theorem scan_le (q : Int32 → Bool) (B : Nat → Int32) : ∀ r p, p ≤ scan q B r p ∧ scan q B r p ≤ p + r
  | 0, p => ⟨Nat.le_refl _, Nat.le_refl _⟩
  | r + 1, p => by
    unfold scan
    split
    · have := scan_le q B r (p + 1); omega
    · omega
theorem scan_all (q : Int32 → Bool) (B : Nat → Int32) : ∀ r p i, p ≤ i → i < scan q B r p → q (B i) = true
  | 0, p, i, h1, h2 => by unfold scan at h2; omega
  | r + 1, p, i, h1, h2 => by
    unfold scan at h2
    split at h2
    · rename_i hq
      by_cases e : i = p
      · subst e; exact hq
      · exact scan_all q B r (p + 1) i (by omega) h2
    · omega
theorem scan_gt {q : Int32 → Bool} {B : Nat → Int32} {r p : Nat} (hr : 0 < r) (h : q (B p) = true) : p < scan q B r p := by
  cases r with
  | zero => omega
  | succ r => unfold scan; rw [if_pos h]; have := (scan_le q B r (p + 1)).1; omega
/-- the tape holds the bytes -/
def LX (B : Nat → Int32) (n : Nat) (m : Mem) : Prop := n ≤ 160 ∧ mD m 2 1 = nI n ∧ ∀ i, i < n → mD m 3 i = B i
def pTk (k i : Nat) : Prop := k = 2 ∧ (i = 2 ∨ i = 3 ∨ i = 4)
def pB4 (k i : Nat) : Prop := k = 2 ∧ i = 4
theorem pB4.t {k i : Nat} (h : pB4 k i) : pTk k i := ⟨h.1, Or.inr (Or.inr h.2)⟩
theorem LX.ag {B : Nat → Int32} {n : Nat} {m m' : Mem} (h : LX B n m) (ha : Ag pTk m m') : LX B n m' := by
  refine ⟨h.1, ?_, fun i hi => ?_⟩
  · rw [ha.2 2 1 (by unfold pTk; omega)]; exact h.2.1
  · rw [ha.2 3 i (by unfold pTk; omega)]; exact h.2.2 i hi
section LXS
variable {B : Nat → Int32} {n : Nat} {m : Mem}
theorem x_isLt (m : Mem) (x : Int32) : F_X5_isBetween m x 97 122 = some (isLt x, m) := by
  unfold F_X5_isBetween isLt; repeat' split
  all_goals simp_all
theorem x_isDg (m : Mem) (x : Int32) : F_X5_isBetween m x 48 57 = some (isDg x, m) := by
  unfold F_X5_isBetween isDg; repeat' split
  all_goals simp_all
theorem x_sgn (m : Mem) (x : Int32) : F_X3_sign m x = some (sgn x, m) := by
  unfold F_X3_sign sgn
  by_cases h0 : x = 40
  · subst h0; rfl
  by_cases h1 : x = 41
  · subst h1; rfl
  by_cases h2 : x = 42
  · subst h2; rfl
  by_cases h3 : x = 43
  · subst h3; rfl
  by_cases h4 : x = 45
  · subst h4; rfl
  by_cases h5 : x = 59
  · subst h5; rfl
  by_cases h6 : x = 60
  · subst h6; rfl
  by_cases h7 : x = 61
  · subst h7; rfl
  simp only [h0, h1, h2, h3, h4, h5, h6, h7, if_false, ite_self]
theorem LX.le (h : LX B n m) {j : Nat} (hj : n ≤ j) (hj2 : j < 1000) : mD m 2 1 ≤ nI j := by
  rw [h.2.1, nI_le' (by have := h.1; omega) hj2]; exact hj
theorem LX.nle (h : LX B n m) {j : Nat} (hj : j < n) : ¬ mD m 2 1 ≤ nI j := by
  have := h.1
  rw [h.2.1, nI_le' (by omega) (by omega)]; omega
theorem x_behind {q : Int32 → Bool} {lo hi : Int32} (hq : ∀ x, q x = decide (¬ x < lo ∧ ¬ hi < x)) : ∀ (r j fu : Nat) (m : Mem), j + r = n → r < fu → LX B n m → Ev pB4 (fun m' => mD m' 2 4 = if scan q B r j = j then mD m 2 4 else nI (scan q B r j)) (F_X3_goBehindAll_5 fu m lo hi (nI j)) m () := by
  intro r
  induction r with
  | zero =>
    intro j fu m hj hf h
    have := h.1
    cases fu with
    | zero => omega
    | succ fu =>
      unfold F_X3_goBehindAll_5
      rw [if_pos (h.le (by omega) (by omega))]
      exact Ev.ret (by simp [scan])
  | succ r ih =>
    intro j fu m hj hf h
    have := h.1
    cases fu with
    | zero => omega
    | succ fu =>
      unfold F_X3_goBehindAll_5
      rw [if_neg (h.nle (by omega)), gIf_pos (vp_n (by omega) (by decide)), gIf_pos (vp_n (by omega) (by decide)), nI_c (by omega), h.2.2 j (by omega), nI_1]
      unfold scan
      by_cases h1 : B j < lo
      · rw [if_pos h1]
        simp only [hq, h1, not_true_eq_false, false_and, decide_false, Bool.false_eq_true, if_false, if_true]
        exact Ev.ret rfl
      · rw [if_neg h1]
        by_cases h2 : hi < B j
        · rw [if_pos h2]
          simp only [hq, h2, not_true_eq_false, and_false, decide_false, Bool.false_eq_true, if_false, if_true]
          exact Ev.ret rfl
        · rw [if_neg h2, if_pos (show q (B j) = true by rw [hq]; exact decide_eq_true ⟨h1, h2⟩)]
          refine Ev.namW ⟨rfl, rfl⟩ ?_
          refine (ih (j + 1) fu _ (by omega) (by omega) (h.ag (Ag.d ⟨rfl, Or.inr (Or.inr rfl)⟩))).im fun m' hm' => ?_
          have hs := (scan_le q B r (j + 1)).1
          rw [hm', if_neg (show ¬ scan q B r (j + 1) = j by omega)]
          split
          · rename_i e; rw [e, mD_wD]; simp
          · rfl
theorem x_behind_word : ∀ (r j fu : Nat) (m : Mem), j + r = n → r < fu → LX B n m → Ev pB4 (fun m' => mD m' 2 4 = if scan isLt B r j = j then mD m 2 4 else nI (scan isLt B r j)) (F_X3_goBehindAll_5 fu m 97 122 (nI j)) m () := x_behind fun _ => rfl
theorem x_behind_number : ∀ (r j fu : Nat) (m : Mem), j + r = n → r < fu → LX B n m → Ev pB4 (fun m' => mD m' 2 4 = if scan isDg B r j = j then mD m 2 4 else nI (scan isDg B r j)) (F_X3_goBehindAll_5 fu m 48 57 (nI j)) m () := x_behind fun _ => rfl
/-! a number of at most four digits -/
theorem dg_nat {x : Int32} (h : isDg x = true) : ∃ k, k < 10 ∧ x = nI (48 + k) ∧ x.toNatClampNeg - 48 = k := by
  have h' : ¬ x < 48 ∧ ¬ 57 < x := by simpa [isDg] using h
  rw [Int32.lt_iff_toInt_lt, Int32.lt_iff_toInt_lt, show (48 : Int32).toInt = 48 from rfl, show (57 : Int32).toInt = 57 from rfl] at h'
  obtain ⟨k, hk, e⟩ := btw_nat (x := x) (hi := 57) (btw_iff.mpr ⟨by omega, by omega⟩) (by decide)
  have : 48 ≤ k := by
    rw [e, nI_toInt (by omega)] at h'; omega
  refine ⟨k - 48, by omega, by rw [e, show 48 + (k - 48) = k by omega], by rw [e, nI_c (by omega)]⟩
theorem nI_dec (a k : Nat) : nI a * 10 + nI (48 + k) - 48 = nI (10 * a + k) := by
  have e1 : nI (48 + k) = nI 48 + nI k := Int32.ofNat_add 48 k
  have e2 : nI (10 * a + k) = nI 10 * nI a + nI k := by rw [show nI (10 * a + k) = nI (10 * a) + nI k from Int32.ofNat_add _ _, show nI (10 * a) = nI 10 * nI a from Int32.ofNat_mul _ _]
  rw [e1, e2, show nI 48 = 48 from rfl, show nI 10 = 10 from rfl, Int32.mul_comm (nI a) 10, Int32.sub_eq_add_neg, Int32.add_assoc, Int32.add_comm 48 (nI k), Int32.add_assoc, show (48 : Int32) + -48 = 0 from rfl, Int32.add_zero]
theorem x_number (h : LX B n m) {b e : Nat} (he : e ≤ n) (hbe : b ≤ e) (h3 : mD m 2 3 = nI b) (h4 : mD m 2 4 = nI e) (hd : ∀ i, b ≤ i → i < e → isDg (B i) = true) : F_X3_number m = some (if e - b ≤ 4 then nI (numN B b (e - b)) else -23, m) := by
  have hn := h.1
  unfold F_X3_number
  rw [h3, h4]
  have hs : nI e - nI b = nI (e - b) := by
    have : nI e = nI (e - b) + nI b := by rw [← show nI (e - b + b) = nI (e - b) + nI b from Int32.ofNat_add _ _, show e - b + b = e by omega]
    rw [this, Int32.sub_eq_add_neg, Int32.add_assoc, show nI b + -nI b = 0 from by rw [← Int32.sub_eq_add_neg, Int32.sub_self], Int32.add_zero]
  rw [hs]
  have h54 : (nI (e - b) ≤ 4) = (e - b ≤ 4) := by rw [show (4 : Int32) = nI 4 from rfl]; exact nI_le' (by omega) (by omega)
  by_cases h5 : e - b ≤ 4
  · rw [if_pos (h54 ▸ h5), if_pos h5]
    refine Ev.eqm ?_
    have key : ∀ (r i fu : Nat) (s : Nat), i + r = e → b ≤ i → r < fu → Ev pF (fun x => x = m) (F_X3_number_23 fu m (nI s) (nI i)) m (nI (fold (fun i s => 10 * s + ((B i).toNatClampNeg - 48)) i r s)) := by
      intro r
      induction r with
      | zero =>
        intro i fu s hi hb hf
        cases fu with
        | zero => omega
        | succ fu =>
          unfold F_X3_number_23
          rw [h4, if_pos (by rw [nI_le' (by omega) (by omega)]; omega)]
          exact Ev.ret rfl
      | succ r ih =>
        intro i fu s hi hb hf
        cases fu with
        | zero => omega
        | succ fu =>
          unfold F_X3_number_23
          obtain ⟨k, hk, e1, e2⟩ := dg_nat (hd i hb (by omega))
          rw [h4, if_neg (by rw [nI_le' (by omega) (by omega)]; omega), gIf_pos (vp_n (by omega) (by decide)), nI_c (by omega), h.2.2 i (by omega), e1, nI_dec, nI_1]
          refine Ev.nam ?_
          show Ev pF _ _ m (nI (fold (fun i s => 10 * s + ((B i).toNatClampNeg - 48)) (i + 1) r (10 * s + ((B i).toNatClampNeg - 48))))
          rw [e2]
          exact ih (i + 1) fu (10 * s + k) (by omega) (by omega) (by omega)
    exact key (e - b) b FU 0 (by omega) (Nat.le_refl _) (hFU (by omega))
  · rw [if_neg (h54 ▸ h5), if_neg h5]
end LXS
