/-! a whole text: three parts -/
def pPart (B : Nat → Int32) (n : Nat) (w : Int32) (s : PS) : PR := if s.1 = w then pThen (pOr B n (pAll B n 5).2 (adv B n s)) fun c s' => if s'.1 = -21 then (some c, adv B n s') else (none, s') else (none, s)
abbrev C3 : Type := List Int32 × List Int32 × List Int32
def pRead (B : Nat → Int32) (n : Nat) : Option C3 × PS := match pPart B n (-7) (tok B n 0) with
  | (none, s) => (none, s)
  | (some c0, s1) => match pPart B n (-8) s1 with
    | (none, s) => (none, s)
    | (some c1, s2) => match pPart B n (-9) s2 with
      | (none, s) => (none, s)
      | (some c2, s3) => if s3.1 = -22 then (some (c0, c1, c2), s3) else (none, s3)
section XRD
variable {B : Nat → Int32} {n : Nat} {m : Mem}
theorem pPart_gd {w : Int32} (hw : ¬ w = -22) : Gd n (pPart B n w) := by
  intro s ho
  unfold pPart
  by_cases t2 : s.1 = w
  · simp only [if_pos t2]
    obtain ⟨a1, a2⟩ := adv_lt (B := B) ho (by rw [t2]; exact hw)
    obtain ⟨g1, g2, g3⟩ := pOr_gd (B := B) (pAll_gd 5).2 (adv B n s) a1
    unfold pThen
    cases hr : (pOr B n (pAll B n 5).2 (adv B n s)).1 with
    | none => exact ⟨g1, by dsimp only; omega, fun c' e => by cases e⟩
    | some c =>
      obtain ⟨g4, g5⟩ := g3 c hr
      dsimp only
      by_cases t3 : (pOr B n (pAll B n 5).2 (adv B n s)).2.1 = -21
      · rw [if_pos t3]
        obtain ⟨b1, b2⟩ := adv_lt (B := B) g1 (by rw [t3]; decide)
        exact ⟨b1, by dsimp only; omega, fun c' e => by cases e; dsimp only; omega⟩
      · rw [if_neg t3]
        exact ⟨g1, by dsimp only; omega, fun c' e => by cases e⟩
  · simp only [if_neg t2]; exact no_gd s ho
def pRd (k i : Nat) : Prop := (k = 2 ∧ ¬ i = 1) ∨ k = 4 ∨ k = 5
theorem pPa.r {k i : Nat} (h : pPa k i) : pRd k i := by rcases h with h | h; exact Or.inl h; exact Or.inr (Or.inl h)
def p5 (k i : Nat) : Prop := k = 5
/-- a part is read, and its end is laid -/
theorem x_part {c : List Int32} {s : PS} {j : Nat} (hj : j < 3) {w : Int32} (hw : ¬ w = -22) (h : XS B n c s m) (ho : okS n s) : Ev pRd (fun m' => XP B n c (pPart B n w s) m' ∧ (∀ i, ¬ i = j → mD m' 5 i = mD m 5 i) ∧ ∀ cs, (pPart B n w s).1 = some cs → mD m' 5 j = nI (c.length + cs.length)) (F_X3_readPart m (nI j) w) m (pPart B n w s).1.isSome := by
  unfold F_X3_readPart pPart
  rw [h.1.2.1]
  by_cases t2 : s.1 = w
  · simp only [if_pos t2]
    have ht : ¬ s.1 = -22 := by rw [t2]; exact hw
    obtain ⟨a1, a2⟩ := adv_lt (B := B) ho ht
    obtain ⟨g1, g2, g3⟩ := pOr_gd (B := B) (pAll_gd 5).2 (adv B n s) a1
    refine Ev.bdM (x_adv h ho ht) (fun k i hp => pPa.r hp) fun m1 ha1 h1 => Ev.bdM (x_expr m1 c _ h1 a1) (fun k i hp => pPa.r hp) fun m2 ha2 h2 => ?_
    obtain ⟨c', x1, x2⟩ := h2
    have e5 : ∀ i, mD m2 5 i = mD m 5 i := fun i => by rw [ha2.2 5 i (by unfold pPa; omega), ha1.2 5 i (by unfold pPa; omega)]
    unfold pThen
    cases hr : (pOr B n (pAll B n 5).2 (adv B n s)).1 with
    | none => exact Ev.ift (by simp [bz]) (Ev.ret ⟨⟨c', x1, fun c e => by cases e⟩, fun i _ => e5 i, fun cs e => by cases e⟩)
    | some c2 =>
      have e1 := x2 c2 hr
      subst e1
      refine Ev.iff (by simp [bz]) ?_
      rw [x1.1.2.1]
      dsimp only
      by_cases t3 : (pOr B n (pAll B n 5).2 (adv B n s)).2.1 = -21
      · simp only [if_pos t3]
        refine Ev.bdM (x_adv x1 g1 (by rw [t3]; decide)) (fun k i hp => pPa.r hp) fun m3 ha3 h3 => ?_
        refine Ev.gif (vp_n hj (by decide)) ?_
        rw [nI_c (by omega)]
        obtain ⟨⟨l1, l2, l3, l4, l5, l6⟩, l7⟩ := h3
        refine Ev.namW (Or.inr (Or.inr rfl)) (Ev.ret ⟨⟨c ++ c2, ⟨⟨⟨l1.1, ?_, fun i hi => ?_⟩, ?_, ?_, ?_, ?_, fun i hi => ?_⟩, l7⟩, fun cs e => by cases e; rfl⟩, fun i hi => ?_, fun cs e => ?_⟩)
        · rw [mD_wD, if_neg (by omega)]; exact l1.2.1
        · rw [mD_wD, if_neg (by omega)]; exact l1.2.2 i hi
        · rw [mD_wD, if_neg (by omega)]; exact l2
        · rw [mD_wD, if_neg (by omega)]; exact l3
        · rw [mD_wD, if_neg (by omega)]; exact l4
        · rw [mD_wD, if_neg (by omega)]; exact l5
        · rw [mD_wD, if_neg (by omega)]; exact l6 i hi
        · rw [mD_wD, if_neg (by omega), ha3.2 5 i (by unfold pPa; omega)]; exact e5 i
        · cases e
          rw [mD_wD, if_pos ⟨rfl, rfl⟩, l5, List.length_append]
      · simp only [if_neg t3]
        exact Ev.ret ⟨⟨_, x1, fun c e => by cases e⟩, fun i _ => e5 i, fun cs e => by cases e⟩
  · simp only [if_neg t2]
    exact Ev.ret ⟨⟨c, h, fun c e => by cases e⟩, fun i _ => rfl, fun cs e => by cases e⟩
/-- what reading leaves -/
def Rd (B : Nat → Int32) (n : Nat) (m' : Mem) : Prop := LX B n m' ∧ ∀ c0 c1 c2, (pRead B n).1 = some (c0, c1, c2) → mD m' 2 6 = nI (c0.length + c1.length + c2.length) ∧ c0.length + c1.length + c2.length ≤ 160 ∧ (∀ j, j < c0.length + c1.length + c2.length → mD m' 4 j = (c0 ++ (c1 ++ c2)).getD j 0) ∧ mD m' 5 0 = nI c0.length ∧ mD m' 5 1 = nI (c0.length + c1.length) ∧ mD m' 5 2 = nI (c0.length + c1.length + c2.length)
theorem x_read (h : LX B n m) : Ev pRd (Rd B n) (F_X3_read m) m (match (pRead B n).1 with | some _ => -1 | none => nI (pRead B n).2.2.1) := by
  have hn := h.1
  unfold F_X3_read F_X3_read_58
  refine Ev.namW (Or.inl ⟨rfl, by decide⟩) (Ev.namW (Or.inl ⟨rfl, by decide⟩) ?_)
  have h1 : LX B n (wD (wD m 2 6 0) 2 4 0) := by
    refine ⟨h.1, ?_, fun i hi => ?_⟩
    · rw [mD_wD, if_neg (by omega), mD_wD, if_neg (by omega)]; exact h.2.1
    · rw [mD_wD, if_neg (by omega), mD_wD, if_neg (by omega)]; exact h.2.2 i hi
  have h4 : mD (wD (wD m 2 6 0) 2 4 0) 2 4 = nI 0 := by rw [mD_wD, if_pos ⟨rfl, rfl⟩]; rfl
  have h6 : mD (wD (wD m 2 6 0) 2 4 0) 2 6 = nI 0 := by rw [mD_wD, if_neg (by omega), mD_wD, if_pos ⟨rfl, rfl⟩]; rfl
  generalize wD (wD m 2 6 0) 2 4 0 = m0 at h1 h4 h6
  refine Ev.bdM (x_advance h1 (Nat.zero_le n) h4) (fun k i hp => Or.inl ⟨hp.1, by have := hp.2; omega⟩) fun m1 ha1 hm1 => ?_
  obtain ⟨g1, g2, g3, g4⟩ := hm1
  have k1 : XS B n [] (tok B n 0) m1 := ⟨⟨g1, g2, g3, g4, by rw [ha1.2 2 6 (by unfold pTk; omega)]; exact h6, fun j hj => absurd hj (Nat.not_lt_zero j)⟩, Nat.zero_le _⟩
  have o1 : okS n (tok B n 0) := (tok_ok (Nat.zero_le n)).1
  have bad : ∀ (m' : Mem) (c : List Int32) (s : PS), XS B n c s m' → (pRead B n) = (none, s) → Ev pRd (Rd B n) (F_X3_read_59 m' 0) m' (match (pRead B n).1 with | some _ => -1 | none => nI (pRead B n).2.2.1) := by
    intro m' c s hx he
    unfold F_X3_read_59
    rw [if_pos rfl, he, hx.1.2.2.1]
    exact Ev.ret ⟨hx.1.1, fun a b c e => by rw [he] at e; cases e⟩
  refine Ev.bd (x_part (j := 0) (by decide) (w := -7) (by decide) k1 o1) fun m2 hm2 => ?_
  obtain ⟨⟨d1, y1, y2⟩, y3, y4⟩ := hm2
  obtain ⟨q1, q2, q3⟩ := pPart_gd (B := B) (n := n) (w := -7) (by decide) (tok B n 0) o1
  generalize hp1 : pPart B n (-7) (tok B n 0) = r1 at *
  obtain ⟨r1c, s1⟩ := r1
  cases r1c with
  | none => exact Ev.ift (by simp [bz]) (bad m2 d1 s1 y1 (by unfold pRead; rw [hp1]))
  | some c0 =>
    refine Ev.iff (by simp [bz]) ?_
    obtain rfl : c0 = d1 := (y2 c0 rfl).symm
    refine Ev.bd (x_part (j := 1) (by decide) (w := -8) (by decide) y1 q1) fun m3 hm3 => ?_
    obtain ⟨⟨d2, z1, z2⟩, z3, z4⟩ := hm3
    obtain ⟨p1, p2, p3⟩ := pPart_gd (B := B) (n := n) (w := -8) (by decide) s1 q1
    generalize hp2 : pPart B n (-8) s1 = r2 at *
    obtain ⟨r2c, s2⟩ := r2
    cases r2c with
    | none => exact Ev.ift (by simp [bz]) (bad m3 d2 s2 z1 (by unfold pRead; rw [hp1]; dsimp only; rw [hp2]))
    | some c1 =>
      refine Ev.iff (by simp [bz]) ?_
      have e1 := z2 c1 rfl
      subst e1
      refine Ev.bd (x_part (j := 2) (by decide) (w := -9) (by decide) z1 p1) fun m4 hm4 => ?_
      obtain ⟨⟨d3, u1, u2⟩, u3, u4⟩ := hm4
      obtain ⟨v1, v2, v3⟩ := pPart_gd (B := B) (n := n) (w := -9) (by decide) s2 p1
      generalize hp3 : pPart B n (-9) s2 = r3 at *
      obtain ⟨r3c, s3⟩ := r3
      cases r3c with
      | none => exact Ev.ift (by simp [bz]) (bad m4 d3 s3 u1 (by unfold pRead; rw [hp1]; dsimp only; rw [hp2]; dsimp only; rw [hp3]))
      | some c2 =>
        refine Ev.iff (by simp [bz]) ?_
        have e2 := u2 c2 rfl
        subst e2
        rw [u1.1.2.1]
        by_cases t : s3.1 = -22
        · have he : pRead B n = (some (c0, c1, c2), s3) := by unfold pRead; rw [hp1]; dsimp only; rw [hp2]; dsimp only; rw [hp3]; dsimp only; rw [if_pos t]
          rw [he, if_pos t]
          unfold F_X3_read_59
          rw [if_neg (by decide)]
          refine Ev.ret ⟨u1.1.1, fun a b c e => ?_⟩
          rw [he] at e
          cases e
          have w1 := u1.1.2.2.2.2.1
          have w2 := u1.1.2.2.2.2.2
          have w3 := u1.2
          have w4 := v1.1
          simp only [List.nil_append, List.length_append] at w1 w2 w3
          refine ⟨w1, by dsimp only at w3 w4; omega, fun j hj => by rw [w2 j hj, List.append_assoc], ?_, ?_, ?_⟩
          · rw [u3 0 (by decide), z3 0 (by decide), y4 c0 rfl]; simp
          · rw [u3 1 (by decide), z4 c1 rfl]
          · rw [u4 c2 rfl]; simp
        · rw [if_neg t]
          exact bad m4 _ s3 u1 (by unfold pRead; rw [hp1]; dsimp only; rw [hp2]; dsimp only; rw [hp3]; dsimp only; rw [if_neg t])
end XRD
