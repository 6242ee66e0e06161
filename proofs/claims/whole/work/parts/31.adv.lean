/-! words, and the step to the next token -/
section LXA
variable {B : Nat → Int32} {n : Nat} {m : Mem}
def mt (B : Nat → Int32) (b e : Nat) (w : List Int32) (i : Nat) : Prop := b + i ≤ e ∧ ∀ j, j < i → B (b + j) = w.getD j 0
theorem x_word_one (h : LX B n m) {b e : Nat} (he : e ≤ n) (hbe : b ≤ e) (h3 : mD m 2 3 = nI b) (h4 : mD m 2 4 = nI e) (w : List Int32) (c : Int32) (o : Nat) (ho : o + w.length < 63) (hs : ∀ i, i < w.length → sch 1 (o + i) = w.getD i 0 ∧ ¬ w.getD i 0 = 32) (hsp : sch 1 (o + w.length) = 32) (fu : Nat) :
    ∀ (r i : Nat) (fl : Int32), i + r = w.length → (fl = 1 ∧ mt B b e w i ∨ fl = 0 ∧ ¬ mt B b e w i) → F_X3_word_12 (fu + r + 1) m c (nI (b + i)) fl (nI (o + i)) = if isW B b e w = true then some (c, m) else F_X3_word_12 fu m (c + -1) (nI b) 1 (nI (o + w.length + 1)) := by
  have hn := h.1
  have h63 : (63 : Int32) = nI 63 := rfl
  intro r
  induction r with
  | zero =>
    intro i fl hi hfl
    have hi' : i = w.length := by omega
    subst hi'
    show F_X3_word_12 (fu + 1) m c (nI (b + w.length)) fl (nI (o + w.length)) = _
    have hW : isW B b e w = true ↔ mt B b e w w.length ∧ e = b + w.length := by
      unfold isW mt; simp only [decide_eq_true_eq]
      constructor
      · intro z; exact ⟨⟨by omega, z.2⟩, z.1⟩
      · intro z; exact ⟨z.2, z.1.2⟩
    rw [F_X3_word_12]
    unfold F_X3_word_87 F_X3_word_97
    dsimp only
    rw [if_neg (show ¬ (63 : Int32) ≤ nI (o + w.length) by rw [h63, nI_le' (by omega) (by omega)]; omega), gIf_pos (vp_n (by omega) (by decide)), nI_c (by omega), hsp]
    simp only [nm, if_true, h3, h4, nI_1]
    rcases hfl with ⟨rfl, hm⟩ | ⟨rfl, hm⟩
    · rw [if_neg (by decide)]
      by_cases e1 : e = b + w.length
      · rw [if_pos (by rw [e1]), if_pos (hW.mpr ⟨hm, e1⟩)]
      · rw [if_neg (by rw [nI_eq' (by omega) (by omega)]; omega), if_neg (fun z => e1 (hW.mp z).2)]
    · rw [if_pos rfl, if_neg (fun z => hm (hW.mp z).1)]
  | succ r ih =>
    intro i fl hi hfl
    obtain ⟨hs1, hs2⟩ := hs i (by omega)
    rw [show fu + (r + 1) + 1 = (fu + r + 1) + 1 by omega]
    have st : ∀ fl' : Int32, (fl' = 1 ∧ mt B b e w (i + 1) ∨ fl' = 0 ∧ ¬ mt B b e w (i + 1)) → F_X3_word_12 (fu + r + 1) m c (nI (b + i + 1)) fl' (nI (o + i + 1)) = if isW B b e w = true then some (c, m) else F_X3_word_12 fu m (c + -1) (nI b) 1 (nI (o + w.length + 1)) := fun fl' hh => ih (i + 1) fl' (by omega) hh
    rw [F_X3_word_12]
    unfold F_X3_word_65 F_X3_word_66 F_X3_word_97
    dsimp only
    rw [if_neg (show ¬ (63 : Int32) ≤ nI (o + i) by rw [h63, nI_le' (by omega) (by omega)]; omega), gIf_pos (vp_n (by omega) (by decide)), nI_c (by omega), hs1]
    simp only [nm, hs2, if_false, h4, nI_1]
    have step : mt B b e w (i + 1) ↔ mt B b e w i ∧ b + i < e ∧ B (b + i) = w.getD i 0 := by
      unfold mt
      constructor
      · intro z; exact ⟨⟨by omega, fun j hj => z.2 j (by omega)⟩, by omega, z.2 i (by omega)⟩
      · intro z
        refine ⟨by omega, fun j hj => ?_⟩
        by_cases ej : j = i
        · subst ej; exact z.2.2
        · exact z.1.2 j (by omega)
    rcases hfl with ⟨rfl, hm⟩ | ⟨rfl, hm⟩
    · rw [if_neg (by decide)]
      by_cases e1 : e ≤ b + i
      · rw [if_pos (by rw [nI_le' (by omega) (by omega)]; exact e1)]
        exact st 0 (Or.inr ⟨rfl, fun z => by have := (step.mp z).2.1; omega⟩)
      · rw [if_neg (by rw [nI_le' (by omega) (by omega)]; exact e1), gIf_pos (vp_n (by omega) (by decide)), nI_c (by omega), h.2.2 (b + i) (by omega)]
        by_cases e2 : B (b + i) = w.getD i 0
        · rw [if_pos e2]; exact st 1 (Or.inl ⟨rfl, step.mpr ⟨hm, by omega, e2⟩⟩)
        · rw [if_neg e2]; exact st 0 (Or.inr ⟨rfl, fun z => e2 (step.mp z).2.2⟩)
    · rw [if_pos rfl]
      exact st 0 (Or.inr ⟨rfl, fun z => hm (step.mp z).1⟩)
theorem sch_words : sch 1 63 = 0 ∧ (∀ i, i < 5 → sch 1 (0 + i) = [118, 97, 108, 117, 101].getD i 0 ∧ ¬ [118, 97, 108, 117, 101].getD i (0 : Int32) = 32) ∧ sch 1 5 = 32 := by decide +kernel
def offL : List Nat := [0, 6, 12, 19, 23, 29, 33, 39, 45, 52, 55, 59]
theorem words_ok : ∀ j, j < 12 → (offL.getD j 0 + (wordL.getD j []).length < 63 ∧ (∀ i, i < (wordL.getD j []).length → sch 1 (offL.getD j 0 + i) = (wordL.getD j []).getD i 0 ∧ ¬ (wordL.getD j []).getD i 0 = 32) ∧ sch 1 (offL.getD j 0 + (wordL.getD j []).length) = 32 ∧ (offL.getD j 0 + (wordL.getD j []).length + 1 = offL.getD (j + 1) 63)) := by decide +kernel
theorem x_word (h : LX B n m) {b e : Nat} (he : e ≤ n) (hbe : b ≤ e) (h3 : mD m 2 3 = nI b) (h4 : mD m 2 4 = nI e) : F_X3_word m = some (wrd B b e, m) := by
  unfold F_X3_word
  rw [h3]
  have key : ∀ (r j : Nat) (c : Int32) (fu : Nat), j + r = 12 → F_X3_word_12 (fu + 64 - offL.getD j 63) m c (nI b) 1 (nI (offL.getD j 63)) = some (wrdF B b e (wordL.drop j) c, m) := by
    intro r
    induction r with
    | zero =>
      intro j c fu hj
      have : j = 12 := by omega
      subst this
      show F_X3_word_12 (fu + 1) m c (nI b) 1 (nI 63) = some (-23, m)
      rw [F_X3_word_12]
      dsimp only
      rw [if_pos (by decide)]
    | succ r ih =>
      intro j c fu hj
      obtain ⟨w1, w2, w3, w4⟩ := words_ok j (by omega)
      have hl : j < wordL.length := by show j < 12; omega
      have hd : wordL.drop j = wordL.getD j [] :: wordL.drop (j + 1) := by
        rw [List.drop_eq_getElem_cons hl, List.getD_eq_getElem?_getD, List.getElem?_eq_getElem hl]; rfl
      have ho : offL.getD j 63 = offL.getD j 0 := by
        have hl' : j < offL.length := by show j < 12; omega
        rw [List.getD_eq_getElem?_getD, List.getD_eq_getElem?_getD, List.getElem?_eq_getElem hl']; rfl
      rw [ho, hd]
      generalize wordL.getD j [] = w at *
      generalize offL.getD j 0 = o at *
      have nx := ih (j + 1) (c + -1) fu (by omega)
      rw [← w4] at nx
      have on := x_word_one h he hbe h3 h4 w c o w1 w2 w3 (fu + 64 - (o + w.length + 1)) w.length 0 1 (by omega) (Or.inl ⟨rfl, ⟨hbe, fun j hj => absurd hj (Nat.not_lt_zero j)⟩⟩)
      rw [show fu + 64 - (o + w.length + 1) + w.length + 1 = fu + 64 - o by omega] at on
      show F_X3_word_12 (fu + 64 - o) m c (nI (b + 0)) 1 (nI (o + 0)) = _
      rw [on, nx]
      show _ = some (if isW B b e w = true then c else wrdF B b e (wordL.drop (j + 1)) (c - 1), m)
      rw [show c - 1 = c + -1 from Int32.sub_eq_add_neg c 1]
      split <;> rfl
  exact key 12 0 (-1) 4936 (by omega)
theorem x_advance (h : LX B n m) {p : Nat} (hp : p ≤ n) (h4 : mD m 2 4 = nI p) : Ev pTk (fun m' => LX B n m' ∧ mD m' 2 2 = (tok B n p).1 ∧ mD m' 2 3 = nI (tok B n p).2.1 ∧ mD m' 2 4 = nI (tok B n p).2.2) (F_X3_advance m) m true := by
  have hn := h.1
  unfold F_X3_advance
  rw [h4]
  refine Ev.nam ?_
  have fin : ∀ b, b ≤ n → Ev pTk (fun m' => LX B n m' ∧ mD m' 2 2 = (tokAt B n p b).1 ∧ mD m' 2 3 = nI (tokAt B n p b).2.1 ∧ mD m' 2 4 = nI (tokAt B n p b).2.2) (F_X3_advance_47 m (nI b)) m true := by
    intro b hb
    unfold F_X3_advance_47 tokAt
    refine Ev.namW ⟨rfl, Or.inr (Or.inl rfl)⟩ ?_
    have ha1 : Ag pTk m (wD m 2 3 (nI b)) := Ag.d ⟨rfl, Or.inr (Or.inl rfl)⟩
    have h1 := h.ag ha1
    have h31 : mD (wD m 2 3 (nI b)) 2 3 = nI b := by rw [mD_wD]; simp
    have h41 : mD (wD m 2 3 (nI b)) 2 4 = nI p := by rw [mD_wD]; simpa using h4
    generalize wD m 2 3 (nI b) = m1 at h1 h31 h41
    rw [h1.2.1]
    by_cases hbn : b < n
    · rw [if_pos (show nI b < nI n by rw [nI_lt' (by omega) (by omega)]; exact hbn)]
      simp only [if_pos hbn]
      rw [gIf_pos (vp_n (by omega) (by decide)), nI_c (by omega), h1.2.2 b hbn, x_isLt, bnd_eq]
      simp only [bz0]
      cases hl : isLt (B b) with
      | true =>
        simp only [Bool.true_eq_false, if_false, if_true]
        unfold F_X3_goBehindAll
        rw [h31]
        refine Ev.bdM (x_behind_word (n - b) b FU m1 (by omega) (hFU (by omega)) h1) (fun k i hp => pB4.t hp) fun m2 ha2 h2 => ?_
        have hs := scan_le isLt B (n - b) b
        have hg := scan_gt (q := isLt) (B := B) (r := n - b) (p := b) (by omega) hl
        rw [if_neg (by omega)] at h2
        have h1' := h1.ag (ha2.mono fun k i hp => pB4.t hp)
        have h32 : mD m2 2 3 = nI b := by rw [ha2.2 2 3 (by unfold pB4; omega)]; exact h31
        rw [x_word h1' (by omega) (by omega) h32 h2, bnd_eq]
        refine Ev.namW ⟨rfl, Or.inl rfl⟩ (Ev.ret ⟨h1'.ag (Ag.d ⟨rfl, Or.inl rfl⟩), ?_, ?_, ?_⟩)
        · rw [mD_wD]; simp
        · rw [mD_wD]; simpa using h32
        · rw [mD_wD]; simpa using h2
      | false =>
        simp only [if_true, Bool.false_eq_true, if_false]
        rw [gIf_pos (vp_n (by omega) (by decide)), h1.2.2 b hbn, x_isDg, bnd_eq]
        cases hd : isDg (B b) with
        | true =>
          simp only [Bool.true_eq_false, if_false, if_true]
          unfold F_X3_goBehindAll
          rw [h31]
          refine Ev.bdM (x_behind_number (n - b) b FU m1 (by omega) (hFU (by omega)) h1) (fun k i hp => pB4.t hp) fun m2 ha2 h2 => ?_
          have hs := scan_le isDg B (n - b) b
          have hg := scan_gt (q := isDg) (B := B) (r := n - b) (p := b) (by omega) hd
          rw [if_neg (by omega)] at h2
          have h1' := h1.ag (ha2.mono fun k i hp => pB4.t hp)
          have h32 : mD m2 2 3 = nI b := by rw [ha2.2 2 3 (by unfold pB4; omega)]; exact h31
          rw [x_number h1' (by omega) (by omega) h32 h2 (fun i h1 h2 => scan_all isDg B (n - b) b i h1 h2), bnd_eq]
          refine Ev.namW ⟨rfl, Or.inl rfl⟩ (Ev.ret ⟨h1'.ag (Ag.d ⟨rfl, Or.inl rfl⟩), ?_, ?_, ?_⟩)
          · rw [mD_wD]; simp
          · rw [mD_wD]; simpa using h32
          · rw [mD_wD]; simpa using h2
        | false =>
          simp only [if_true, Bool.false_eq_true, if_false]
          rw [gIf_pos (vp_n (by omega) (by decide)), h1.2.2 b hbn, x_sgn, bnd_eq, nI_1]
          refine Ev.namW ⟨rfl, Or.inl rfl⟩ (Ev.namW ⟨rfl, Or.inr (Or.inr rfl)⟩ (Ev.ret ⟨(h1.ag (Ag.d ⟨rfl, Or.inl rfl⟩)).ag (Ag.d ⟨rfl, Or.inr (Or.inr rfl)⟩), ?_, ?_, ?_⟩))
          · rw [mD_wD, mD_wD]; simp
          · rw [mD_wD, mD_wD]; simpa using h31
          · rw [mD_wD]; simp
    · rw [if_neg (show ¬ nI b < nI n by rw [nI_lt' (by omega) (by omega)]; exact hbn)]
      simp only [if_neg hbn]
      refine Ev.namW ⟨rfl, Or.inl rfl⟩ (Ev.ret ⟨h1.ag (Ag.d ⟨rfl, Or.inl rfl⟩), ?_, ?_, ?_⟩)
      · rw [mD_wD]; simp
      · rw [mD_wD]; simpa using h31
      · rw [mD_wD]; simpa using h41
  have key : ∀ (r j fu : Nat), j + r = n → r < fu → Ev pTk (fun m' => LX B n m' ∧ mD m' 2 2 = (tokAt B n p (scan isBl B r j)).1 ∧ mD m' 2 3 = nI (tokAt B n p (scan isBl B r j)).2.1 ∧ mD m' 2 4 = nI (tokAt B n p (scan isBl B r j)).2.2) (F_X3_advance_7 fu m (nI j) (nI j)) m true := by
    intro r
    induction r with
    | zero =>
      intro j fu hj hf
      cases fu with
      | zero => omega
      | succ fu =>
        unfold F_X3_advance_7 scan
        rw [if_pos (h.le (by omega) (by omega))]
        exact fin j (by omega)
    | succ r ih =>
      intro j fu hj hf
      cases fu with
      | zero => omega
      | succ fu =>
        unfold F_X3_advance_7 F_X3_advance_37 scan
        rw [if_neg (h.nle (by omega)), gIf_pos (vp_n (by omega) (by decide)), gIf_pos (vp_n (by omega) (by decide)), nI_c (by omega), h.2.2 j (by omega), nI_1]
        simp only [nm]
        by_cases e1 : B j = 32
        · rw [if_pos e1, if_pos (by simp [isBl, e1])]; exact ih (j + 1) fu (by omega) (by omega)
        · rw [if_neg e1]
          by_cases e2 : B j = 10
          · rw [if_pos e2, if_pos (by simp [isBl, e2])]; exact ih (j + 1) fu (by omega) (by omega)
          · rw [if_neg e2, if_neg (by simp [isBl, e1, e2])]; exact fin j (by omega)
  exact key (n - p) p FU (by omega) (hFU (by omega))
end LXA
