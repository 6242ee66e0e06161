/-! what the reference asks of a token -/
section MTK
variable {B : Nat → Int32} {n t d : Nat} {m : Mem} {s : PS}
theorem isW_uniq {b e : Nat} {w w' : List Int32} (h : isW B b e w = true) (h' : isW B b e w' = true) : w = w' := by
  unfold isW at h h'
  simp only [decide_eq_true_eq] at h h'
  have hl : w.length = w'.length := by omega
  apply List.ext_getElem hl
  intro i h1 h2
  have e1 := h.2 i h1
  have e2 := h'.2 i h2
  rw [e1] at e2
  rw [List.getD_eq_getElem?_getD, List.getD_eq_getElem?_getD, List.getElem?_eq_getElem h1, List.getElem?_eq_getElem h2] at e2
  exact e2
theorem wrdF_cases {b e : Nat} : ∀ (ws : List (List Int32)) (c : Int32), (wrdF B b e ws c = -23 ∧ ∀ j, j < ws.length → isW B b e (ws.getD j []) = false) ∨ ∃ j, j < ws.length ∧ wrdF B b e ws c = c - nI j ∧ isW B b e (ws.getD j []) = true
  | [], c => Or.inl ⟨rfl, fun j hj => absurd hj (Nat.not_lt_zero j)⟩
  | w :: ws, c => by
    unfold wrdF
    cases hw : isW B b e w with
    | true => exact Or.inr ⟨0, by simp, by rw [if_pos rfl, show nI 0 = 0 from rfl, Int32.sub_zero], hw⟩
    | false =>
      rw [if_neg (by decide)]
      rcases wrdF_cases ws (c - 1) with ⟨h1, h2⟩ | ⟨j, h1, h2, h3⟩
      · refine Or.inl ⟨h1, fun j hj => ?_⟩
        cases j with
        | zero => exact hw
        | succ j => exact h2 j (by simpa using hj)
      · refine Or.inr ⟨j + 1, by simpa using h1, ?_, h3⟩
        rw [h2, ← nI_1 j, Int32.sub_eq_add_neg, Int32.sub_eq_add_neg, Int32.sub_eq_add_neg, Int32.neg_add, Int32.add_assoc, Int32.add_comm (-1) (-nI j), Int32.sub_eq_add_neg (-nI j) 1]
theorem words_ne : ∀ j, j < 12 → ∀ k, k < 12 → wordL.getD j [] = wordL.getD k [] → j = k := by decide
theorem codes_ne : ∀ j, j < 12 → (¬ ((-1 : Int32) - nI j = -23)) ∧ ∀ k, k < 12 → (-1 : Int32) - nI j = -1 - nI k → j = k := by decide
theorem wrd_is {b e k : Nat} (hk : k < 12) : (wrd B b e = -1 - nI k) ↔ isW B b e (wordL.getD k []) = true := by
  unfold wrd
  rcases wrdF_cases (B := B) (b := b) (e := e) wordL (-1) with ⟨h1, h2⟩ | ⟨j, h1, h2, h3⟩
  · rw [h1, h2 k hk]
    constructor
    · intro z; exact absurd z.symm (codes_ne k hk).1
    · intro z; cases z
  · rw [h2]
    constructor
    · intro z; rw [← (codes_ne j h1).2 k hk z]; exact h3
    · intro z; rw [words_ne j h1 k hk (isW_uniq h3 z)]
theorem wrd_rng (b e : Nat) : wrd B b e = -23 ∨ ∃ j, j < 12 ∧ wrd B b e = -1 - nI j := by
  unfold wrd
  rcases wrdF_cases (B := B) (b := b) (e := e) wordL (-1) with ⟨h1, h2⟩ | ⟨j, h1, h2, h3⟩
  · exact Or.inl h1
  · exact Or.inr ⟨j, h1, h2⟩
theorem sgn_in {x : Int32} (h : ¬ sgn x = -23) : x = 40 ∨ x = 41 ∨ x = 42 ∨ x = 43 ∨ x = 45 ∨ x = 59 ∨ x = 60 ∨ x = 61 := by
  apply Classical.byContradiction
  intro z
  simp only [not_or] at z
  obtain ⟨n1, n2, n3, n4, n5, n6, n7, n8⟩ := z
  exact h (by simp [sgn, n1, n2, n3, n4, n5, n6, n7, n8])
theorem sgn_inj {x y : Int32} (h : ¬ sgn x = -23) (h' : ¬ sgn y = -23) (e : sgn x = sgn y) : x = y := by
  rcases sgn_in h with rfl | rfl | rfl | rfl | rfl | rfl | rfl | rfl <;> rcases sgn_in h' with rfl | rfl | rfl | rfl | rfl | rfl | rfl | rfl <;> first | rfl | (exact absurd e (by decide))
theorem sgn_off {y : Int32} (h : ¬ sgn y = -23) : ¬ sgn y = -22 ∧ (∀ v, v < 10000 → ¬ sgn y = nI v) ∧ ∀ j, j < 12 → ¬ sgn y = -1 - nI j := by
  have hneg : (sgn y).toInt < 0 ∧ ¬ sgn y = -22 ∧ ∀ j, j < 12 → ¬ sgn y = -1 - nI j := by
    rcases sgn_in h with rfl | rfl | rfl | rfl | rfl | rfl | rfl | rfl <;> decide
  refine ⟨hneg.2.1, fun v hv e => ?_, hneg.2.2⟩
  have := hneg.1
  rw [e, nI_toInt (by omega)] at this
  omega
/-- the reference stands at s, no fault yet, d opened -/
def MS (B : Nat → Int32) (n t d : Nat) (s : PS) (m : Mem) : Prop := LM B n t m ∧ MT B n s m ∧ mD m 40 23 = nI d ∧ mD m 40 24 = 0
theorem cmp0 {a b : Int64} : (lg_cmp a b = 0) ↔ a = b := by
  unfold lg_cmp
  simp only [gt_iff_lt, Int64.lt_iff_toInt_lt, ← Int64.toInt_inj]
  by_cases h1 : b.toInt < a.toInt
  · simp only [if_pos h1]; constructor
    · intro z; exact absurd z (by decide)
    · intro z; omega
  · simp only [if_neg h1]
    by_cases h2 : a.toInt = b.toInt
    · simp [h2]
    · simp only [if_neg h2]; constructor
      · intro z; exact absurd z (by decide)
      · intro z; exact absurd z h2
theorem to64_inj {a b : Int32} (h : a.toInt64 = b.toInt64) : a = b := by
  apply Int32.toInt_inj.mp
  have := congrArg Int64.toInt h
  rwa [Int32.toInt_toInt64, Int32.toInt_toInt64] at this
theorem m_isSign (h : MS B n t d s m) {c : Int32} (hc : ¬ sgn c = -23) : F_X6_isSign m c = some (decide (s.1 = sgn c), m) := by
  obtain ⟨h1, ⟨h21, h2⟩, h3, h4⟩ := h
  obtain ⟨o1, o2, o3⟩ := sgn_off hc
  unfold F_X6_isSign
  rw [if_pos h4]
  rcases h2 with ⟨e, k⟩ | ⟨_, k, v, hv, e, _⟩ | ⟨_, k, x, hx, e, hL⟩ | ⟨_, k, e, _⟩ | ⟨k, e⟩
  · rw [k, if_neg (by decide), e]; simp [Ne.symm o1]
  · rw [k, if_neg (by decide), e]; simp [Ne.symm (o2 v hv)]
  · rw [k, if_pos rfl, hL, e]
    by_cases ex : x = c
    · subst ex; rw [if_pos (cmp0.mpr rfl)]; simp
    · rw [if_neg (fun z => ex (to64_inj (cmp0.mp z)))]
      have : ¬ sgn x = sgn c := fun z => ex (sgn_inj hx hc z)
      simp [this]
  · rw [k, if_neg (by decide)]
    have : ¬ s.1 = sgn c := by
      rw [e]
      rcases wrd_rng (B := B) s.2.1 s.2.2 with hw | ⟨j, hj, hw⟩
      · rw [hw]; exact Ne.symm hc
      · rw [hw]; exact Ne.symm (o3 j hj)
    simp [this]
  · rw [k, if_neg (by decide), e]; simp [Ne.symm hc]
def lt8 (B : Nat → Int32) (b e i : Nat) (a : Int32) : Bool := if e ≤ b + i then decide (a = 0) else decide (B (b + i) = a)
theorem m_isLetter (h : LM B n t m) {b e i : Nat} (he : e ≤ n) (hb : b ≤ e) (hi : i < 8) (h19 : mD m 40 19 = nI e) (h21 : mD m 40 21 = nI b) (a : Int32) : F_X6_isLetter m (nI i) a = some (lt8 B b e i a, m) := by
  have hn := h.1
  unfold F_X6_isLetter lt8
  rw [h19, h21, nI_ad]
  by_cases h1 : e ≤ b + i
  · rw [if_pos (show nI e ≤ nI (b + i) by rw [nI_le' (by omega) (by omega)]; exact h1), if_pos h1]
    split <;> simp_all
  · rw [if_neg (show ¬ nI e ≤ nI (b + i) by rw [nI_le' (by omega) (by omega)]; exact h1), if_neg h1, m_byteAt h (by omega), bnd_eq, bt, if_neg (show ¬ n ≤ b + i by omega)]
    split <;> simp_all
theorem isW8 {b e : Nat} {w : List Int32} (hw : ∀ i, i < w.length → ¬ w.getD i 0 = 0) (hl : w.length ≤ 8) (h0 : 0 < w.length) (hB : ∀ i, b ≤ i → i < e → isLt (B i) = true) : (isW B b e w = true) ↔ (e ≤ b + 8 ∧ ∀ i, i < 8 → lt8 B b e i (w.getD i 0) = true) := by
  unfold isW lt8
  simp only [decide_eq_true_eq]
  constructor
  · rintro ⟨h1, h2⟩
    refine ⟨by omega, fun i hi => ?_⟩
    by_cases h3 : i < w.length
    · rw [if_neg (by omega)]; simpa using h2 i h3
    · rw [if_pos (by omega), List.getD_eq_getElem?_getD, List.getElem?_eq_none (by omega)]; rfl
  · rintro ⟨h1, h2⟩
    have hlo : b + w.length ≤ e := by
      apply Classical.byContradiction
      intro z
      have := h2 (w.length - 1) (by omega)
      rw [if_pos (by omega)] at this
      exact hw (w.length - 1) (by omega) (by simpa using this)
    have hhi : e ≤ b + w.length := by
      apply Classical.byContradiction
      intro z
      have := h2 w.length (by omega)
      rw [if_neg (by omega), List.getD_eq_getElem?_getD, List.getElem?_eq_none (Nat.le_refl _)] at this
      have hz : B (b + w.length) = 0 := by simpa using this
      have := hB (b + w.length) (by omega) (by omega)
      rw [hz] at this
      exact absurd this (by decide)
    refine ⟨by omega, fun i hi => ?_⟩
    have := h2 i (by omega)
    rw [if_neg (by omega)] at this
    simpa using this
theorem word_lets : ∀ k, k < 12 → (∀ i, i < (wordL.getD k []).length → ¬ (wordL.getD k []).getD i 0 = 0) ∧ (wordL.getD k []).length ≤ 8 ∧ 0 < (wordL.getD k []).length := by decide
theorem m_isWord (h : MS B n t d s m) {k : Nat} (hk : k < 12) : F_X6_isWord m ((wordL.getD k []).getD 0 0) ((wordL.getD k []).getD 1 0) ((wordL.getD k []).getD 2 0) ((wordL.getD k []).getD 3 0) ((wordL.getD k []).getD 4 0) ((wordL.getD k []).getD 5 0) ((wordL.getD k []).getD 6 0) ((wordL.getD k []).getD 7 0) = some (decide (s.1 = -1 - nI k), m) := by
  obtain ⟨h1, ⟨h21, h2⟩, h3, h4⟩ := h
  have hn := h1.1
  have off : ¬ (-1 : Int32) - nI k = -22 ∧ (∀ v, v < 10000 → ¬ (-1 : Int32) - nI k = nI v) ∧ ¬ (-1 : Int32) - nI k = -23 := by
    have : ∀ k, k < 12 → ((-1 : Int32) - nI k).toInt < 0 ∧ ¬ (-1 : Int32) - nI k = -22 ∧ ¬ (-1 : Int32) - nI k = -23 := by decide
    refine ⟨(this k hk).2.1, fun v hv e => ?_, (this k hk).2.2⟩
    have := (this k hk).1
    rw [e, nI_toInt (by omega)] at this
    omega
  unfold F_X6_isWord
  rw [if_pos h4]
  rcases h2 with ⟨e, q⟩ | ⟨_, q, v, hv, e, _⟩ | ⟨_, q, x, hx, e, hL⟩ | ⟨h19, q, e, hbe, hen, hB⟩ | ⟨q, e⟩
  · rw [q, if_neg (by decide), e]; simp [Ne.symm off.1]
  · rw [q, if_neg (by decide), e]; simp [Ne.symm (off.2.1 v hv)]
  · rw [q, if_neg (by decide), e]; simp [(sgn_off hx).2.2 k hk]
  · rw [q, if_pos rfl, h19, h21, show nI s.2.1 + 8 = nI (s.2.1 + 8) from nI_ad _ 8]
    have hW := (wrd_is (B := B) (b := s.2.1) (e := s.2.2) hk).trans (isW8 (B := B) (word_lets k hk).1 (word_lets k hk).2.1 (word_lets k hk).2.2 hB)
    rw [← e] at hW
    have L : ∀ i, i < 8 → ∀ a, F_X6_isLetter m (nI i) a = some (lt8 B s.2.1 s.2.2 i a, m) := fun i hi a => m_isLetter h1 hen hbe hi h19 h21 a
    by_cases h8 : s.2.2 ≤ s.2.1 + 8
    · rw [if_neg (show ¬ nI (s.2.1 + 8) < nI s.2.2 by rw [nI_lt' (by omega) (by omega)]; omega)]
      have l0 := L 0 (by decide); have l1 := L 1 (by decide); have l2 := L 2 (by decide); have l3 := L 3 (by decide); have l4 := L 4 (by decide); have l5 := L 5 (by decide); have l6 := L 6 (by decide); have l7 := L 7 (by decide)
      simp only [show nI 0 = 0 from rfl, show nI 1 = 1 from rfl, show nI 2 = 2 from rfl, show nI 3 = 3 from rfl, show nI 4 = 4 from rfl, show nI 5 = 5 from rfl, show nI 6 = 6 from rfl, show nI 7 = 7 from rfl] at l0 l1 l2 l3 l4 l5 l6 l7
      simp only [l0, l1, l2, l3, l4, l5, l6, l7, bnd_eq, bz0]
      have hW' : (s.1 = -1 - nI k) ↔ ∀ i, i < 8 → lt8 B s.2.1 s.2.2 i ((wordL.getD k []).getD i 0) = true := ⟨fun z => (hW.mp z).2, fun z => hW.mpr ⟨h8, z⟩⟩
      generalize wordL.getD k [] = w at hW' ⊢
      by_cases hall : s.1 = -1 - nI k
      · have z := hW'.mp hall
        simp only [z 0 (by decide), z 1 (by decide), z 2 (by decide), z 3 (by decide), z 4 (by decide), z 5 (by decide), z 6 (by decide), z 7 (by decide), Bool.true_eq_false, if_false]
        simp [hall]
      · have z : ¬ ∀ i, i < 8 → lt8 B s.2.1 s.2.2 i (w.getD i 0) = true := fun y => hall (hW'.mpr y)
        rw [show decide (s.1 = -1 - nI k) = false from by simp [hall]]
        cases g0 : lt8 B s.2.1 s.2.2 0 (w.getD 0 0) <;> simp only [Bool.true_eq_false, if_false, if_true]
        cases g1 : lt8 B s.2.1 s.2.2 1 (w.getD 1 0) <;> simp only [Bool.true_eq_false, if_false, if_true]
        cases g2 : lt8 B s.2.1 s.2.2 2 (w.getD 2 0) <;> simp only [Bool.true_eq_false, if_false, if_true]
        cases g3 : lt8 B s.2.1 s.2.2 3 (w.getD 3 0) <;> simp only [Bool.true_eq_false, if_false, if_true]
        cases g4 : lt8 B s.2.1 s.2.2 4 (w.getD 4 0) <;> simp only [Bool.true_eq_false, if_false, if_true]
        cases g5 : lt8 B s.2.1 s.2.2 5 (w.getD 5 0) <;> simp only [Bool.true_eq_false, if_false, if_true]
        cases g6 : lt8 B s.2.1 s.2.2 6 (w.getD 6 0) <;> simp only [Bool.true_eq_false, if_false, if_true]
        cases g7 : lt8 B s.2.1 s.2.2 7 (w.getD 7 0) <;> simp only [Bool.true_eq_false, if_false, if_true]
        exfalso
        apply z
        intro i hi
        rcases (show i = 0 ∨ i = 1 ∨ i = 2 ∨ i = 3 ∨ i = 4 ∨ i = 5 ∨ i = 6 ∨ i = 7 by omega) with rfl | rfl | rfl | rfl | rfl | rfl | rfl | rfl <;> assumption
    · rw [if_pos (show nI (s.2.1 + 8) < nI s.2.2 by rw [nI_lt' (by omega) (by omega)]; omega)]
      have : ¬ s.1 = -1 - nI k := fun z => h8 (hW.mp z).1
      simp [this]
  · rw [q, if_neg (by decide), e]; simp [Ne.symm off.2.2]
end MTK
