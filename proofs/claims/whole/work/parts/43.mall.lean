/-! all depths of the reference -/
section MAL
variable {B : Nat → Int32} {n t : Nat} {E : Int32 → Int32}
theorem eq_term0 : ∀ k, F_X6_term0_5 k = gTm F_X6_atom0 k
  | 0 => rfl
  | k + 1 => by rw [F_X6_term0_5, gTm, eq_term0 k]
theorem eq_added0 : ∀ k, F_X6_added0_5 k = gAd F_X6_term0 k
  | 0 => rfl
  | k + 1 => by rw [F_X6_added0_5, gAd, eq_added0 k]; rfl
theorem eq_both0 : ∀ k, F_X6_both0_5 k = gBo F_X6_not0 k
  | 0 => rfl
  | k + 1 => by rw [F_X6_both0_5, gBo, eq_both0 k]; rfl
theorem eq_either0 : ∀ k, F_X6_either0_5 k = gEi F_X6_both0 k
  | 0 => rfl
  | k + 1 => by rw [F_X6_either0_5, gEi, eq_either0 k]; rfl
theorem m_sum0 {one : PS → PR} (h : Mf B n t E 0 F_X6_atom0 one) (hg : Gd n one) : Mf B n t E 0 (gCm F_X6_added0) (pCmp B n one) := by
  have h1 : Mf B n t E 0 F_X6_term0 (pTerm B n one) := fun m s a b => by
    have := m_term h hg m s a b
    unfold F_X6_term0; rw [eq_term0]; exact this
  have h2 : Mf B n t E 0 F_X6_added0 (pSum B n one) := fun m s a b => by
    have := m_added h1 (pLev_gd hg (by decide) 160) m s a b
    unfold F_X6_added0; rw [eq_added0]; exact this
  exact m_cmp h2 (pLev_gd (pLev_gd hg (by decide) 160) (by decide) 160)
theorem m_or0 {no : PS → PR} (h : Mf B n t E 0 F_X6_not0 no) (hg : Gd n no) : Mf B n t E 0 F_X6_either0 (pOr B n no) := by
  have h1 : Mf B n t E 0 F_X6_both0 (pAnd B n no) := fun m s a b => by
    have := m_both h hg m s a b
    unfold F_X6_both0; rw [eq_both0]; exact this
  intro m s a b
  have := m_either h1 (pLev_gd hg (by decide) 160) m s a b
  unfold F_X6_either0; rw [eq_either0]; exact this
theorem eq_term1 : ∀ k, F_X6_term1_5 k = gTm F_X6_atom1 k
  | 0 => rfl
  | k + 1 => by rw [F_X6_term1_5, gTm, eq_term1 k]
theorem eq_added1 : ∀ k, F_X6_added1_5 k = gAd F_X6_term1 k
  | 0 => rfl
  | k + 1 => by rw [F_X6_added1_5, gAd, eq_added1 k]; rfl
theorem eq_both1 : ∀ k, F_X6_both1_5 k = gBo F_X6_not1 k
  | 0 => rfl
  | k + 1 => by rw [F_X6_both1_5, gBo, eq_both1 k]; rfl
theorem eq_either1 : ∀ k, F_X6_either1_5 k = gEi F_X6_both1 k
  | 0 => rfl
  | k + 1 => by rw [F_X6_either1_5, gEi, eq_either1 k]; rfl
theorem m_sum1 {one : PS → PR} (h : Mf B n t E 1 F_X6_atom1 one) (hg : Gd n one) : Mf B n t E 1 (gCm F_X6_added1) (pCmp B n one) := by
  have h1 : Mf B n t E 1 F_X6_term1 (pTerm B n one) := fun m s a b => by
    have := m_term h hg m s a b
    unfold F_X6_term1; rw [eq_term1]; exact this
  have h2 : Mf B n t E 1 F_X6_added1 (pSum B n one) := fun m s a b => by
    have := m_added h1 (pLev_gd hg (by decide) 160) m s a b
    unfold F_X6_added1; rw [eq_added1]; exact this
  exact m_cmp h2 (pLev_gd (pLev_gd hg (by decide) 160) (by decide) 160)
theorem m_or1 {no : PS → PR} (h : Mf B n t E 1 F_X6_not1 no) (hg : Gd n no) : Mf B n t E 1 F_X6_either1 (pOr B n no) := by
  have h1 : Mf B n t E 1 F_X6_both1 (pAnd B n no) := fun m s a b => by
    have := m_both h hg m s a b
    unfold F_X6_both1; rw [eq_both1]; exact this
  intro m s a b
  have := m_either h1 (pLev_gd hg (by decide) 160) m s a b
  unfold F_X6_either1; rw [eq_either1]; exact this
theorem eq_term2 : ∀ k, F_X6_term2_5 k = gTm F_X6_atom2 k
  | 0 => rfl
  | k + 1 => by rw [F_X6_term2_5, gTm, eq_term2 k]
theorem eq_added2 : ∀ k, F_X6_added2_5 k = gAd F_X6_term2 k
  | 0 => rfl
  | k + 1 => by rw [F_X6_added2_5, gAd, eq_added2 k]; rfl
theorem eq_both2 : ∀ k, F_X6_both2_5 k = gBo F_X6_not2 k
  | 0 => rfl
  | k + 1 => by rw [F_X6_both2_5, gBo, eq_both2 k]; rfl
theorem eq_either2 : ∀ k, F_X6_either2_5 k = gEi F_X6_both2 k
  | 0 => rfl
  | k + 1 => by rw [F_X6_either2_5, gEi, eq_either2 k]; rfl
theorem m_sum2 {one : PS → PR} (h : Mf B n t E 2 F_X6_atom2 one) (hg : Gd n one) : Mf B n t E 2 (gCm F_X6_added2) (pCmp B n one) := by
  have h1 : Mf B n t E 2 F_X6_term2 (pTerm B n one) := fun m s a b => by
    have := m_term h hg m s a b
    unfold F_X6_term2; rw [eq_term2]; exact this
  have h2 : Mf B n t E 2 F_X6_added2 (pSum B n one) := fun m s a b => by
    have := m_added h1 (pLev_gd hg (by decide) 160) m s a b
    unfold F_X6_added2; rw [eq_added2]; exact this
  exact m_cmp h2 (pLev_gd (pLev_gd hg (by decide) 160) (by decide) 160)
theorem m_or2 {no : PS → PR} (h : Mf B n t E 2 F_X6_not2 no) (hg : Gd n no) : Mf B n t E 2 F_X6_either2 (pOr B n no) := by
  have h1 : Mf B n t E 2 F_X6_both2 (pAnd B n no) := fun m s a b => by
    have := m_both h hg m s a b
    unfold F_X6_both2; rw [eq_both2]; exact this
  intro m s a b
  have := m_either h1 (pLev_gd hg (by decide) 160) m s a b
  unfold F_X6_either2; rw [eq_either2]; exact this
theorem eq_term3 : ∀ k, F_X6_term3_5 k = gTm F_X6_atom3 k
  | 0 => rfl
  | k + 1 => by rw [F_X6_term3_5, gTm, eq_term3 k]
theorem eq_added3 : ∀ k, F_X6_added3_5 k = gAd F_X6_term3 k
  | 0 => rfl
  | k + 1 => by rw [F_X6_added3_5, gAd, eq_added3 k]; rfl
theorem eq_both3 : ∀ k, F_X6_both3_5 k = gBo F_X6_not3 k
  | 0 => rfl
  | k + 1 => by rw [F_X6_both3_5, gBo, eq_both3 k]; rfl
theorem eq_either3 : ∀ k, F_X6_either3_5 k = gEi F_X6_both3 k
  | 0 => rfl
  | k + 1 => by rw [F_X6_either3_5, gEi, eq_either3 k]; rfl
theorem m_sum3 {one : PS → PR} (h : Mf B n t E 3 F_X6_atom3 one) (hg : Gd n one) : Mf B n t E 3 (gCm F_X6_added3) (pCmp B n one) := by
  have h1 : Mf B n t E 3 F_X6_term3 (pTerm B n one) := fun m s a b => by
    have := m_term h hg m s a b
    unfold F_X6_term3; rw [eq_term3]; exact this
  have h2 : Mf B n t E 3 F_X6_added3 (pSum B n one) := fun m s a b => by
    have := m_added h1 (pLev_gd hg (by decide) 160) m s a b
    unfold F_X6_added3; rw [eq_added3]; exact this
  exact m_cmp h2 (pLev_gd (pLev_gd hg (by decide) 160) (by decide) 160)
theorem m_or3 {no : PS → PR} (h : Mf B n t E 3 F_X6_not3 no) (hg : Gd n no) : Mf B n t E 3 F_X6_either3 (pOr B n no) := by
  have h1 : Mf B n t E 3 F_X6_both3 (pAnd B n no) := fun m s a b => by
    have := m_both h hg m s a b
    unfold F_X6_both3; rw [eq_both3]; exact this
  intro m s a b
  have := m_either h1 (pLev_gd hg (by decide) 160) m s a b
  unfold F_X6_either3; rw [eq_either3]; exact this
theorem eq_term4 : ∀ k, F_X6_term4_5 k = gTm F_X6_atom4 k
  | 0 => rfl
  | k + 1 => by rw [F_X6_term4_5, gTm, eq_term4 k]
theorem eq_added4 : ∀ k, F_X6_added4_5 k = gAd F_X6_term4 k
  | 0 => rfl
  | k + 1 => by rw [F_X6_added4_5, gAd, eq_added4 k]; rfl
theorem eq_both4 : ∀ k, F_X6_both4_5 k = gBo F_X6_not4 k
  | 0 => rfl
  | k + 1 => by rw [F_X6_both4_5, gBo, eq_both4 k]; rfl
theorem eq_either4 : ∀ k, F_X6_either4_5 k = gEi F_X6_both4 k
  | 0 => rfl
  | k + 1 => by rw [F_X6_either4_5, gEi, eq_either4 k]; rfl
theorem m_sum4 {one : PS → PR} (h : Mf B n t E 4 F_X6_atom4 one) (hg : Gd n one) : Mf B n t E 4 (gCm F_X6_added4) (pCmp B n one) := by
  have h1 : Mf B n t E 4 F_X6_term4 (pTerm B n one) := fun m s a b => by
    have := m_term h hg m s a b
    unfold F_X6_term4; rw [eq_term4]; exact this
  have h2 : Mf B n t E 4 F_X6_added4 (pSum B n one) := fun m s a b => by
    have := m_added h1 (pLev_gd hg (by decide) 160) m s a b
    unfold F_X6_added4; rw [eq_added4]; exact this
  exact m_cmp h2 (pLev_gd (pLev_gd hg (by decide) 160) (by decide) 160)
theorem m_or4 {no : PS → PR} (h : Mf B n t E 4 F_X6_not4 no) (hg : Gd n no) : Mf B n t E 4 F_X6_either4 (pOr B n no) := by
  have h1 : Mf B n t E 4 F_X6_both4 (pAnd B n no) := fun m s a b => by
    have := m_both h hg m s a b
    unfold F_X6_both4; rw [eq_both4]; exact this
  intro m s a b
  have := m_either h1 (pLev_gd hg (by decide) 160) m s a b
  unfold F_X6_either4; rw [eq_either4]; exact this
theorem eq_term5 : ∀ k, F_X6_term5_5 k = gTm F_X6_atom5 k
  | 0 => rfl
  | k + 1 => by rw [F_X6_term5_5, gTm, eq_term5 k]
theorem eq_added5 : ∀ k, F_X6_added5_5 k = gAd F_X6_term5 k
  | 0 => rfl
  | k + 1 => by rw [F_X6_added5_5, gAd, eq_added5 k]; rfl
theorem eq_both5 : ∀ k, F_X6_both5_5 k = gBo F_X6_not5 k
  | 0 => rfl
  | k + 1 => by rw [F_X6_both5_5, gBo, eq_both5 k]; rfl
theorem eq_either5 : ∀ k, F_X6_either5_5 k = gEi F_X6_both5 k
  | 0 => rfl
  | k + 1 => by rw [F_X6_either5_5, gEi, eq_either5 k]; rfl
theorem m_sum5 {one : PS → PR} (h : Mf B n t E 5 F_X6_atom5 one) (hg : Gd n one) : Mf B n t E 5 (gCm F_X6_added5) (pCmp B n one) := by
  have h1 : Mf B n t E 5 F_X6_term5 (pTerm B n one) := fun m s a b => by
    have := m_term h hg m s a b
    unfold F_X6_term5; rw [eq_term5]; exact this
  have h2 : Mf B n t E 5 F_X6_added5 (pSum B n one) := fun m s a b => by
    have := m_added h1 (pLev_gd hg (by decide) 160) m s a b
    unfold F_X6_added5; rw [eq_added5]; exact this
  exact m_cmp h2 (pLev_gd (pLev_gd hg (by decide) 160) (by decide) 160)
theorem m_or5 {no : PS → PR} (h : Mf B n t E 5 F_X6_not5 no) (hg : Gd n no) : Mf B n t E 5 F_X6_either5 (pOr B n no) := by
  have h1 : Mf B n t E 5 F_X6_both5 (pAnd B n no) := fun m s a b => by
    have := m_both h hg m s a b
    unfold F_X6_both5; rw [eq_both5]; exact this
  intro m s a b
  have := m_either h1 (pLev_gd hg (by decide) 160) m s a b
  unfold F_X6_either5; rw [eq_either5]; exact this
theorem m_atom5 : Mf B n t E 5 F_X6_atom5 (oneZ B n) := by
  intro m s h ho
  have no : s.1 < -6 → ∃ v, Ev pMp (MP B n t E 5 v (oneZ B n s)) (bnd (F_X6_opens m) fun v18 m19 => some ((0 : Int32), m19)) m v := fun t0 => by
    unfold oneZ
    simp only [if_pos t0]
    exact ⟨0, Ev.bd (m_opens5 h) fun m1 h1 => Ev.ret (MP.no h1)⟩
  unfold F_X6_atom5
  rw [m_isSign h.1 (by decide), bnd_eq, show sgn 45 = -16 from rfl]
  by_cases t1 : s.1 = -16
  · rw [if_neg (by simp [bz, t1])]; exact no (by rw [t1]; decide)
  · rw [if_pos (by rw [bz0]; simpa using t1), m_isSign h.1 (by decide), bnd_eq, show sgn 40 = -19 from rfl]
    by_cases t2 : s.1 = -19
    · rw [if_neg (by simp [bz, t2])]; exact no (by rw [t2]; decide)
    · rw [if_pos (by rw [bz0]; simpa using t2)]
      exact m_leaf h ho
theorem m_not5 : Mf B n t E 5 F_X6_not5 (notZ B n) := by
  intro m s h ho
  have hC := m_sum5 (B := B) (n := n) (t := t) (E := E) m_atom5 oneZ_gd m s h ho
  unfold F_X6_not5 notZ
  rw [show F_X6_isWord m 110 111 116 0 0 0 0 0 = _ from m_isWord h.1 (k := 11) (by decide), bnd_eq, show (-1 : Int32) - nI 11 = -12 from rfl]
  by_cases t1 : s.1 = -12
  · simp only [if_pos t1]
    rw [if_neg (by simp [bz, t1])]
    exact ⟨0, Ev.bd (m_opens5 h) fun m1 h1 => Ev.ret (MP.no h1)⟩
  · simp only [if_neg t1]
    rw [if_pos (by rw [bz0]; simpa using t1)]
    exact hC
theorem m_d5 : Mf B n t E 5 F_X6_atom5 (pAll B n 0).1 ∧ Mf B n t E 5 F_X6_not5 (pAll B n 0).2 ∧ Mf B n t E 5 F_X6_either5 (pOr B n (pAll B n 0).2) := ⟨m_atom5, m_not5, m_or5 m_not5 notZ_gd⟩
theorem m_d4 : Mf B n t E 4 F_X6_atom4 (pAll B n 1).1 ∧ Mf B n t E 4 F_X6_not4 (pAll B n 1).2 ∧ Mf B n t E 4 F_X6_either4 (pOr B n (pAll B n 1).2) := by
  obtain ⟨i1, i2, i3⟩ := m_d5 (B := B) (n := n) (t := t) (E := E)
  obtain ⟨g1, g2⟩ := pAll_gd (B := B) (n := n) 0
  have one : Mf B n t E 4 F_X6_atom4 (oneS B n (pAll B n 0)) := m_atomS (d := 4) (by decide) i1 i3 g1 g2
  have no : Mf B n t E 4 F_X6_not4 (notS B n (pAll B n 0)) := m_notS (d := 4) (by decide) i2 (m_sum4 one (oneS_gd g1 g2))
  exact ⟨one, no, m_or4 no (notS_gd g1 g2)⟩
theorem m_d3 : Mf B n t E 3 F_X6_atom3 (pAll B n 2).1 ∧ Mf B n t E 3 F_X6_not3 (pAll B n 2).2 ∧ Mf B n t E 3 F_X6_either3 (pOr B n (pAll B n 2).2) := by
  obtain ⟨i1, i2, i3⟩ := m_d4 (B := B) (n := n) (t := t) (E := E)
  obtain ⟨g1, g2⟩ := pAll_gd (B := B) (n := n) 1
  have one : Mf B n t E 3 F_X6_atom3 (oneS B n (pAll B n 1)) := m_atomS (d := 3) (by decide) i1 i3 g1 g2
  have no : Mf B n t E 3 F_X6_not3 (notS B n (pAll B n 1)) := m_notS (d := 3) (by decide) i2 (m_sum3 one (oneS_gd g1 g2))
  exact ⟨one, no, m_or3 no (notS_gd g1 g2)⟩
theorem m_d2 : Mf B n t E 2 F_X6_atom2 (pAll B n 3).1 ∧ Mf B n t E 2 F_X6_not2 (pAll B n 3).2 ∧ Mf B n t E 2 F_X6_either2 (pOr B n (pAll B n 3).2) := by
  obtain ⟨i1, i2, i3⟩ := m_d3 (B := B) (n := n) (t := t) (E := E)
  obtain ⟨g1, g2⟩ := pAll_gd (B := B) (n := n) 2
  have one : Mf B n t E 2 F_X6_atom2 (oneS B n (pAll B n 2)) := m_atomS (d := 2) (by decide) i1 i3 g1 g2
  have no : Mf B n t E 2 F_X6_not2 (notS B n (pAll B n 2)) := m_notS (d := 2) (by decide) i2 (m_sum2 one (oneS_gd g1 g2))
  exact ⟨one, no, m_or2 no (notS_gd g1 g2)⟩
theorem m_d1 : Mf B n t E 1 F_X6_atom1 (pAll B n 4).1 ∧ Mf B n t E 1 F_X6_not1 (pAll B n 4).2 ∧ Mf B n t E 1 F_X6_either1 (pOr B n (pAll B n 4).2) := by
  obtain ⟨i1, i2, i3⟩ := m_d2 (B := B) (n := n) (t := t) (E := E)
  obtain ⟨g1, g2⟩ := pAll_gd (B := B) (n := n) 3
  have one : Mf B n t E 1 F_X6_atom1 (oneS B n (pAll B n 3)) := m_atomS (d := 1) (by decide) i1 i3 g1 g2
  have no : Mf B n t E 1 F_X6_not1 (notS B n (pAll B n 3)) := m_notS (d := 1) (by decide) i2 (m_sum1 one (oneS_gd g1 g2))
  exact ⟨one, no, m_or1 no (notS_gd g1 g2)⟩
theorem m_d0 : Mf B n t E 0 F_X6_atom0 (pAll B n 5).1 ∧ Mf B n t E 0 F_X6_not0 (pAll B n 5).2 ∧ Mf B n t E 0 F_X6_either0 (pOr B n (pAll B n 5).2) := by
  obtain ⟨i1, i2, i3⟩ := m_d1 (B := B) (n := n) (t := t) (E := E)
  obtain ⟨g1, g2⟩ := pAll_gd (B := B) (n := n) 4
  have one : Mf B n t E 0 F_X6_atom0 (oneS B n (pAll B n 4)) := m_atomS (d := 0) (by decide) i1 i3 g1 g2
  have no : Mf B n t E 0 F_X6_not0 (notS B n (pAll B n 4)) := m_notS (d := 0) (by decide) i2 (m_sum0 one (oneS_gd g1 g2))
  exact ⟨one, no, m_or0 no (notS_gd g1 g2)⟩
end MAL
