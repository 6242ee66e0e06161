/-! a number or a name -/
noncomputable def gL9 (m : Mem) (a1 : Int32) : Option (Int32 × Mem) := bnd (F_X6_fail m) fun v37 m38 => some (a1, m38)
noncomputable def gL6 (m : Mem) (a1 : Int32) : Option (Int32 × Mem) :=
  if (mD m 40 24) = 0 then
    if (mD m 40 20) = (1 : Int32) then
      bnd (F_X6_name m) fun v28 m29 =>
      if (mD m29 40 24) = 0 then bnd (F_X6_next m29) fun v33 m34 => some (v28, m34) else some (v28, m29)
    else gL9 m a1
  else gL9 m a1
noncomputable def gLf (m : Mem) : Option (Int32 × Mem) :=
  if (mD m 40 24) = 0 then
    if (mD m 40 20) = (2 : Int32) then nm ((mL m 40 22).toInt32) fun x13 => bnd (F_X6_next m) fun v14 m15 => some (x13, m15)
    else gL6 m 0
  else gL6 m 0
section MLF
variable {B : Nat → Int32} {n t d : Nat} {E : Int32 → Int32} {m : Mem} {s : PS}
theorem m_name_no (h : ME B n t E d s m) (hs : s.1 < -6) : Ev pMp (Bad s) (F_X6_name m) m 0 := by
  have w : ∀ k, k < 6 → ¬ s.1 = -1 - nI k := by
    intro k hk z
    rw [z] at hs
    revert hs
    have : ∀ k, k < 6 → ¬ (-1 : Int32) - nI k < -6 := by decide
    exact this k hk
  unfold F_X6_name
  rw [show F_X6_isWord m 118 97 108 117 101 0 0 0 = _ from m_isWord h.1 (k := 0) (by decide), bnd_eq, if_pos (by rw [bz0]; simpa using w 0 (by decide)),
    show F_X6_isWord m 102 105 114 115 116 0 0 0 = _ from m_isWord h.1 (k := 1) (by decide), bnd_eq, if_pos (by rw [bz0]; simpa using w 1 (by decide)),
    show F_X6_isWord m 110 117 109 98 101 114 0 0 = _ from m_isWord h.1 (k := 2) (by decide), bnd_eq, if_pos (by rw [bz0]; simpa using w 2 (by decide)),
    show F_X6_isWord m 97 103 101 0 0 0 0 0 = _ from m_isWord h.1 (k := 3) (by decide), bnd_eq, if_pos (by rw [bz0]; simpa using w 3 (by decide)),
    show F_X6_isWord m 111 119 110 101 114 0 0 0 = _ from m_isWord h.1 (k := 4) (by decide), bnd_eq, if_pos (by rw [bz0]; simpa using w 4 (by decide)),
    show F_X6_isWord m 100 97 121 0 0 0 0 0 = _ from m_isWord h.1 (k := 5) (by decide), bnd_eq, if_pos (by rw [bz0]; simpa using w 5 (by decide))]
  exact Ev.bd (m_fail h.1.2.2.2 h.1.2.1.1) fun m1 h1 => Ev.ret h1
theorem m_name_yes (h : ME B n t E d s m) {k : Nat} (hk : k < 6) (hs : s.1 = -1 - nI k) : F_X6_name m = some (E s.1, m) := by
  have w : ∀ j, j < 6 → F_X6_isWord m ((wordL.getD j []).getD 0 0) ((wordL.getD j []).getD 1 0) ((wordL.getD j []).getD 2 0) ((wordL.getD j []).getD 3 0) ((wordL.getD j []).getD 4 0) ((wordL.getD j []).getD 5 0) ((wordL.getD j []).getD 6 0) ((wordL.getD j []).getD 7 0) = some (decide (k = j), m) := by
    intro j hj
    rw [m_isWord h.1 (show j < 12 by omega), hs]
    have hd : decide ((-1 : Int32) - nI k = -1 - nI j) = decide (k = j) := by
      by_cases e : k = j
      · subst e; simp
      · have : ¬ (-1 : Int32) - nI k = -1 - nI j := fun z => e ((codes_ne k (by omega)).2 j (by omega) z)
        simp [e, this]
    rw [hd]
  have w0 : F_X6_isWord m 118 97 108 117 101 0 0 0 = _ := w 0 (by decide)
  have w1 : F_X6_isWord m 102 105 114 115 116 0 0 0 = _ := w 1 (by decide)
  have w2 : F_X6_isWord m 110 117 109 98 101 114 0 0 = _ := w 2 (by decide)
  have w3 : F_X6_isWord m 97 103 101 0 0 0 0 0 = _ := w 3 (by decide)
  have w4 : F_X6_isWord m 111 119 110 101 114 0 0 0 = _ := w 4 (by decide)
  have w5 : F_X6_isWord m 100 97 121 0 0 0 0 0 = _ := w 5 (by decide)
  obtain ⟨f1, f2, f3, f4, f5, f6⟩ := h.2
  unfold F_X6_name
  simp only [w0, w1, w2, w3, w4, w5, bnd_eq, bz0]
  rw [hs]
  rcases (show k = 0 ∨ k = 1 ∨ k = 2 ∨ k = 3 ∨ k = 4 ∨ k = 5 by omega) with rfl | rfl | rfl | rfl | rfl | rfl <;> simp
  · rw [f1]; rfl
  · rw [f2]; rfl
  · rw [f3]; rfl
  · rw [f4]; rfl
  · rw [f5]; rfl
  · rw [f6]; rfl
theorem m_leaf (h : ME B n t E d s m) (ho : okS n s) : ∃ v, Ev pMp (MP B n t E d v (oneZ B n s)) (gLf m) m v := by
  have h24 := h.1.2.2.2
  have h21 := h.1.2.1.1
  have bad : ∀ a, Ev pMp (Bad s) (gL9 m a) m a := fun a => Ev.bd (m_fail h24 h21) fun m1 h1 => Ev.ret h1
  unfold gLf oneZ
  rw [if_pos h24]
  by_cases t0 : s.1 < -6
  · simp only [if_pos t0]
    have n20 : ¬ mD m 40 20 = 2 := fun z => by
      rcases h.1.2.1.2 with ⟨e, k⟩ | ⟨_, k, v, hv, e, _⟩ | ⟨_, k, x, hx, e, hL⟩ | ⟨_, k, e, _⟩ | ⟨k, e⟩
      · rw [k] at z; exact absurd z (by decide)
      · rw [e, Int32.lt_iff_toInt_lt, nI_toInt (by omega), show (-6 : Int32).toInt = -6 from rfl] at t0; omega
      · rw [k] at z; exact absurd z (by decide)
      · rw [k] at z; exact absurd z (by decide)
      · rw [k] at z; exact absurd z (by decide)
    rw [if_neg n20]
    unfold gL6
    rw [if_pos h24]
    by_cases h1 : mD m 40 20 = 1
    · rw [if_pos h1]
      exact ⟨0, Ev.bd (m_name_no h t0) fun m1 hb => Ev.iff (by rw [hb.1]; decide) (Ev.ret (MP.no hb))⟩
    · rw [if_neg h1]
      exact ⟨0, (bad 0).im fun m1 hb => MP.no hb⟩
  · simp only [if_neg t0]
    have n22 : ¬ s.1 = -22 := fun z => t0 (by rw [z]; decide)
    have n23 : ¬ s.1 = -23 := fun z => t0 (by rw [z]; decide)
    rcases h.1.2.1.2 with ⟨e, k⟩ | ⟨_, k, v, hv, e, hL⟩ | ⟨_, k, x, hx, e, hL⟩ | ⟨_, k, e, _⟩ | ⟨k, e⟩
    · exact absurd e n22
    · rw [if_pos k, hL]
      have hv32 : (Int64.ofNat v).toInt32 = nI v := by
        show Int32.ofBitVec ((BitVec.ofNat 64 v).signExtend 32) = Int32.ofBitVec (BitVec.ofNat 32 v)
        congr 1
        apply BitVec.eq_of_toNat_eq
        rw [BitVec.signExtend_eq_setWidth_of_le _ (by decide)]
        simp
      refine ⟨s.1, Ev.nam (Ev.bd (m_nx h ho n22 n23) fun m1 h1 => ?_)⟩
      rw [hv32, ← e]
      refine Ev.ret (MP.yes h1 fun st => ?_)
      show st1 E s.1 st = _
      unfold st1
      rw [if_neg t0, if_neg (by rw [e, Int32.lt_iff_toInt_lt, nI_toInt (by omega), show (0 : Int32).toInt = 0 from rfl]; omega)]
    · exfalso
      apply t0
      rw [e]
      rcases sgn_in hx with rfl | rfl | rfl | rfl | rfl | rfl | rfl | rfl <;> decide
    · rcases wrd_rng (B := B) s.2.1 s.2.2 with hw | ⟨j, hj, hw⟩
      · exact absurd (e.trans hw) n23
      · have hs := e.trans hw
        have hj6 : j < 6 ∧ s.1 < 0 := by
          rw [hs] at t0 ⊢
          revert t0
          have : ∀ j, j < 12 → ¬ (-1 : Int32) - nI j < -6 → j < 6 ∧ (-1 : Int32) - nI j < 0 := by decide
          exact this j hj
        rw [if_neg (by rw [k]; decide)]
        unfold gL6
        rw [if_pos h24, if_pos k, m_name_yes h hj6.1 hs, bnd_eq, if_pos h24]
        refine ⟨E s.1, Ev.bd (m_nx h ho n22 n23) fun m1 h1 => Ev.ret (MP.yes h1 fun st => ?_)⟩
        show st1 E s.1 st = _
        unfold st1
        rw [if_neg t0, if_pos hj6.2]
    · exact absurd e n23
end MLF
