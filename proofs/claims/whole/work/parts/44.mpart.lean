/-! a part of a text, as the reference reads it -/
section MPT
variable {B : Nat → Int32} {n t : Nat} {E : Int32 → Int32}
theorem b_part48 {s : PS} {m : Mem} (h : Bad s m) (a : Int32) : F_X6_part_48 m a = some (a, m) := by
  unfold F_X6_part_48; rw [h.1, if_neg (by decide)]
theorem b_part34 {s : PS} {m : Mem} (h : Bad s m) (a : Int32) : F_X6_part_34 m a = some (a, m) := by
  unfold F_X6_part_34; rw [b_sign h, bnd_eq, if_pos (by decide), b_fail h, bnd_eq, b_part48 h]
theorem b_part8 {s : PS} {m : Mem} (h : Bad s m) : F_X6_part_8 m = some (0, m) := by
  unfold F_X6_part_8; rw [h.1, if_neg (by decide)]
  unfold F_X6_part_19; rw [h.1, if_neg (by decide), b_part34 h]
theorem m_part {m : Mem} {s : PS} {w : Int32} (hw : ¬ w = -22 ∧ ¬ w = -23) (h : ME B n t E 0 s m) (ho : okS n s) : ∃ v, Ev pMp (MP B n t E 0 v (pPart B n w s)) (F_X6_part m (bz (decide (s.1 = w)))) m v := by
  unfold F_X6_part pPart
  by_cases t1 : s.1 = w
  · simp only [if_pos t1]
    rw [if_neg (by simp [bz, t1])]
    have n22 : ¬ s.1 = -22 := by rw [t1]; exact hw.1
    have n23 : ¬ s.1 = -23 := by rw [t1]; exact hw.2
    obtain ⟨a1, a2⟩ := adv_lt (B := B) ho n22
    obtain ⟨g1, g2, g3⟩ := pOr_gd (B := B) (pAll_gd (B := B) (n := n) 5).2 (adv B n s) a1
    obtain ⟨m1, x1, q1, k1⟩ := m_nx h ho n22 n23
    obtain ⟨v, m2, x2, q2, k2⟩ := (m_d0 (B := B) (n := n) (t := t) (E := E)).2.2 m1 _ k1 a1
    unfold F_X6_part_8
    rw [if_pos h.1.2.2.2, x1, bnd_eq]
    unfold F_X6_part_19
    rw [if_pos k1.1.2.2.2, x2, bnd_eq]
    unfold pThen
    cases hr : (pOr B n (pAll B n 5).2 (adv B n s)).1 with
    | none =>
      have hB := k2.2 hr
      rw [b_part34 hB]
      exact ⟨v, Ev.step (q1.tr q2) (Ev.ret (MP.no hB))⟩
    | some c =>
      obtain ⟨y1, y2⟩ := k2.1 c hr
      dsimp only
      generalize (pOr B n (pAll B n 5).2 (adv B n s)).2 = s1 at *
      unfold F_X6_part_34
      rw [m_isSign y1.1 (by decide), bnd_eq, show sgn 59 = -21 from rfl]
      by_cases t3 : s1.1 = -21
      · simp only [if_pos t3]
        rw [if_neg (by simp [bz, t3])]
        unfold F_X6_part_48
        rw [if_pos y1.1.2.2.2]
        exact ⟨v, Ev.step (q1.tr q2) (Ev.bd (m_nx y1 g1 (by rw [t3]; decide) (by rw [t3]; decide)) fun m3 h3 => Ev.ret (MP.yes h3 y2))⟩
      · simp only [if_neg t3]
        rw [if_pos (by rw [bz0]; simpa using t3)]
        refine ⟨v, Ev.step (q1.tr q2) (Ev.bd (m_fail y1.1.2.2.2 y1.1.2.1.1) fun m3 h3 => ?_)⟩
        rw [b_part48 h3]
        exact Ev.ret (MP.no h3)
  · simp only [if_neg t1]
    rw [if_pos (by simp [bz, t1])]
    refine ⟨0, Ev.bd (m_fail h.1.2.2.2 h.1.2.1.1) fun m3 h3 => ?_⟩
    rw [b_part8 h3]
    exact Ev.ret (MP.no h3)
end MPT
