/-! the reference works a text while it reads it -/
def pMp (k i : Nat) : Prop := k = 40 ∧ (i = 19 ∨ i = 20 ∨ i = 21 ∨ i = 23 ∨ i = 24 ∨ i = 25)
theorem pNx.m {k i : Nat} (h : pNx k i) : pMp k i := ⟨h.1, by have := h.2; omega⟩
def EM (E : Int32 → Int32) (m : Mem) : Prop := mD m 40 11 = E (-1) ∧ mD m 40 12 = E (-2) ∧ mD m 40 13 = E (-3) ∧ mD m 40 14 = E (-4) ∧ mD m 40 15 = E (-5) ∧ mD m 40 16 = E (-6)
def ME (B : Nat → Int32) (n t : Nat) (E : Int32 → Int32) (d : Nat) (s : PS) (m : Mem) : Prop := MS B n t d s m ∧ EM E m
def Bad (s : PS) (m : Mem) : Prop := mD m 40 24 = 1 ∧ mD m 40 25 = nI s.2.1
def MP (B : Nat → Int32) (n t : Nat) (E : Int32 → Int32) (d : Nat) (v : Int32) (r : PR) (m : Mem) : Prop := (∀ cs, r.1 = some cs → ME B n t E d r.2 m ∧ ∀ st, runS E cs st = v :: st) ∧ (r.1 = none → Bad r.2 m)
def Mf (B : Nat → Int32) (n t : Nat) (E : Int32 → Int32) (d : Nat) (g : Mem → Option (Int32 × Mem)) (sub : PS → PR) : Prop := ∀ m s, ME B n t E d s m → okS n s → ∃ v, Ev pMp (MP B n t E d v (sub s)) (g m) m v
theorem LM.agM {B : Nat → Int32} {n t : Nat} {m m' : Mem} (h : LM B n t m) (ha : Ag pMp m m') : LM B n t m' := by
  obtain ⟨h1, h2, h3, h4, h5, h6⟩ := h
  refine ⟨h1, h2, ?_, ?_, fun i hi => ?_, h6⟩
  · rw [ha.2 40 17 (by unfold pMp; omega)]; exact h3
  · rw [ha.2 40 18 (by unfold pMp; omega)]; exact h4
  · rw [ha.2 41 _ (by unfold pMp; omega)]; exact h5 i hi
theorem EM.ag {E : Int32 → Int32} {m m' : Mem} (h : EM E m) (ha : Ag pMp m m') : EM E m' := by
  obtain ⟨h1, h2, h3, h4, h5, h6⟩ := h
  refine ⟨?_, ?_, ?_, ?_, ?_, ?_⟩
  · rw [ha.2 40 11 (by unfold pMp; omega)]; exact h1
  · rw [ha.2 40 12 (by unfold pMp; omega)]; exact h2
  · rw [ha.2 40 13 (by unfold pMp; omega)]; exact h3
  · rw [ha.2 40 14 (by unfold pMp; omega)]; exact h4
  · rw [ha.2 40 15 (by unfold pMp; omega)]; exact h5
  · rw [ha.2 40 16 (by unfold pMp; omega)]; exact h6
section MBS
variable {B : Nat → Int32} {n t d : Nat} {E : Int32 → Int32} {m : Mem} {s : PS}
theorem MT.here (h : MT B n s m) (h1 : ¬ s.1 = -22) (h2 : ¬ s.1 = -23) : mD m 40 19 = nI s.2.2 := by
  rcases h.2 with ⟨e, _⟩ | ⟨k, _⟩ | ⟨k, _⟩ | ⟨k, _⟩ | ⟨_, e⟩
  · exact absurd e h1
  · exact k
  · exact k
  · exact k
  · exact absurd e h2
theorem m_nx (h : ME B n t E d s m) (ho : okS n s) (h1 : ¬ s.1 = -22) (h2 : ¬ s.1 = -23) : Ev pMp (ME B n t E d (adv B n s)) (F_X6_next m) m () := by
  obtain ⟨⟨l1, l2, l3, l4⟩, l5⟩ := h
  refine ((m_next l1 ho.2.1 (l2.here h1 h2)).imA fun m' ha hm => ?_).mono fun k i hp => pNx.m hp
  have ha' : Ag pMp m m' := ha.mono fun k i hp => pNx.m hp
  refine ⟨⟨l1.ag ha, hm, ?_, ?_⟩, l5.ag ha'⟩
  · rw [ha.2 40 23 (by unfold pNx; omega)]; exact l3
  · rw [ha.2 40 24 (by unfold pNx; omega)]; exact l4
theorem m_fail (h24 : mD m 40 24 = 0) (h21 : mD m 40 21 = nI s.2.1) : Ev pMp (Bad s) (F_X6_fail m) m () := by
  unfold F_X6_fail
  rw [if_pos h24]
  refine Ev.namW ⟨rfl, by omega⟩ ?_
  rw [show mD (wD m 40 24 1) 40 21 = nI s.2.1 from by rw [mD_wD, if_neg (by omega)]; exact h21]
  refine Ev.namW ⟨rfl, by omega⟩ (Ev.ret ⟨?_, ?_⟩)
  · rw [mD_wD, if_neg (by omega), mD_wD, if_pos ⟨rfl, rfl⟩]
  · rw [mD_wD, if_pos ⟨rfl, rfl⟩]
theorem b_sign (h : Bad s m) (c : Int32) : F_X6_isSign m c = some (false, m) := by
  unfold F_X6_isSign; rw [h.1, if_neg (by decide)]
theorem b_word (h : Bad s m) (a1 a2 a3 a4 a5 a6 a7 a8 : Int32) : F_X6_isWord m a1 a2 a3 a4 a5 a6 a7 a8 = some (false, m) := by
  unfold F_X6_isWord; rw [h.1, if_neg (by decide)]
theorem b_fail (h : Bad s m) : F_X6_fail m = some ((), m) := by
  unfold F_X6_fail; rw [h.1, if_neg (by decide)]
theorem m_opens (h : ME B n t E d s m) (ho : okS n s) (hd : d < 5) (h1 : ¬ s.1 = -22) (h2 : ¬ s.1 = -23) : Ev pMp (ME B n t E (d + 1) (adv B n s)) (F_X6_opens m) m true := by
  unfold F_X6_opens
  obtain ⟨⟨l1, l2, l3, l4⟩, l5⟩ := h
  rw [l3, if_neg (show ¬ nI d = 5 by rw [show (5 : Int32) = nI 5 from rfl, nI_eq' (by omega) (by omega)]; omega), nI_1]
  have ha : Ag pMp m (wD m 40 23 (nI (d + 1))) := Ag.d ⟨rfl, by omega⟩
  refine Ev.namW ⟨rfl, by omega⟩ (Ev.bd (m_nx (d := d + 1) ⟨⟨l1.agM ha, ⟨?_, ?_⟩, ?_, ?_⟩, l5.ag ha⟩ ho h1 h2) fun m1 h1 => Ev.ret h1)
  · rw [mD_wD, if_neg (by omega)]; exact l2.1
  · simp only [mD_wD, mL_wD, show ∀ i, (40 = 40 ∧ i = 23) = (i = 23) from fun i => by simp]
    exact l2.2
  · rw [mD_wD, if_pos ⟨rfl, rfl⟩]
  · rw [mD_wD, if_neg (by omega)]; exact l4
theorem m_opens5 (h : ME B n t E 5 s m) : Ev pMp (Bad s) (F_X6_opens m) m false := by
  unfold F_X6_opens
  rw [h.1.2.2.1, if_pos (show nI 5 = 5 from rfl)]
  exact Ev.bd (m_fail h.1.2.2.2 h.1.2.1.1) fun m1 h1 => Ev.ret h1
/-- a step back -/
theorem m_shuts (h : ME B n t E (d + 1) s m) (hd : d < 5) : mD m 40 23 - 1 = nI d ∧ ME B n t E d s (wD m 40 23 (nI d)) := by
  obtain ⟨⟨l1, l2, l3, l4⟩, l5⟩ := h
  have ha : Ag pMp m (wD m 40 23 (nI d)) := Ag.d ⟨rfl, by omega⟩
  refine ⟨by rw [l3]; exact nI_pred d, ⟨l1.agM ha, ⟨?_, ?_⟩, ?_, ?_⟩, l5.ag ha⟩
  · rw [mD_wD, if_neg (by omega)]; exact l2.1
  · simp only [mD_wD, mL_wD, show ∀ i, (40 = 40 ∧ i = 23) = (i = 23) from fun i => by simp]
    exact l2.2
  · rw [mD_wD, if_pos ⟨rfl, rfl⟩]
  · rw [mD_wD, if_neg (by omega)]; exact l4
theorem Bad.w23 {v : Int32} (h : Bad s m) : Bad s (wD m 40 23 v) := ⟨by rw [mD_wD, if_neg (by omega)]; exact h.1, by rw [mD_wD, if_neg (by omega)]; exact h.2⟩
theorem run_join {cs c2 : List Int32} {a b x : Int32} (h1 : ∀ st, runS E cs st = a :: st) (h2 : ∀ st, runS E c2 st = b :: st) (hx : x < -6) (hx1 : ¬ x = -12) (hx2 : ¬ x = -18) : ∀ st, runS E (cs ++ (c2 ++ [x])) st = jn x a b :: st := by
  intro st
  rw [runS_app, h1, runS_app, h2]
  show st1 E x (b :: a :: st) = _
  unfold st1
  rw [if_pos hx, if_neg hx1, if_neg hx2]
  rfl
theorem lv_4 (x : Int32) : (lv x = 4) ↔ x = -17 := by
  unfold lv; repeat' split
  all_goals simp_all
end MBS
