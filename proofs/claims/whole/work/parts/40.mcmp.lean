/-! sums and comparisons of the reference -/
noncomputable def gAd (g : Mem → Option (Int32 × Mem)) : Nat → Mem → Int32 → Option (Int32 × Mem)
  | 0 => fun m a1 => none
  | n + 1 => fun m a1 =>
    bnd (F_X6_isSign m (43 : Int32)) fun v5 m6 =>
    if (bz v5) = 0 then
      bnd (F_X6_isSign m6 (45 : Int32)) fun v10 m11 =>
      if (bz v10) = 0 then some (a1, m11)
      else
        if (lg_cmp (mL m11 40 22) (43 : Int64)) = 0 then
          bnd (F_X6_next m11) fun v16 m17 => bnd (g m17) fun v20 m21 => if (1 : Int32) = 0 then gAd g n m21 (a1 - v20) else gAd g n m21 (a1 + v20)
        else
          bnd (F_X6_next m11) fun v16 m17 => bnd (g m17) fun v20 m21 => if (0 : Int32) = 0 then gAd g n m21 (a1 - v20) else gAd g n m21 (a1 + v20)
    else
      if (lg_cmp (mL m6 40 22) (43 : Int64)) = 0 then
        bnd (F_X6_next m6) fun v16 m17 => bnd (g m17) fun v20 m21 => if (1 : Int32) = 0 then gAd g n m21 (a1 - v20) else gAd g n m21 (a1 + v20)
      else
        bnd (F_X6_next m6) fun v16 m17 => bnd (g m17) fun v20 m21 => if (0 : Int32) = 0 then gAd g n m21 (a1 - v20) else gAd g n m21 (a1 + v20)
noncomputable def gC6 (g : Mem → Option (Int32 × Mem)) (m : Mem) (a1 s0 : Int32) : Option (Int32 × Mem) :=
  bnd (F_X6_next m) fun v25 m26 =>
  bnd (g m26) fun v29 m30 =>
  if s0 = 0 then
    if a1 = v29 then some ((1 : Int32), m30) else some ((0 : Int32), m30)
  else
    if v29 ≤ a1 then some ((0 : Int32), m30) else some ((1 : Int32), m30)
noncomputable def gC5 (g : Mem → Option (Int32 × Mem)) (m : Mem) (a1 : Int32) : Option (Int32 × Mem) :=
  if (lg_cmp (mL m 40 22) (60 : Int64)) = 0 then gC6 g m a1 1 else gC6 g m a1 0
noncomputable def gCm (g : Mem → Option (Int32 × Mem)) (m : Mem) : Option (Int32 × Mem) :=
  bnd (g m) fun v6 m7 =>
  bnd (F_X6_isSign m7 (60 : Int32)) fun v10 m11 =>
  if (bz v10) = 0 then
    bnd (F_X6_isSign m11 (61 : Int32)) fun v15 m16 =>
    if (bz v15) = 0 then some (v6, m16) else gC5 g m16 v6
  else gC5 g m11 v6
section MCM
variable {B : Nat → Int32} {n t d : Nat} {E : Int32 → Int32} {m : Mem} {s : PS}
theorem m_worth (h : ME B n t E d s m) {c : Int32} (hc : ¬ sgn c = -23) (hs : s.1 = sgn c) : mL m 40 22 = c.toInt64 := by
  obtain ⟨o1, o2, o3⟩ := sgn_off hc
  rcases h.1.2.1.2 with ⟨e, k⟩ | ⟨_, k, v, hv, e, _⟩ | ⟨_, k, x, hx, e, hL⟩ | ⟨_, k, e, _⟩ | ⟨k, e⟩
  · exact absurd (hs.symm.trans e) o1
  · exact absurd (hs.symm.trans e) (o2 v hv)
  · rw [hL, sgn_inj hx hc (e.symm.trans hs)]
  · rcases wrd_rng (B := B) s.2.1 s.2.2 with hw | ⟨j, hj, hw⟩
    · exact absurd (hs.symm.trans (e.trans hw)) hc
    · exact absurd (hs.symm.trans (e.trans hw)) (o3 j hj)
  · exact absurd (hs.symm.trans e) hc
theorem lv_3 (x : Int32) : (lv x = 3) ↔ x = -16 ∨ x = -15 := by
  unfold lv; repeat' split
  all_goals simp_all
theorem lv_2 (x : Int32) : (lv x = 2) ↔ x = -14 ∨ x = -13 := by
  unfold lv; repeat' split
  all_goals simp_all
theorem m_added {g : Mem → Option (Int32 × Mem)} {sub : PS → PR} (hs : Mf B n t E d g sub) (hg : Gd n sub) : Mf B n t E d (fun m => bnd (g m) fun v m2 => gAd g FU m2 v) (pLev B n sub 3 160) := by
  refine m_level hs hg (by decide) (fun fu m s a h hlv => ?_) (fun fu m s a h => ?_) (fun fu m s a m1 m2 b h hlv e1 e2 => ?_) (fun x hx => ?_)
  · have n1 : ¬ s.1 = -16 := fun z => hlv ((lv_3 _).mpr (Or.inl z))
    have n2 : ¬ s.1 = -15 := fun z => hlv ((lv_3 _).mpr (Or.inr z))
    unfold gAd
    rw [m_isSign h.1 (by decide), bnd_eq, show sgn 43 = -15 from rfl, if_pos (by rw [bz0]; simpa using n2), m_isSign h.1 (by decide), bnd_eq, show sgn 45 = -16 from rfl, if_pos (by rw [bz0]; simpa using n1)]
  · unfold gAd
    rw [b_sign h, bnd_eq, if_pos (by decide), b_sign h, bnd_eq, if_pos (by decide)]
  · rw [gAd]
    dsimp only
    rw [m_isSign h.1 (by decide), bnd_eq, show sgn 43 = -15 from rfl]
    rcases (lv_3 _).mp hlv with hx | hx
    · rw [if_pos (by rw [bz0, hx]; decide), m_isSign h.1 (by decide), bnd_eq, show sgn 45 = -16 from rfl, hx, if_neg (by decide), m_worth h (c := 45) (by decide) hx, if_neg (by decide), e1, bnd_eq, e2, bnd_eq, if_pos rfl]
      rfl
    · rw [hx, if_neg (by decide), m_worth h (c := 43) (by decide) hx, if_pos (by decide), e1, bnd_eq, e2, bnd_eq, if_neg (by decide)]
      rfl
  · rcases (lv_3 x).mp hx with rfl | rfl <;> decide
theorem m_cmp {g : Mem → Option (Int32 × Mem)} {sub : PS → PR} (hs : Mf B n t E d g sub) (hg : Gd n sub) : Mf B n t E d (gCm g) (pLev B n sub 2 1) := by
  intro m s h ho
  obtain ⟨a, m1, e1, q1, k1⟩ := hs m s h ho
  obtain ⟨g1, g2, g3⟩ := hg s ho
  unfold gCm
  rw [e1, bnd_eq]
  unfold pLev pThen
  cases hr : (sub s).1 with
  | none =>
    have hB := k1.2 hr
    exact ⟨a, m1, by rw [b_sign hB, bnd_eq, if_pos (by decide), b_sign hB, bnd_eq, if_pos (by decide)], q1, MP.no hB⟩
  | some c =>
    obtain ⟨x1, x2⟩ := k1.1 c hr
    dsimp only
    unfold pLoop
    generalize (sub s).2 = s1 at *
    by_cases hlv : lv s1.1 = 2
    · simp only [if_pos hlv]
      have ht := lv_end hlv (by decide)
      have h23 : ¬ s1.1 = -23 := fun z => by rw [z] at hlv; exact absurd hlv (by decide)
      obtain ⟨a1, a2⟩ := adv_lt (B := B) g1 ht
      obtain ⟨m2, e2, q2, k2⟩ := m_nx x1 g1 ht h23
      obtain ⟨b, m3, e3, q3, k3⟩ := hs m2 _ k2 a1
      have go : bnd (F_X6_isSign m1 (60 : Int32)) (fun v10 m11 => if (bz v10) = 0 then bnd (F_X6_isSign m11 (61 : Int32)) fun v15 m16 => if (bz v15) = 0 then some (a, m16) else gC5 g m16 a else gC5 g m11 a) = some (jn s1.1 a b, m3) := by
        rw [m_isSign x1.1 (by decide), bnd_eq, show sgn 60 = -13 from rfl]
        rcases (lv_2 _).mp hlv with hx | hx
        · rw [if_pos (by rw [bz0, hx]; decide), m_isSign x1.1 (by decide), bnd_eq, show sgn 61 = -14 from rfl, hx, if_neg (by decide)]
          unfold gC5 gC6
          rw [m_worth x1 (c := 61) (by decide) hx, if_neg (by decide), e2, bnd_eq, e3, bnd_eq, if_pos rfl]
          show _ = some (if a = b then 1 else 0, m3)
          split <;> rfl
        · rw [hx, if_neg (by decide)]
          unfold gC5 gC6
          rw [m_worth x1 (c := 60) (by decide) hx, if_pos (by decide), e2, bnd_eq, e3, bnd_eq, if_neg (by decide)]
          show _ = some (if a < b then 1 else 0, m3)
          by_cases hab : b ≤ a
          · rw [if_pos hab, if_neg (by rw [Int32.le_iff_toInt_le] at hab; rw [Int32.lt_iff_toInt_lt]; omega)]
          · rw [if_neg hab, if_pos (by rw [Int32.le_iff_toInt_le] at hab; rw [Int32.lt_iff_toInt_lt]; omega)]
      unfold pThen
      cases hr2 : (sub (adv B n s1)).1 with
      | none => exact ⟨_, m3, go, (q1.tr q2).tr q3, MP.no (k3.2 hr2)⟩
      | some c2 =>
        obtain ⟨y1, y2⟩ := k3.1 c2 hr2
        refine ⟨_, m3, go, (q1.tr q2).tr q3, MP.yes y1 (run_join x2 y2 ?_ ?_ ?_)⟩
        · rcases (lv_2 _).mp hlv with hx | hx <;> rw [hx] <;> decide
        · rcases (lv_2 _).mp hlv with hx | hx <;> rw [hx] <;> decide
        · rcases (lv_2 _).mp hlv with hx | hx <;> rw [hx] <;> decide
    · simp only [if_neg hlv]
      have n1 : ¬ s1.1 = -14 := fun z => hlv ((lv_2 _).mpr (Or.inl z))
      have n2 : ¬ s1.1 = -13 := fun z => hlv ((lv_2 _).mpr (Or.inr z))
      refine ⟨a, m1, ?_, q1, MP.yes x1 x2⟩
      rw [m_isSign x1.1 (by decide), bnd_eq, show sgn 60 = -13 from rfl, if_pos (by rw [bz0]; simpa using n2), m_isSign x1.1 (by decide), bnd_eq, show sgn 61 = -14 from rfl, if_pos (by rw [bz0]; simpa using n1)]
end MCM
