/-! one and not, depth by depth -/
noncomputable def gA7 (m : Mem) (a1 : Int32) : Option (Int32 × Mem) :=
  nm (wD m 40 23 ((mD m 40 23) - (1 : Int32))) fun m47 =>
  if (mD m47 40 24) = 0 then bnd (F_X6_next m47) fun v49 m50 => some (a1, m50) else some (a1, m47)
noncomputable def gAt (ga ge : Mem → Option (Int32 × Mem)) (m : Mem) : Option (Int32 × Mem) :=
  bnd (F_X6_isSign m (45 : Int32)) fun v1 m2 =>
  if (bz v1) = 0 then
    bnd (F_X6_isSign m2 (40 : Int32)) fun v6 m7 =>
    if (bz v6) = 0 then gLf m7
    else
      bnd (F_X6_opens m7) fun v18 m19 =>
      if (bz v18) = 0 then some ((0 : Int32), m19)
      else
        bnd (ge m19) fun v23 m24 =>
        bnd (F_X6_isSign m24 (41 : Int32)) fun v27 m28 =>
        if (bz v27) = 0 then bnd (F_X6_fail m28) fun v32 m33 => gA7 m33 v23 else gA7 m28 v23
  else
    bnd (F_X6_opens m2) fun v36 m37 =>
    if (bz v36) = 0 then some ((0 : Int32), m37)
    else
      bnd (ga m37) fun v41 m42 =>
      nm (-v41) fun x45 =>
      nm (wD m42 40 23 ((mD m42 40 23) - (1 : Int32))) fun m46 => some (x45, m46)
noncomputable def gNo (gn gs : Mem → Option (Int32 × Mem)) (m : Mem) : Option (Int32 × Mem) :=
  bnd (F_X6_isWord m (110 : Int32) (111 : Int32) (116 : Int32) (0 : Int32) (0 : Int32) (0 : Int32) (0 : Int32) (0 : Int32)) fun v1 m2 =>
  if (bz v1) = 0 then gCm gs m2
  else
    bnd (F_X6_opens m2) fun v20 m21 =>
    if (bz v20) = 0 then some ((0 : Int32), m21)
    else
      bnd (gn m21) fun v25 m26 =>
      nm (wD m26 40 23 ((mD m26 40 23) - (1 : Int32))) fun m29 =>
      if v25 = 0 then some ((1 : Int32), m29) else some ((0 : Int32), m29)
section MDP
variable {B : Nat → Int32} {n t d : Nat} {E : Int32 → Int32}
theorem run_one {cs : List Int32} {a x : Int32} (h1 : ∀ st, runS E cs st = a :: st) : ∀ st, runS E (cs ++ [x]) st = st1 E x (a :: st) := by
  intro st; rw [runS_app, h1]; rfl
theorem m_atomS {ga ge : Mem → Option (Int32 × Mem)} {a : (PS → PR) × (PS → PR)} (hd : d < 5) (hA : Mf B n t E (d + 1) ga a.1) (hE : Mf B n t E (d + 1) ge (pOr B n a.2)) (gA : Gd n a.1) (gE : Gd n a.2) : Mf B n t E d (gAt ga ge) (oneS B n a) := by
  intro m s h ho
  unfold gAt
  rw [m_isSign h.1 (by decide), bnd_eq, show sgn 45 = -16 from rfl]
  by_cases t1 : s.1 = -16
  · have e1 : oneS B n a s = pThen (a.1 (adv B n s)) fun c s' => (some (c ++ [-18]), s') := by unfold oneS; rw [if_pos (by rw [t1]; decide), if_pos t1]
    rw [if_neg (by simp [bz, t1]), e1]
    obtain ⟨a1, a2⟩ := adv_lt (B := B) ho (by rw [t1]; decide)
    obtain ⟨m1, x1, q1, k1⟩ := m_opens h ho hd (by rw [t1]; decide) (by rw [t1]; decide)
    obtain ⟨v, m2, x2, q2, k2⟩ := hA m1 _ k1 a1
    rw [x1, bnd_eq, if_neg (by decide), x2, bnd_eq]
    unfold pThen
    cases hr : (a.1 (adv B n s)).1 with
    | none => exact ⟨-v, Ev.step (q1.tr q2) (Ev.nam (Ev.namW ⟨rfl, by omega⟩ (Ev.ret (MP.no (k2.2 hr).w23))))⟩
    | some c =>
      obtain ⟨y1, y2⟩ := k2.1 c hr
      obtain ⟨z1, z2⟩ := m_shuts y1 hd
      rw [z1]
      refine ⟨-v, Ev.step (q1.tr q2) (Ev.nam (Ev.namW ⟨rfl, by omega⟩ (Ev.ret (MP.yes z2 fun st => ?_))))⟩
      rw [run_one y2]; rfl
  · rw [if_pos (by rw [bz0]; simpa using t1), m_isSign h.1 (by decide), bnd_eq, show sgn 40 = -19 from rfl]
    by_cases t2 : s.1 = -19
    · have e1 : oneS B n a s = pThen (pOr B n a.2 (adv B n s)) fun c s' => if s'.1 = -20 then (some c, adv B n s') else (none, s') := by unfold oneS; rw [if_pos (by rw [t2]; decide), if_neg t1, if_pos t2]
      rw [if_neg (by simp [bz, t2]), e1]
      obtain ⟨a1, a2⟩ := adv_lt (B := B) ho (by rw [t2]; decide)
      obtain ⟨g1, g2, g3⟩ := pOr_gd (B := B) gE (adv B n s) a1
      obtain ⟨m1, x1, q1, k1⟩ := m_opens h ho hd (by rw [t2]; decide) (by rw [t2]; decide)
      obtain ⟨v, m2, x2, q2, k2⟩ := hE m1 _ k1 a1
      rw [x1, bnd_eq, if_neg (by decide), x2, bnd_eq]
      unfold pThen
      have bad7 : ∀ (s' : PS) (m' : Mem), Bad s' m' → Ev pMp (MP B n t E d v (none, s')) (gA7 m' v) m' v := fun s' m' hb => by
        unfold gA7
        exact Ev.namW ⟨rfl, by omega⟩ (Ev.iff (by rw [hb.w23.1]; decide) (Ev.ret (MP.no hb.w23)))
      cases hr : (pOr B n a.2 (adv B n s)).1 with
      | none =>
        have hB := k2.2 hr
        rw [b_sign hB, bnd_eq, if_pos (by decide), b_fail hB, bnd_eq]
        exact ⟨v, Ev.step (q1.tr q2) (bad7 _ m2 hB)⟩
      | some c =>
        obtain ⟨y1, y2⟩ := k2.1 c hr
        dsimp only
        generalize (pOr B n a.2 (adv B n s)).2 = s1 at *
        rw [m_isSign y1.1 (by decide), bnd_eq, show sgn 41 = -20 from rfl]
        by_cases t3 : s1.1 = -20
        · simp only [if_pos t3]
          rw [if_neg (by simp [bz, t3])]
          obtain ⟨z1, z2⟩ := m_shuts y1 hd
          unfold gA7
          rw [z1]
          refine ⟨v, Ev.step (q1.tr q2) (Ev.namW ⟨rfl, by omega⟩ (Ev.ift z2.1.2.2.2 (Ev.bd (m_nx z2 g1 (by rw [t3]; decide) (by rw [t3]; decide)) fun m3 h3 => Ev.ret (MP.yes h3 y2))))⟩
        · simp only [if_neg t3]
          rw [if_pos (by rw [bz0]; simpa using t3)]
          exact ⟨v, Ev.step (q1.tr q2) (Ev.bd (m_fail y1.1.2.2.2 y1.1.2.1.1) fun m3 h3 => bad7 _ m3 h3)⟩
    · have e1 : oneS B n a s = oneZ B n s := by unfold oneS oneZ; rw [if_neg t1, if_neg t2]
      rw [if_pos (by rw [bz0]; simpa using t2), e1]
      exact m_leaf h ho
theorem m_notS {gn gs : Mem → Option (Int32 × Mem)} {a : (PS → PR) × (PS → PR)} {cmp : PS → PR} (hd : d < 5) (hN : Mf B n t E (d + 1) gn a.2) (hC : Mf B n t E d (gCm gs) cmp) : Mf B n t E d (gNo gn gs) (fun s => if s.1 = -12 then pThen (a.2 (adv B n s)) fun c s' => (some (c ++ [-12]), s') else cmp s) := by
  intro m s h ho
  unfold gNo
  rw [show F_X6_isWord m 110 111 116 0 0 0 0 0 = _ from m_isWord h.1 (k := 11) (by decide), bnd_eq, show (-1 : Int32) - nI 11 = -12 from rfl]
  by_cases t1 : s.1 = -12
  · simp only [if_pos t1]
    rw [if_neg (by simp [bz, t1])]
    obtain ⟨a1, a2⟩ := adv_lt (B := B) ho (by rw [t1]; decide)
    obtain ⟨m1, x1, q1, k1⟩ := m_opens h ho hd (by rw [t1]; decide) (by rw [t1]; decide)
    obtain ⟨v, m2, x2, q2, k2⟩ := hN m1 _ k1 a1
    rw [x1, bnd_eq, if_neg (by decide), x2, bnd_eq]
    unfold pThen
    have fin : ∀ (m3 : Mem), (if v = 0 then some ((1 : Int32), m3) else some ((0 : Int32), m3)) = some (nt v, m3) := fun m3 => by unfold nt; split <;> rfl
    cases hr : (a.2 (adv B n s)).1 with
    | none => exact ⟨nt v, Ev.step (q1.tr q2) (Ev.namW ⟨rfl, by omega⟩ (Ev.of (fin _) (Ev.ret (MP.no (k2.2 hr).w23))))⟩
    | some c =>
      obtain ⟨y1, y2⟩ := k2.1 c hr
      obtain ⟨z1, z2⟩ := m_shuts y1 hd
      rw [z1]
      refine ⟨nt v, Ev.step (q1.tr q2) (Ev.namW ⟨rfl, by omega⟩ (Ev.of (fin _) (Ev.ret (MP.yes z2 fun st => ?_))))⟩
      rw [run_one y2]; rfl
  · simp only [if_neg t1]
    rw [if_pos (by rw [bz0]; simpa using t1)]
    exact hC m s h ho
end MDP
