/-! the reference's loops, for a reader of what stands between the signs -/
noncomputable def gTm (g : Mem → Option (Int32 × Mem)) : Nat → Mem → Int32 → Option (Int32 × Mem)
  | 0 => fun m a1 => none
  | n + 1 => fun m a1 =>
    bnd (F_X6_isSign m (42 : Int32)) fun v5 m6 =>
    if (bz v5) = 0 then some (a1, m6)
    else
      bnd (F_X6_next m6) fun v10 m11 =>
      bnd (g m11) fun v14 m15 =>
      nm (a1 * v14) fun x18 => gTm g n m15 x18
noncomputable def gBo (g : Mem → Option (Int32 × Mem)) : Nat → Mem → Int32 → Option (Int32 × Mem)
  | 0 => fun m a1 => none
  | n + 1 => fun m a1 =>
    bnd (F_X6_isWord m (97 : Int32) (110 : Int32) (100 : Int32) (0 : Int32) (0 : Int32) (0 : Int32) (0 : Int32) (0 : Int32)) fun v5 m6 =>
    if (bz v5) = 0 then some (a1, m6)
    else
      bnd (F_X6_next m6) fun v10 m11 =>
      bnd (g m11) fun v14 m15 =>
      if a1 = 0 then gBo g n m15 0 else if v14 = 0 then gBo g n m15 0 else gBo g n m15 1
noncomputable def gEi (g : Mem → Option (Int32 × Mem)) : Nat → Mem → Int32 → Option (Int32 × Mem)
  | 0 => fun m a1 => none
  | n + 1 => fun m a1 =>
    bnd (F_X6_isWord m (111 : Int32) (114 : Int32) (0 : Int32) (0 : Int32) (0 : Int32) (0 : Int32) (0 : Int32) (0 : Int32)) fun v5 m6 =>
    if (bz v5) = 0 then some (a1, m6)
    else
      bnd (F_X6_next m6) fun v10 m11 =>
      bnd (g m11) fun v14 m15 =>
      if a1 = 0 then (if v14 = 0 then gEi g n m15 0 else gEi g n m15 1) else gEi g n m15 1
section MLP
variable {B : Nat → Int32} {n t d : Nat} {E : Int32 → Int32} {m : Mem} {s : PS}
theorem MP.yes {v : Int32} {cs : List Int32} (h : ME B n t E d s m) (hr : ∀ st, runS E cs st = v :: st) : MP B n t E d v (some cs, s) m := ⟨fun c e => by cases e; exact ⟨h, hr⟩, fun z => by cases z⟩
theorem MP.no {v : Int32} (h : Bad s m) : MP B n t E d v (none, s) m := ⟨fun c e => (by cases e), fun _ => h⟩
/-- a loop of the reference -/
theorem m_loop {g : Mem → Option (Int32 × Mem)} {sub : PS → PR} {lev : Int32} {G : Nat → Mem → Int32 → Option (Int32 × Mem)} (hs : Mf B n t E d g sub) (hg : Gd n sub) (hl : ¬ lev = -1)
    (h0 : ∀ fu m s a, ME B n t E d s m → ¬ lv s.1 = lev → G (fu + 1) m a = some (a, m))
    (hb : ∀ fu m s a, Bad s m → G (fu + 1) m a = some (a, m))
    (h1 : ∀ fu m s a m1 m2 b, ME B n t E d s m → lv s.1 = lev → F_X6_next m = some ((), m1) → g m1 = some (b, m2) → G (fu + 1) m a = G fu m2 (jn s.1 a b))
    (hj : ∀ x, lv x = lev → x < -6 ∧ ¬ x = -12 ∧ ¬ x = -18 ∧ ¬ x = -23) :
    ∀ (r fu : Nat) (m : Mem) (a : Int32) (cs : List Int32) (s : PS), n < s.2.1 + r → r < fu → ME B n t E d s m → okS n s → (∀ st, runS E cs st = a :: st) → ∃ v, Ev pMp (MP B n t E d v (pLoop B n sub lev r cs s)) (G fu m a) m v := by
  intro r
  induction r with
  | zero => intro fu m a cs s hr hf h ho hc; have := ho.1; omega
  | succ r ih =>
    intro fu m a cs s hr hf h ho hc
    cases fu with
    | zero => omega
    | succ fu =>
      unfold pLoop
      by_cases hlv : lv s.1 = lev
      · simp only [if_pos hlv]
        have ht := lv_end hlv hl
        obtain ⟨a1, a2⟩ := adv_lt (B := B) ho ht
        obtain ⟨g1, g2, g3⟩ := hg (adv B n s) a1
        obtain ⟨j1, j2, j3, j4⟩ := hj s.1 hlv
        obtain ⟨m1, e1, q1, k1⟩ := m_nx h ho ht j4
        obtain ⟨b, m2, e2, q2, k2⟩ := hs m1 _ k1 a1
        rw [h1 fu m s a m1 m2 b h hlv e1 e2]
        unfold pThen
        cases hr2 : (sub (adv B n s)).1 with
        | none =>
          have hB := k2.2 hr2
          cases fu with
          | zero => omega
          | succ fu =>
            exact ⟨jn s.1 a b, m2, hb fu m2 _ _ hB, q1.tr q2, MP.no hB⟩
        | some c2 =>
          obtain ⟨x1, x2⟩ := k2.1 c2 hr2
          obtain ⟨g4, g5⟩ := g3 c2 hr2
          obtain ⟨v, m3, e3, q3, k3⟩ := ih fu m2 (jn s.1 a b) (cs ++ (c2 ++ [s.1])) _ (by omega) (by omega) x1 g1 (run_join hc x2 j1 j2 j3)
          exact ⟨v, m3, e3, (q1.tr q2).tr q3, k3⟩
      · simp only [if_neg hlv]
        exact ⟨a, m, h0 fu m s a h hlv, Ag.rf, MP.yes h hc⟩
/-- a level of the reference -/
theorem m_level {g : Mem → Option (Int32 × Mem)} {sub : PS → PR} {lev : Int32} {G : Nat → Mem → Int32 → Option (Int32 × Mem)} (hs : Mf B n t E d g sub) (hg : Gd n sub) (hl : ¬ lev = -1)
    (h0 : ∀ fu m s a, ME B n t E d s m → ¬ lv s.1 = lev → G (fu + 1) m a = some (a, m))
    (hb : ∀ fu m s a, Bad s m → G (fu + 1) m a = some (a, m))
    (h1 : ∀ fu m s a m1 m2 b, ME B n t E d s m → lv s.1 = lev → F_X6_next m = some ((), m1) → g m1 = some (b, m2) → G (fu + 1) m a = G fu m2 (jn s.1 a b))
    (hj : ∀ x, lv x = lev → x < -6 ∧ ¬ x = -12 ∧ ¬ x = -18 ∧ ¬ x = -23) : Mf B n t E d (fun m => bnd (g m) fun v m2 => G FU m2 v) (pLev B n sub lev 160) := by
  intro m s h ho
  obtain ⟨b, m2, e2, q2, k2⟩ := hs m s h ho
  obtain ⟨g1, g2, g3⟩ := hg s ho
  have hn := h.1.1.1
  show ∃ v, Ev pMp _ (bnd (g m) fun v m2 => G FU m2 v) m v
  rw [e2, bnd_eq]
  unfold pLev pThen
  cases hr2 : (sub s).1 with
  | none =>
    have hB := k2.2 hr2
    exact ⟨b, m2, hb 4999 m2 _ _ hB, q2, MP.no hB⟩
  | some c2 =>
    obtain ⟨x1, x2⟩ := k2.1 c2 hr2
    obtain ⟨g4, g5⟩ := g3 c2 hr2
    obtain ⟨v, m3, e3, q3, k3⟩ := m_loop hs hg hl h0 hb h1 hj 160 FU m2 b c2 _ (by omega) (hFU (by omega)) x1 g1 x2
    exact ⟨v, m3, e3, q2.tr q3, k3⟩
theorem m_term {g : Mem → Option (Int32 × Mem)} {sub : PS → PR} (hs : Mf B n t E d g sub) (hg : Gd n sub) : Mf B n t E d (fun m => bnd (g m) fun v m2 => gTm g FU m2 v) (pTerm B n sub) := by
  refine m_level hs hg (by decide) (fun fu m s a h hlv => ?_) (fun fu m s a h => ?_) (fun fu m s a m1 m2 b h hlv e1 e2 => ?_) (fun x hx => ?_)
  · unfold gTm
    rw [m_isSign h.1 (by decide), bnd_eq, show sgn 42 = -17 from rfl, if_pos (by rw [bz0]; simpa using fun z => hlv ((lv_4 _).mpr z))]
  · unfold gTm
    rw [b_sign h, bnd_eq, if_pos (by decide)]
  · rw [gTm]
    dsimp only
    rw [m_isSign h.1 (by decide), bnd_eq, show sgn 42 = -17 from rfl, (lv_4 _).mp hlv, if_neg (by simp [bz]), e1, bnd_eq, e2, bnd_eq]
    rfl
  · rw [(lv_4 x).mp hx]; decide
theorem lv_1 (x : Int32) : (lv x = 1) ↔ x = -11 := by
  unfold lv; repeat' split
  all_goals simp_all
theorem lv_0 (x : Int32) : (lv x = 0) ↔ x = -10 := by
  unfold lv; repeat' split
  all_goals simp_all
theorem m_both {g : Mem → Option (Int32 × Mem)} {sub : PS → PR} (hs : Mf B n t E d g sub) (hg : Gd n sub) : Mf B n t E d (fun m => bnd (g m) fun v m2 => gBo g FU m2 v) (pAnd B n sub) := by
  refine m_level hs hg (by decide) (fun fu m s a h hlv => ?_) (fun fu m s a h => ?_) (fun fu m s a m1 m2 b h hlv e1 e2 => ?_) (fun x hx => ?_)
  · unfold gBo
    rw [show F_X6_isWord m 97 110 100 0 0 0 0 0 = _ from m_isWord h.1 (k := 10) (by decide), bnd_eq, show (-1 : Int32) - nI 10 = -11 from rfl, if_pos (by rw [bz0]; simpa using fun z => hlv ((lv_1 _).mpr z))]
  · unfold gBo
    rw [b_word h, bnd_eq, if_pos (by decide)]
  · rw [gBo]
    dsimp only
    rw [show F_X6_isWord m 97 110 100 0 0 0 0 0 = _ from m_isWord h.1 (k := 10) (by decide), bnd_eq, show (-1 : Int32) - nI 10 = -11 from rfl, (lv_1 _).mp hlv, if_neg (by simp [bz]), e1, bnd_eq, e2, bnd_eq]
    show _ = gBo g fu m2 (if a = 0 then 0 else if b = 0 then 0 else 1)
    split
    · rfl
    · split <;> rfl
  · rw [(lv_1 x).mp hx]; decide
theorem m_either {g : Mem → Option (Int32 × Mem)} {sub : PS → PR} (hs : Mf B n t E d g sub) (hg : Gd n sub) : Mf B n t E d (fun m => bnd (g m) fun v m2 => gEi g FU m2 v) (pLev B n sub 0 160) := by
  refine m_level hs hg (by decide) (fun fu m s a h hlv => ?_) (fun fu m s a h => ?_) (fun fu m s a m1 m2 b h hlv e1 e2 => ?_) (fun x hx => ?_)
  · unfold gEi
    rw [show F_X6_isWord m 111 114 0 0 0 0 0 0 = _ from m_isWord h.1 (k := 9) (by decide), bnd_eq, show (-1 : Int32) - nI 9 = -10 from rfl, if_pos (by rw [bz0]; simpa using fun z => hlv ((lv_0 _).mpr z))]
  · unfold gEi
    rw [b_word h, bnd_eq, if_pos (by decide)]
  · rw [gEi]
    dsimp only
    rw [show F_X6_isWord m 111 114 0 0 0 0 0 0 = _ from m_isWord h.1 (k := 9) (by decide), bnd_eq, show (-1 : Int32) - nI 9 = -10 from rfl, (lv_0 _).mp hlv, if_neg (by simp [bz]), e1, bnd_eq, e2, bnd_eq]
    show _ = gEi g fu m2 (if a = 0 then if b = 0 then 0 else 1 else 1)
    split
    · split <;> rfl
    · rfl
  · rw [(lv_0 x).mp hx]; decide
end MLP
