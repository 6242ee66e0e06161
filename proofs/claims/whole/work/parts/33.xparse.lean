/-! the class reads so -/
def pPa (k i : Nat) : Prop := (k = 2 ∧ ¬ i = 1) ∨ k = 4
/-- the tape stands at s, with the steps c put -/
def XS0 (B : Nat → Int32) (n : Nat) (c : List Int32) (s : PS) (m : Mem) : Prop := LX B n m ∧ mD m 2 2 = s.1 ∧ mD m 2 3 = nI s.2.1 ∧ mD m 2 4 = nI s.2.2 ∧ mD m 2 6 = nI c.length ∧ (∀ j, j < c.length → mD m 4 j = c.getD j 0)
def XS (B : Nat → Int32) (n : Nat) (c : List Int32) (s : PS) (m : Mem) : Prop := XS0 B n c s m ∧ c.length ≤ s.2.1
def XP (B : Nat → Int32) (n : Nat) (c : List Int32) (r : PR) (m : Mem) : Prop := ∃ c', XS B n c' r.2 m ∧ ∀ cs, r.1 = some cs → c' = c ++ cs
/-- f reads as sub says -/
def Xf (B : Nat → Int32) (n : Nat) (f : Mem → Option (Bool × Mem)) (sub : PS → PR) : Prop := ∀ m c s, XS B n c s m → okS n s → Ev pPa (XP B n c (sub s)) (f m) m (sub s).1.isSome
section XPS
variable {B : Nat → Int32} {n : Nat} {m : Mem}
theorem x_lv (m : Mem) (t : Int32) : F_X3_levelOf m t = some (lv t, m) := by
  unfold F_X3_levelOf lv
  by_cases h : t = -12
  · subst h; rfl
  · simp only [h, if_false]
    repeat' split
    all_goals rfl
theorem x_adv0 {c : List Int32} {s : PS} (h : XS0 B n c s m) (ho : okS n s) : Ev pPa (XS0 B n c (adv B n s)) (F_X3_advance m) m true := by
  obtain ⟨h1, h2, h3, h4, h5, h6⟩ := h
  refine ((x_advance h1 ho.2.1 h4).imA fun m' ha hm => ?_).mono fun k i hp => Or.inl ⟨hp.1, by have := hp.2; omega⟩
  obtain ⟨g1, g2, g3, g4⟩ := hm
  refine ⟨g1, g2, g3, g4, ?_, fun j hj => ?_⟩
  · rw [ha.2 2 6 (by unfold pTk; omega)]; exact h5
  · rw [ha.2 4 j (by unfold pTk; omega)]; exact h6 j hj
theorem x_adv {c : List Int32} {s : PS} (h : XS B n c s m) (ho : okS n s) (ht : ¬ s.1 = -22) : Ev pPa (XS B n c (adv B n s)) (F_X3_advance m) m true :=
  (x_adv0 h.1 ho).im fun m' h' => ⟨h', by have := (adv_lt (B := B) ho ht).2; have := h.2; omega⟩
theorem x_put0 {c : List Int32} {s : PS} (h : XS0 B n c s m) (hc : c.length < 160) (x : Int32) : Ev pPa (XS0 B n (c ++ [x]) s) (F_X3_put m x) m true := by
  obtain ⟨h1, h2, h3, h4, h5, h6⟩ := h
  unfold F_X3_put
  rw [h5, if_neg (show ¬ Int32.ofNat 160 ≤ nI c.length by rw [show Int32.ofNat 160 = nI 160 from rfl, nI_le' (by omega) (by omega)]; omega), gIf_pos (vp_n (by omega) (by decide)), nI_c (by omega)]
  refine Ev.namW (Or.inr rfl) (Ev.namW (Or.inl ⟨rfl, by decide⟩) (Ev.ret ⟨⟨h1.1, ?_, fun i hi => ?_⟩, ?_, ?_, ?_, ?_, fun j hj => ?_⟩))
  · simp only [mD_wD]; simpa using h1.2.1
  · simp only [mD_wD]; simpa using h1.2.2 i hi
  · simp only [mD_wD]; simpa using h2
  · simp only [mD_wD]; simpa using h3
  · simp only [mD_wD]; simpa using h4
  · rw [mD_wD, mD_wD]; simp [h5, nI_1]
  · rw [mD_wD, if_neg (by omega), mD_wD]
    by_cases e : j = c.length
    · subst e; simp
    · have hj' : j < c.length := by simp at hj; omega
      rw [if_neg (by omega), h6 j hj', List.getD_eq_getElem?_getD, List.getD_eq_getElem?_getD, List.getElem?_append_left hj']
theorem x_put {c : List Int32} {s : PS} (h : XS B n c s m) (ho : okS n s) (hc : c.length + 1 ≤ s.2.1) (x : Int32) : Ev pPa (XS B n (c ++ [x]) s) (F_X3_put m x) m true :=
  (x_put0 h.1 (by have := h.1.1.1; have := ho.1; omega) x).im fun m' h' => ⟨h', by simpa using hc⟩
theorem x_loopL {RL : Mem → Int32 → Int32 → Option (Bool × Mem)} {RO : Mem → Int32 → Option (Bool × Mem)} {lev op : Int32} {sub : PS → PR} (hs : Xf B n (fun m => RL m (lev + 1) op) sub) (hg : Gd n sub) (hl : ¬ lev = -1) (lim : Nat) (hlim : lim < 1000) : ∀ (r i fu : Nat) (m : Mem) (c0 cs : List Int32) (s : PS), i + r = lim → r < fu → XS B n (c0 ++ cs) s m → okS n s → Ev pPa (XP B n c0 (pLoop B n sub lev r cs s)) (F_X3_readLevel_92 RL RO fu m lev op (nI lim) (nI i)) m (pLoop B n sub lev r cs s).1.isSome := by
  intro r
  induction r with
  | zero =>
    intro i fu m c0 cs s hi hf h ho
    cases fu with
    | zero => omega
    | succ fu =>
      unfold F_X3_readLevel_92 pLoop
      rw [if_pos (by rw [nI_le' (by omega) (by omega)]; omega)]
      exact Ev.ret ⟨_, h, fun c e => by cases e; rfl⟩
  | succ r ih =>
    intro i fu m c0 cs s hi hf h ho
    cases fu with
    | zero => omega
    | succ fu =>
      unfold F_X3_readLevel_92 pLoop
      rw [if_neg (show ¬ nI lim ≤ nI i by rw [nI_le' (by omega) (by omega)]; omega), x_lv, bnd_eq, h.1.2.1, nI_1]
      by_cases h1 : lv s.1 = lev
      · rw [if_pos h1]
        simp only [if_pos h1]
        have ht := lv_end h1 hl
        obtain ⟨a1, a2⟩ := adv_lt (B := B) ho ht
        refine Ev.nam (Ev.bd (x_adv h ho ht) fun m1 hm1 => Ev.bd (hs m1 _ _ hm1 a1) fun m2 hm2 => ?_)
        obtain ⟨g1, g2, g3⟩ := hg (adv B n s) a1
        obtain ⟨c', x1, x2⟩ := hm2
        unfold pThen
        cases hr : (sub (adv B n s)).1 with
        | none => exact Ev.ift (by simp [bz]) (Ev.ret ⟨c', x1, fun c e => by cases e⟩)
        | some c2 =>
          obtain ⟨g4, g5⟩ := g3 c2 hr
          have e1 := x2 c2 hr
          subst e1
          refine Ev.iff (by simp [bz]) (Ev.bd (x_put x1 g1 (by have := h.2; simp at this ⊢; omega) s.1) fun m3 hm3 => ?_)
          refine ih (i + 1) fu m3 c0 (cs ++ (c2 ++ [s.1])) _ (by omega) (by omega) ?_ g1
          simpa using hm3
      · rw [if_neg h1]
        simp only [if_neg h1]
        exact Ev.ret ⟨_, h, fun c e => by cases e; rfl⟩
theorem x_lev {RL : Mem → Int32 → Int32 → Option (Bool × Mem)} {RO : Mem → Int32 → Option (Bool × Mem)} {lev op : Int32} {sub : PS → PR} (hs : Xf B n (fun m => RL m (lev + 1) op) sub) (hg : Gd n sub) (hl : ¬ lev = -1) : Xf B n (fun m => F_X3_readLevel_63 RL RO m lev op) (pLev B n sub lev (if lev = 2 then 1 else 160)) := by
  intro m c s h ho
  show Ev pPa _ (F_X3_readLevel_63 RL RO m lev op) m _
  unfold F_X3_readLevel_63 F_X3_readLevel_88 pLev
  refine Ev.bd (hs m c s h ho) fun m1 hm1 => ?_
  obtain ⟨g1, g2, g3⟩ := hg s ho
  obtain ⟨c', x1, x2⟩ := hm1
  unfold pThen
  cases hr : (sub s).1 with
  | none => exact Ev.ift (by simp [bz]) (Ev.ret ⟨c', x1, fun c e => by cases e⟩)
  | some c2 =>
    have e1 := x2 c2 hr
    subst e1
    refine Ev.iff (by simp [bz]) ?_
    by_cases h2 : lev = 2
    · rw [if_pos h2]
      simp only [if_pos h2]
      exact x_loopL hs hg hl 1 (by omega) 1 0 FU m1 c c2 _ (by omega) (hFU (by omega)) x1 g1
    · rw [if_neg h2]
      simp only [if_neg h2]
      exact x_loopL hs hg hl 160 (by omega) 160 0 FU m1 c c2 _ (by omega) (hFU (by omega)) x1 g1
theorem x_up {N : Nat} {lev op : Int32} {sub : PS → PR} (hs : ∀ fu, N ≤ fu → Xf B n (fun m => (F_rec fu).1 m (lev + 1) op) sub) (hg : Gd n sub) (hl : lev = 0 ∨ lev = 1 ∨ lev = 3 ∨ lev = 4) : ∀ fu, N + 1 ≤ fu → Xf B n (fun m => (F_rec fu).1 m lev op) (pLev B n sub lev 160) := by
  intro fu hf
  cases fu with
  | zero => omega
  | succ fu =>
    have hx := x_lev (RO := (F_rec fu).2) (hs fu (by omega)) hg (lev := lev) (by rcases hl with rfl | rfl | rfl | rfl <;> decide)
    rw [if_neg (by rcases hl with rfl | rfl | rfl | rfl <;> decide)] at hx
    intro m c s h ho
    refine Ev.of ?_ (hx m c s h ho)
    show F_X3_readLevel (F_rec fu).1 (F_rec fu).2 m lev op = _
    unfold F_X3_readLevel
    rw [if_pos (by rcases hl with rfl | rfl | rfl | rfl <;> decide), if_neg (by rcases hl with rfl | rfl | rfl | rfl <;> decide)]
theorem n5 {k : Nat} (hk : k < 5) : ¬ (5 : Int32) ≤ nI k := by rw [show (5 : Int32) = nI 5 from rfl, nI_le' (by omega) (by omega)]; omega
theorem n55 : (5 : Int32) ≤ nI 5 := by decide
theorem x_atom {c : List Int32} {s : PS} (h : XS B n c s m) (ho : okS n s) (t0 : ¬ s.1 < -6) : Ev pPa (XP B n c (some [s.1], adv B n s)) (bnd (F_X3_put m s.1) fun v34 m35 => if (bz v34) = 0 then some (false, m35) else bnd (F_X3_advance m35) fun v38 m39 => if (bz v38) = 0 then some (false, m39) else some (true, m39)) m true := by
  have ht : ¬ s.1 = -22 := fun z => t0 (by rw [z]; decide)
  have := ho.2.2 ht
  have := ho.2.1
  have := h.1.1.1
  have := h.2
  refine Ev.bd (x_put0 h.1 (by omega) s.1) fun m1 h1 => Ev.iff (by decide) (Ev.bd (x_adv0 h1 ho) fun m2 h2 => Ev.iff (by decide) (Ev.ret ⟨_, ⟨h2, ?_⟩, fun cs e => by cases e; rfl⟩))
  have := (adv_lt (B := B) ho ht).2
  simp; omega
theorem x_no {c : List Int32} {s : PS} (h : XS B n c s m) : Ev pPa (XP B n c (none, s)) (some (false, m)) m false := Ev.ret ⟨c, h, fun c e => by cases e⟩
/-- one, where nothing may be opened -/
theorem x_oneZ {RL : Mem → Int32 → Int32 → Option (Bool × Mem)} {RO : Mem → Int32 → Option (Bool × Mem)} : Xf B n (fun m => F_X3_readOne RL RO m (nI 5)) (oneZ B n) := by
  intro m c s h ho
  show Ev pPa _ (F_X3_readOne RL RO m (nI 5)) m _
  unfold F_X3_readOne oneZ
  rw [h.1.2.1]
  by_cases t0 : s.1 < -6
  · simp only [if_pos t0, if_pos n55]
    exact Ev.ifs (fun _ => x_no h) fun _ => Ev.ifs (fun _ => x_no h) fun _ => x_no h
  · simp only [if_neg t0]
    exact x_atom h ho t0
theorem x_app {f : Mem → Option (Bool × Mem)} {sub : PS → PR} (hs : Xf B n f sub) (hg : Gd n sub) {c : List Int32} {s : PS} (h : XS B n c s m) (ho : okS n s) (ht : ¬ s.1 = -22) (x : Int32) : Ev pPa (XP B n c (pThen (sub (adv B n s)) fun c s' => (some (c ++ [x]), s'))) (bnd (F_X3_advance m) fun v4 m5 => if (bz v4) = 0 then some (false, m5) else bnd (f m5) fun v9 m10 => if (bz v9) = 0 then some (false, m10) else bnd (F_X3_put m10 x) fun v14 m15 => if (bz v14) = 0 then some (false, m15) else some (true, m15)) m (pThen (sub (adv B n s)) fun c s' => (some (c ++ [x]), s')).1.isSome := by
  obtain ⟨a1, a2⟩ := adv_lt (B := B) ho ht
  obtain ⟨g1, g2, g3⟩ := hg (adv B n s) a1
  refine Ev.bd (x_adv h ho ht) fun m1 h1 => Ev.iff (by decide) (Ev.bd (hs m1 c _ h1 a1) fun m2 hm2 => ?_)
  obtain ⟨c', x1, x2⟩ := hm2
  unfold pThen
  cases hr : (sub (adv B n s)).1 with
  | none => exact Ev.ift (by simp [bz]) (Ev.ret ⟨c', x1, fun c e => by cases e⟩)
  | some c2 =>
    have e1 := x2 c2 hr
    subst e1
    obtain ⟨g4, g5⟩ := g3 c2 hr
    refine Ev.iff (by simp [bz]) (Ev.bd (x_put x1 g1 (by have := h.2; simp; omega) x) fun m3 hm3 => Ev.iff (by decide) (Ev.ret ⟨_, hm3, fun cs e => by cases e; simp⟩))
theorem nI_cong {a b : Nat} (h : a = b) : nI a = nI b := h ▸ rfl
theorem x_oneS {RL : Mem → Int32 → Int32 → Option (Bool × Mem)} {RO : Mem → Int32 → Option (Bool × Mem)} {a : (PS → PR) × (PS → PR)} {k : Nat} (hk : k < 5) (h1 : Xf B n (fun m => RO m (nI (k + 1))) a.1) (h2 : Xf B n (fun m => RL m 0 (nI (k + 1))) (pOr B n a.2)) (g1 : Gd n a.1) (g2 : Gd n a.2) : Xf B n (fun m => F_X3_readOne RL RO m (nI k)) (oneS B n a) := by
  intro m c s h ho
  show Ev pPa _ (F_X3_readOne RL RO m (nI k)) m _
  unfold F_X3_readOne oneS
  rw [h.1.2.1, nI_1]
  by_cases t0 : s.1 < -6
  · simp only [if_pos t0]
    by_cases t1 : s.1 = -16
    · simp only [if_pos t1]
      rw [if_neg (n5 hk)]
      exact x_app h1 g1 h ho (by rw [t1]; decide) (-18)
    · simp only [if_neg t1]
      by_cases t2 : s.1 = -19
      · simp only [if_pos t2]
        have ht : ¬ s.1 = -22 := by rw [t2]; decide
        obtain ⟨a1, a2⟩ := adv_lt (B := B) ho ht
        obtain ⟨q1, q2, q3⟩ := pOr_gd (B := B) g2 (adv B n s) a1
        rw [if_neg (n5 hk)]
        refine Ev.bd (x_adv h ho ht) fun m1 hm1 => Ev.iff (by decide) (Ev.bd (h2 m1 c _ hm1 a1) fun m2 hm2 => ?_)
        obtain ⟨c', x1, x2⟩ := hm2
        unfold pThen
        cases hr : (pOr B n a.2 (adv B n s)).1 with
        | none => exact Ev.ift (by simp [bz]) (Ev.ret ⟨c', x1, fun c e => by cases e⟩)
        | some c2 =>
          have e1 := x2 c2 hr
          subst e1
          refine Ev.iff (by simp [bz]) ?_
          rw [x1.1.2.1]
          by_cases t3 : (pOr B n a.2 (adv B n s)).2.1 = -20
          · simp only [if_pos t3]
            exact Ev.bd (x_adv x1 q1 (by rw [t3]; decide)) fun m3 hm3 => Ev.iff (by decide) (Ev.ret ⟨_, hm3, fun cs e => by cases e; rfl⟩)
          · simp only [if_neg t3]
            exact Ev.ret ⟨_, x1, fun c e => by cases e⟩
      · simp only [if_neg t2]; exact x_no h
  · simp only [if_neg t0]
    exact x_atom h ho t0
theorem x_not {RL : Mem → Int32 → Int32 → Option (Bool × Mem)} {RO : Mem → Int32 → Option (Bool × Mem)} {op : Int32} (m : Mem) (h : ¬ mD m 2 2 = -12) : F_X3_readLevel RL RO m 2 op = F_X3_readLevel_63 RL RO m 2 op := by
  unfold F_X3_readLevel
  rw [if_pos (by decide), if_pos rfl, if_neg h]
theorem x_lev5 {N : Nat} {op : Int32} {one : PS → PR} (h1 : ∀ fu, N ≤ fu → Xf B n (fun m => (F_rec fu).2 m op) one) : ∀ fu, N + 1 ≤ fu → Xf B n (fun m => (F_rec fu).1 m (4 + 1) op) one := by
  intro fu hf
  cases fu with
  | zero => omega
  | succ fu =>
    intro m c s h ho
    show Ev pPa _ (F_X3_readLevel (F_rec fu).1 (F_rec fu).2 m (4 + 1) op) m _
    unfold F_X3_readLevel
    rw [if_neg (by decide)]
    exact Ev.bd (h1 fu (by omega) m c s h ho) fun m1 h1 => Ev.ret h1
theorem x_cmp {N : Nat} {op : Int32} {one : PS → PR} (h1 : ∀ fu, N ≤ fu → Xf B n (fun m => (F_rec fu).2 m op) one) (g1 : Gd n one) : ∀ fu, N + 3 ≤ fu → Xf B n (fun m => F_X3_readLevel_63 (F_rec fu).1 (F_rec fu).2 m 2 op) (pCmp B n one) := by
  intro fu hf
  have h4 : ∀ fu, N + 2 ≤ fu → Xf B n (fun m => (F_rec fu).1 m 4 op) (pTerm B n one) := x_up (x_lev5 h1) g1 (Or.inr (Or.inr (Or.inr rfl)))
  have h3 : ∀ fu, N + 3 ≤ fu → Xf B n (fun m => (F_rec fu).1 m 3 op) (pSum B n one) := x_up (lev := 3) h4 (pLev_gd g1 (by decide) 160) (Or.inr (Or.inr (Or.inl rfl)))
  exact x_lev (lev := 2) (h3 fu hf) (pLev_gd (pLev_gd g1 (by decide) 160) (by decide) 160) (by decide)
theorem x_ors {N : Nat} {op : Int32} {no : PS → PR} (h1 : ∀ fu, N ≤ fu → Xf B n (fun m => (F_rec fu).1 m 2 op) no) (g1 : Gd n no) : ∀ fu, N + 2 ≤ fu → Xf B n (fun m => (F_rec fu).1 m 0 op) (pOr B n no) := by
  have h2 : ∀ fu, N + 1 ≤ fu → Xf B n (fun m => (F_rec fu).1 m 1 op) (pAnd B n no) := x_up (lev := 1) h1 g1 (Or.inr (Or.inl rfl))
  exact x_up (lev := 0) h2 (pLev_gd g1 (by decide) 160) (Or.inl rfl)
theorem x_rec : ∀ k, k ≤ 5 → (∀ fu, 7 * k + 1 ≤ fu → Xf B n (fun m => (F_rec fu).2 m (nI (5 - k))) (pAll B n k).1) ∧ (∀ fu, 7 * k + 5 ≤ fu → Xf B n (fun m => (F_rec fu).1 m 2 (nI (5 - k))) (pAll B n k).2) ∧ (∀ fu, 7 * k + 7 ≤ fu → Xf B n (fun m => (F_rec fu).1 m 0 (nI (5 - k))) (pOr B n (pAll B n k).2)) := by
  intro k
  induction k with
  | zero =>
    intro hk
    have one : ∀ fu, 1 ≤ fu → Xf B n (fun m => (F_rec fu).2 m (nI 5)) (oneZ B n) := fun fu hf => by
      cases fu with
      | zero => omega
      | succ fu => exact x_oneZ
    have no : ∀ fu, 5 ≤ fu → Xf B n (fun m => (F_rec fu).1 m 2 (nI 5)) (notZ B n) := fun fu hf => by
      cases fu with
      | zero => omega
      | succ fu =>
        intro m c s h ho
        show Ev pPa _ (F_X3_readLevel (F_rec fu).1 (F_rec fu).2 m 2 (nI 5)) m _
        unfold notZ
        by_cases ht : s.1 = -12
        · simp only [if_pos ht]
          unfold F_X3_readLevel
          rw [if_pos (by decide), if_pos rfl, if_pos (h.1.2.1.trans ht), if_pos n55]
          exact x_no h
        · simp only [if_neg ht]
          rw [x_not m (fun z => ht (h.1.2.1.symm.trans z))]
          exact x_cmp one oneZ_gd fu (by omega) m c s h ho
    exact ⟨one, no, x_ors no notZ_gd⟩
  | succ k ih =>
    intro hk
    obtain ⟨i1, i2, i3⟩ := ih (by omega)
    obtain ⟨g1, g2⟩ := pAll_gd (B := B) (n := n) k
    have e5 : 5 - k = 5 - (k + 1) + 1 := by omega
    rw [e5] at i1 i2 i3
    have one : ∀ fu, 7 * (k + 1) + 1 ≤ fu → Xf B n (fun m => (F_rec fu).2 m (nI (5 - (k + 1)))) (oneS B n (pAll B n k)) := fun fu hf => by
      cases fu with
      | zero => omega
      | succ fu => exact x_oneS (by omega) (i1 fu (by omega)) (i3 fu (by omega)) g1 g2
    have no : ∀ fu, 7 * (k + 1) + 5 ≤ fu → Xf B n (fun m => (F_rec fu).1 m 2 (nI (5 - (k + 1)))) (notS B n (pAll B n k)) := fun fu hf => by
      cases fu with
      | zero => omega
      | succ fu =>
        intro m c s h ho
        show Ev pPa _ (F_X3_readLevel (F_rec fu).1 (F_rec fu).2 m 2 (nI (5 - (k + 1)))) m _
        unfold notS
        by_cases ht : s.1 = -12
        · simp only [if_pos ht]
          unfold F_X3_readLevel
          rw [if_pos (by decide), if_pos rfl, if_pos (h.1.2.1.trans ht), if_neg (n5 (by omega)), nI_1]
          exact x_app (i2 fu (by omega)) g2 h ho (by rw [ht]; decide) (-12)
        · simp only [if_neg ht]
          rw [x_not m (fun z => ht (h.1.2.1.symm.trans z))]
          exact x_cmp one (oneS_gd g1 g2) fu (by omega) m c s h ho
    exact ⟨one, no, x_ors no (notS_gd g1 g2)⟩
/-- an expression of a part -/
theorem x_expr : Xf B n (fun m => (F_rec 64).1 m 0 0) (pOr B n (pAll B n 5).2) := (x_rec 5 (by omega)).2.2 64 (by omega)
end XPS
