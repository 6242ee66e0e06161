/-! the two objects as they are made -/
def lkR : List ((Nat × Nat) × Nat) → Nat → Nat → Option Nat
  | [], _, _ => none
  | e :: l, k, i => if k = e.1.1 ∧ i = e.1.2 then some e.2 else lkR l k i
def lkD : List ((Nat × Nat) × Int32) → Nat → Nat → Int32
  | [], _, _ => 0
  | e :: l, k, i => if k = e.1.1 ∧ i = e.1.2 then e.2 else lkD l k i
theorem lkR_no : ∀ (l : List ((Nat × Nat) × Nat)) (k i : Nat), (∀ e ∈ l, ¬ e.1.1 = k) → lkR l k i = none
  | [], _, _, _ => rfl
  | e :: l, k, i, h => by
    unfold lkR
    rw [if_neg (fun z => h e List.mem_cons_self z.1.symm)]
    exact lkR_no l k i (fun x hx => h x (List.mem_cons_of_mem _ hx))
theorem lkD_no : ∀ (l : List ((Nat × Nat) × Int32)) (k i : Nat), (∀ e ∈ l, ¬ e.1.1 = k) → lkD l k i = 0
  | [], _, _, _ => rfl
  | e :: l, k, i, h => by
    unfold lkD
    rw [if_neg (fun z => h e List.mem_cons_self z.1.symm)]
    exact lkD_no l k i (fun x hx => h x (List.mem_cons_of_mem _ hx))
def ST (b : Nat) (m0 : Mem) (tab : List (Nat × Nat)) (rl : List ((Nat × Nat) × Nat)) (dl : List ((Nat × Nat) × Int32)) (s : Nat) (m : Mem) : Prop := mN m = b + tab.length ∧ (∀ k, k < tab.length → mK m (b + k) = tab.getD k (0, 0)) ∧ (∀ k i, b ≤ k → k < mN m → mR m k i = lkR rl k i) ∧ (∀ k i, b ≤ k → k < mN m → mD m k i = lkD dl k i) ∧ mS m = s ∧ KP b m0 m
def Rn {α : Type} (f : Option (α × Mem)) (P : α → Mem → Prop) : Prop := ∃ v m, f = some (v, m) ∧ P v m
section RN
variable {α β : Type} {P : α → Mem → Prop} {b s : Nat} {m0 m : Mem} {tab : List (Nat × Nat)} {rl : List ((Nat × Nat) × Nat)} {dl : List ((Nat × Nat) × Int32)}
theorem Rn.ret {v : α} (h : P v m) : Rn (some (v, m)) P := ⟨v, m, rfl, h⟩
theorem Rn.gif {p : Prop} {f : Option (α × Mem)} (hp : p) (h : Rn f P) : Rn (gIf p f) P := by rw [gIf_pos hp]; exact h
theorem Rn.gref {r : Option Nat} {q : Nat} {k : Nat → Option (α × Mem)} (hr : r = some q) (h : Rn (k q) P) : Rn (gRef r k) P := by rw [gRef_some hr]; exact h
theorem Rn.bnd {f : Option (β × Mem)} {k : β → Mem → Option (α × Mem)} (h : Rn f (fun v m => Rn (k v m) P)) : Rn (bnd f k) P := by
  obtain ⟨v, m, e, h2⟩ := h
  rw [bnd_some e]; exact h2
theorem Rn.ift {c : Prop} {d : Decidable c} {f g : Option (α × Mem)} (hc : c) (h : Rn f P) : Rn (if c then f else g) P := by rw [if_pos hc]; exact h
theorem Rn.iff {c : Prop} {d : Decidable c} {f g : Option (α × Mem)} (hc : ¬ c) (h : Rn g P) : Rn (if c then f else g) P := by rw [if_neg hc]; exact h
theorem ST.kk (S : ST b m0 tab rl dl s m) (k : Nat) (x : Nat × Nat) (h : b ≤ k ∧ k < b + tab.length ∧ tab.getD (k - b) (0, 0) = x) : mK m k = x := by
  have := S.2.1 (k - b) (by omega)
  rw [show b + (k - b) = k by omega] at this
  rw [this]; exact h.2.2
theorem ST.rr (S : ST b m0 tab rl dl s m) (k i : Nat) (x : Option Nat) (h : b ≤ k ∧ k < b + tab.length ∧ lkR rl k i = x) : mR m k i = x := by
  rw [S.2.2.1 k i h.1 (by rw [S.1]; exact h.2.1)]; exact h.2.2
theorem ST.dd (S : ST b m0 tab rl dl s m) (k i : Nat) (x : Int32) (h : b ≤ k ∧ k < b + tab.length ∧ lkD dl k i = x) : mD m k i = x := by
  rw [S.2.2.2.1 k i h.1 (by rw [S.1]; exact h.2.1)]; exact h.2.2
theorem ST.new (S : ST b m0 tab rl dl s m) {n' : Nat} (hn : b + tab.length = n') (h1 : ∀ e ∈ rl, e.1.1 < n') (h2 : ∀ e ∈ dl, e.1.1 < n') (t len sl : Nat) : ST b m0 (tab ++ [(t, len)]) rl dl (s + sl) (mNew m t len sl) := by
  obtain ⟨a1, a2, a3, a4, a5, a6⟩ := S
  refine ⟨by rw [nN, a1, List.length_append]; rfl, fun k hk => ?_, fun k i hb hk => ?_, fun k i hb hk => ?_, by rw [nS, a5], a6.tr (KP.new t len sl (by omega))⟩
  · rw [nK, a1, List.getD_eq_getElem?_getD]
    rw [List.length_append] at hk
    by_cases e : k = tab.length
    · subst e; rw [if_pos rfl, List.getElem?_append_right (Nat.le_refl _), Nat.sub_self]; rfl
    · have hk' : k < tab.length := by
        have : [(t, len)].length = 1 := rfl
        omega
      rw [if_neg (by omega), List.getElem?_append_left hk', ← List.getD_eq_getElem?_getD]; exact a2 k hk'
  · rw [nR]
    by_cases e : k = mN m
    · rw [if_pos e, lkR_no]
      intro x hx z
      have := h1 x hx
      omega
    · rw [if_neg e]; exact a3 k i hb (by rw [nN] at hk; omega)
  · rw [nD]
    by_cases e : k = mN m
    · rw [if_pos e, lkD_no]
      intro x hx z
      have := h2 x hx
      omega
    · rw [if_neg e]; exact a4 k i hb (by rw [nN] at hk; omega)
theorem ST.wr (S : ST b m0 tab rl dl s m) (k i v : Nat) (hk : b ≤ k) : ST b m0 tab (((k, i), v) :: rl) dl s (wR m k i (some v)) := by
  obtain ⟨a1, a2, a3, a4, a5, a6⟩ := S
  refine ⟨a1, a2, fun k' i' hb hk => ?_, a4, a5, a6.tr (KP.wr _ hk)⟩
  rw [mR_wR]
  unfold lkR
  by_cases e : k' = k ∧ i' = i
  · rw [if_pos e, if_pos e]
  · rw [if_neg e, if_neg e]; exact a3 k' i' hb hk
theorem ST.wd (S : ST b m0 tab rl dl s m) (k i : Nat) (v : Int32) (hk : b ≤ k) : ST b m0 tab rl (((k, i), v) :: dl) s (wD m k i v) := by
  obtain ⟨a1, a2, a3, a4, a5, a6⟩ := S
  refine ⟨a1, a2, a3, fun k' i' hb hk => ?_, a5, a6.tr (fun q hq => ⟨rfl, funext fun x => by rw [mD_wD, if_neg (by omega)], rfl⟩)⟩
  rw [mD_wD]
  unfold lkD
  by_cases e : k' = k ∧ i' = i
  · rw [if_pos e, if_pos e]
  · rw [if_neg e, if_neg e]; exact a4 k' i' hb hk
theorem Rn.new {t len sl n' : Nat} {k : Mem → Nat → Option (α × Mem)} (S : ST b m0 tab rl dl s m) (hn : b + tab.length = n') (h1 : ∀ e ∈ rl, e.1.1 < n') (h2 : ∀ e ∈ dl, e.1.1 < n') (h : ∀ m', ST b m0 (tab ++ [(t, len)]) rl dl (s + sl) m' → Rn (k m' n') P) : Rn (nm (mNew m t len sl) fun m1 => nm (mN m) fun q => k m1 q) P := by
  have e : mN m = n' := by rw [S.1]; exact hn
  show Rn (k (mNew m t len sl) (mN m)) P
  rw [e]
  exact h _ (S.new hn h1 h2 t len sl)
theorem Rn.wr {k idx i v : Nat} {body : Mem → Option (α × Mem)} (S : ST b m0 tab rl dl s m) (hi : idx = i) (hk : b ≤ k) (h : ∀ m', ST b m0 tab (((k, i), v) :: rl) dl s m' → Rn (body m') P) : Rn (nm (wR m k idx (some v)) body) P := by
  subst hi
  exact h _ (S.wr k idx v hk)
theorem Rn.wd {k idx i : Nat} {v : Int32} {body : Mem → Option (α × Mem)} (S : ST b m0 tab rl dl s m) (hi : idx = i) (hk : b ≤ k) (h : ∀ m', ST b m0 tab rl (((k, i), v) :: dl) s m' → Rn (body m') P) : Rn (nm (wD m k idx v) body) P := by
  subst hi
  exact h _ (S.wd k idx v hk)
end RN
def tabX : List (Nat × Nat) := [(5, 0), (9, 8), (3, 0), (7, 160), (7, 160), (7, 3), (11, 6), (10, 4), (1, 0), (9, 8), (0, 0), (0, 0), (0, 0), (0, 0), (0, 0), (0, 0), (0, 0), (0, 0), (0, 0), (7, 8), (0, 0), (0, 0), (0, 0), (0, 0), (0, 0), (0, 0), (0, 0), (0, 0), (2, 0), (7, 40), (2, 0), (7, 40), (2, 0), (7, 40), (2, 0), (7, 40)]
def rlX : List ((Nat × Nat) × Nat) := [((7, 3), 34), ((34, 2), 35), ((7, 2), 32), ((32, 2), 33), ((7, 1), 30), ((30, 2), 31), ((7, 0), 28), ((28, 2), 29), ((1, 7), 27), ((1, 6), 26), ((1, 5), 25), ((1, 4), 24), ((1, 3), 23), ((1, 2), 22), ((1, 1), 21), ((1, 0), 20), ((0, 10), 19), ((0, 9), 18), ((0, 8), 8), ((9, 7), 17), ((9, 6), 16), ((9, 5), 15), ((9, 4), 14), ((9, 3), 13), ((9, 2), 12), ((9, 1), 11), ((9, 0), 10), ((8, 4), 9), ((0, 7), 7), ((0, 4), 6), ((0, 3), 2), ((2, 7), 5), ((2, 5), 4), ((2, 0), 3), ((0, 1), 1)]
def dlX : List ((Nat × Nat) × Int32) := [((34, 0), -1), ((32, 0), -1), ((30, 0), -1), ((28, 0), -1)]
theorem x_init1 {P : Unit → Mem → Prop} (h : ∀ m, ST 0 mEmpty tabX rlX dlX 655 m → Rn (F_X5_init_133 FU m 0 0) P) : Rn (F_X5_init (mNew mEmpty 5 0 11) 0) P := by
  have S : ST 0 mEmpty [(5, 0)] [] [] 11 (mNew mEmpty 5 0 11) := ST.new (m := mEmpty) (tab := []) (rl := []) (dl := []) (s := 0) ⟨rfl, fun k hk => absurd hk (Nat.not_lt_zero k), fun k i _ hk => absurd hk (Nat.not_lt_zero k), fun k i _ hk => absurd hk (Nat.not_lt_zero k), rfl, fun k hk => absurd hk (Nat.not_lt_zero k)⟩ (n' := 0) rfl (by decide) (by decide) 5 0 11
  generalize mNew mEmpty 5 0 11 = m at S
  unfold F_X5_init
  refine Rn.new S (n' := 1) (by decide) (by decide) (by decide) fun m S => ?_
  refine Rn.gif (S.kk 0 (5, 0) (by decide)) ?_
  refine Rn.wr S (i := 1) (by decide) (by decide) fun m S => ?_
  refine Rn.new S (n' := 2) (by decide) (by decide) (by decide) fun m S => ?_
  refine Rn.bnd ?_
  unfold F_X3_init
  refine Rn.new S (n' := 3) (by decide) (by decide) (by decide) fun m S => ?_
  refine Rn.gif (S.kk 2 (3, 0) (by decide)) ?_
  refine Rn.wr S (i := 0) (by decide) (by decide) fun m S => ?_
  refine Rn.new S (n' := 4) (by decide) (by decide) (by decide) fun m S => ?_
  refine Rn.gif (S.kk 2 (3, 0) (by decide)) ?_
  refine Rn.wr S (i := 5) (by decide) (by decide) fun m S => ?_
  refine Rn.new S (n' := 5) (by decide) (by decide) (by decide) fun m S => ?_
  refine Rn.gif (S.kk 2 (3, 0) (by decide)) ?_
  refine Rn.wr S (i := 7) (by decide) (by decide) fun m S => ?_
  refine Rn.ret ?_
  refine Rn.gif (S.kk 0 (5, 0) (by decide)) ?_
  refine Rn.wr S (i := 3) (by decide) (by decide) fun m S => ?_
  refine Rn.new S (n' := 6) (by decide) (by decide) (by decide) fun m S => ?_
  refine Rn.gif (S.kk 0 (5, 0) (by decide)) ?_
  refine Rn.wr S (i := 4) (by decide) (by decide) fun m S => ?_
  refine Rn.new S (n' := 7) (by decide) (by decide) (by decide) fun m S => ?_
  refine Rn.gif (S.kk 0 (5, 0) (by decide)) ?_
  refine Rn.wr S (i := 7) (by decide) (by decide) fun m S => ?_
  refine Rn.new S (n' := 8) (by decide) (by decide) (by decide) fun m S => ?_
  refine Rn.bnd ?_
  unfold F_X1_init
  refine Rn.new S (n' := 9) (by decide) (by decide) (by decide) fun m S => ?_
  refine Rn.gif (S.kk 8 (1, 0) (by decide)) ?_
  refine Rn.wr S (i := 4) (by decide) (by decide) fun m S => ?_
  show Rn (F_X1_init_15 (4999 + 1) m 8 (nI 0)) _
  unfold F_X1_init_15
  refine Rn.gif (S.kk 8 (1, 0) (by decide)) ?_
  refine Rn.gref (S.rr 8 4 (some 9) (by decide)) ?_
  refine Rn.gif (show (mK m 9).1 = 9 by rw [S.kk 9 (9, 8) (by decide)]) ?_
  refine Rn.iff (by rw [S.kk 9 (9, 8) (by decide)]; decide) ?_
  refine Rn.gif (S.kk 8 (1, 0) (by decide)) ?_
  refine Rn.gref (S.rr 8 4 (some 9) (by decide)) ?_
  refine Rn.new S (n' := 10) (by decide) (by decide) (by decide) fun m S => ?_
  refine Rn.bnd (Rn.ret ?_)
  refine Rn.gif ⟨by rw [S.kk 9 (9, 8) (by decide)], by rw [S.kk 9 (9, 8) (by decide)]; exact vp_n (by decide) (by decide), S.kk 10 (0, 0) (by decide)⟩ ?_
  refine Rn.wr S (i := 0) (by decide) (by decide) fun m S => ?_
  rw [nI_1]
  show Rn (F_X1_init_15 (4998 + 1) m 8 (nI 1)) _
  unfold F_X1_init_15
  refine Rn.gif (S.kk 8 (1, 0) (by decide)) ?_
  refine Rn.gref (S.rr 8 4 (some 9) (by decide)) ?_
  refine Rn.gif (show (mK m 9).1 = 9 by rw [S.kk 9 (9, 8) (by decide)]) ?_
  refine Rn.iff (by rw [S.kk 9 (9, 8) (by decide)]; decide) ?_
  refine Rn.gif (S.kk 8 (1, 0) (by decide)) ?_
  refine Rn.gref (S.rr 8 4 (some 9) (by decide)) ?_
  refine Rn.new S (n' := 11) (by decide) (by decide) (by decide) fun m S => ?_
  refine Rn.bnd (Rn.ret ?_)
  refine Rn.gif ⟨by rw [S.kk 9 (9, 8) (by decide)], by rw [S.kk 9 (9, 8) (by decide)]; exact vp_n (by decide) (by decide), S.kk 11 (0, 0) (by decide)⟩ ?_
  refine Rn.wr S (i := 1) (by decide) (by decide) fun m S => ?_
  rw [nI_1]
  show Rn (F_X1_init_15 (4997 + 1) m 8 (nI 2)) _
  unfold F_X1_init_15
  refine Rn.gif (S.kk 8 (1, 0) (by decide)) ?_
  refine Rn.gref (S.rr 8 4 (some 9) (by decide)) ?_
  refine Rn.gif (show (mK m 9).1 = 9 by rw [S.kk 9 (9, 8) (by decide)]) ?_
  refine Rn.iff (by rw [S.kk 9 (9, 8) (by decide)]; decide) ?_
  refine Rn.gif (S.kk 8 (1, 0) (by decide)) ?_
  refine Rn.gref (S.rr 8 4 (some 9) (by decide)) ?_
  refine Rn.new S (n' := 12) (by decide) (by decide) (by decide) fun m S => ?_
  refine Rn.bnd (Rn.ret ?_)
  refine Rn.gif ⟨by rw [S.kk 9 (9, 8) (by decide)], by rw [S.kk 9 (9, 8) (by decide)]; exact vp_n (by decide) (by decide), S.kk 12 (0, 0) (by decide)⟩ ?_
  refine Rn.wr S (i := 2) (by decide) (by decide) fun m S => ?_
  rw [nI_1]
  show Rn (F_X1_init_15 (4996 + 1) m 8 (nI 3)) _
  unfold F_X1_init_15
  refine Rn.gif (S.kk 8 (1, 0) (by decide)) ?_
  refine Rn.gref (S.rr 8 4 (some 9) (by decide)) ?_
  refine Rn.gif (show (mK m 9).1 = 9 by rw [S.kk 9 (9, 8) (by decide)]) ?_
  refine Rn.iff (by rw [S.kk 9 (9, 8) (by decide)]; decide) ?_
  refine Rn.gif (S.kk 8 (1, 0) (by decide)) ?_
  refine Rn.gref (S.rr 8 4 (some 9) (by decide)) ?_
  refine Rn.new S (n' := 13) (by decide) (by decide) (by decide) fun m S => ?_
  refine Rn.bnd (Rn.ret ?_)
  refine Rn.gif ⟨by rw [S.kk 9 (9, 8) (by decide)], by rw [S.kk 9 (9, 8) (by decide)]; exact vp_n (by decide) (by decide), S.kk 13 (0, 0) (by decide)⟩ ?_
  refine Rn.wr S (i := 3) (by decide) (by decide) fun m S => ?_
  rw [nI_1]
  show Rn (F_X1_init_15 (4995 + 1) m 8 (nI 4)) _
  unfold F_X1_init_15
  refine Rn.gif (S.kk 8 (1, 0) (by decide)) ?_
  refine Rn.gref (S.rr 8 4 (some 9) (by decide)) ?_
  refine Rn.gif (show (mK m 9).1 = 9 by rw [S.kk 9 (9, 8) (by decide)]) ?_
  refine Rn.iff (by rw [S.kk 9 (9, 8) (by decide)]; decide) ?_
  refine Rn.gif (S.kk 8 (1, 0) (by decide)) ?_
  refine Rn.gref (S.rr 8 4 (some 9) (by decide)) ?_
  refine Rn.new S (n' := 14) (by decide) (by decide) (by decide) fun m S => ?_
  refine Rn.bnd (Rn.ret ?_)
  refine Rn.gif ⟨by rw [S.kk 9 (9, 8) (by decide)], by rw [S.kk 9 (9, 8) (by decide)]; exact vp_n (by decide) (by decide), S.kk 14 (0, 0) (by decide)⟩ ?_
  refine Rn.wr S (i := 4) (by decide) (by decide) fun m S => ?_
  rw [nI_1]
  show Rn (F_X1_init_15 (4994 + 1) m 8 (nI 5)) _
  unfold F_X1_init_15
  refine Rn.gif (S.kk 8 (1, 0) (by decide)) ?_
  refine Rn.gref (S.rr 8 4 (some 9) (by decide)) ?_
  refine Rn.gif (show (mK m 9).1 = 9 by rw [S.kk 9 (9, 8) (by decide)]) ?_
  refine Rn.iff (by rw [S.kk 9 (9, 8) (by decide)]; decide) ?_
  refine Rn.gif (S.kk 8 (1, 0) (by decide)) ?_
  refine Rn.gref (S.rr 8 4 (some 9) (by decide)) ?_
  refine Rn.new S (n' := 15) (by decide) (by decide) (by decide) fun m S => ?_
  refine Rn.bnd (Rn.ret ?_)
  refine Rn.gif ⟨by rw [S.kk 9 (9, 8) (by decide)], by rw [S.kk 9 (9, 8) (by decide)]; exact vp_n (by decide) (by decide), S.kk 15 (0, 0) (by decide)⟩ ?_
  refine Rn.wr S (i := 5) (by decide) (by decide) fun m S => ?_
  rw [nI_1]
  show Rn (F_X1_init_15 (4993 + 1) m 8 (nI 6)) _
  unfold F_X1_init_15
  refine Rn.gif (S.kk 8 (1, 0) (by decide)) ?_
  refine Rn.gref (S.rr 8 4 (some 9) (by decide)) ?_
  refine Rn.gif (show (mK m 9).1 = 9 by rw [S.kk 9 (9, 8) (by decide)]) ?_
  refine Rn.iff (by rw [S.kk 9 (9, 8) (by decide)]; decide) ?_
  refine Rn.gif (S.kk 8 (1, 0) (by decide)) ?_
  refine Rn.gref (S.rr 8 4 (some 9) (by decide)) ?_
  refine Rn.new S (n' := 16) (by decide) (by decide) (by decide) fun m S => ?_
  refine Rn.bnd (Rn.ret ?_)
  refine Rn.gif ⟨by rw [S.kk 9 (9, 8) (by decide)], by rw [S.kk 9 (9, 8) (by decide)]; exact vp_n (by decide) (by decide), S.kk 16 (0, 0) (by decide)⟩ ?_
  refine Rn.wr S (i := 6) (by decide) (by decide) fun m S => ?_
  rw [nI_1]
  show Rn (F_X1_init_15 (4992 + 1) m 8 (nI 7)) _
  unfold F_X1_init_15
  refine Rn.gif (S.kk 8 (1, 0) (by decide)) ?_
  refine Rn.gref (S.rr 8 4 (some 9) (by decide)) ?_
  refine Rn.gif (show (mK m 9).1 = 9 by rw [S.kk 9 (9, 8) (by decide)]) ?_
  refine Rn.iff (by rw [S.kk 9 (9, 8) (by decide)]; decide) ?_
  refine Rn.gif (S.kk 8 (1, 0) (by decide)) ?_
  refine Rn.gref (S.rr 8 4 (some 9) (by decide)) ?_
  refine Rn.new S (n' := 17) (by decide) (by decide) (by decide) fun m S => ?_
  refine Rn.bnd (Rn.ret ?_)
  refine Rn.gif ⟨by rw [S.kk 9 (9, 8) (by decide)], by rw [S.kk 9 (9, 8) (by decide)]; exact vp_n (by decide) (by decide), S.kk 17 (0, 0) (by decide)⟩ ?_
  refine Rn.wr S (i := 7) (by decide) (by decide) fun m S => ?_
  rw [nI_1]
  show Rn (F_X1_init_15 (4991 + 1) m 8 (nI 8)) _
  unfold F_X1_init_15
  refine Rn.gif (S.kk 8 (1, 0) (by decide)) ?_
  refine Rn.gref (S.rr 8 4 (some 9) (by decide)) ?_
  refine Rn.gif (show (mK m 9).1 = 9 by rw [S.kk 9 (9, 8) (by decide)]) ?_
  refine Rn.ift (by rw [S.kk 9 (9, 8) (by decide)]; decide) (Rn.ret ?_)
  refine Rn.gif (S.kk 0 (5, 0) (by decide)) ?_
  refine Rn.wr S (i := 8) (by decide) (by decide) fun m S => ?_
  refine Rn.new S (n' := 18) (by decide) (by decide) (by decide) fun m S => ?_
  refine Rn.bnd (Rn.ret ?_)
  refine Rn.gif (S.kk 0 (5, 0) (by decide)) ?_
  refine Rn.wr S (i := 9) (by decide) (by decide) fun m S => ?_
  refine Rn.new S (n' := 19) (by decide) (by decide) (by decide) fun m S => ?_
  refine Rn.gif (S.kk 0 (5, 0) (by decide)) ?_
  refine Rn.wr S (i := 10) (by decide) (by decide) fun m S => ?_
  show Rn (F_X5_init_73 (4999 + 1) m 0 (nI 0)) _
  unfold F_X5_init_73
  refine Rn.gif (S.kk 0 (5, 0) (by decide)) ?_
  refine Rn.gref (S.rr 0 1 (some 1) (by decide)) ?_
  refine Rn.gif (show (mK m 1).1 = 9 by rw [S.kk 1 (9, 8) (by decide)]) ?_
  refine Rn.iff (by rw [S.kk 1 (9, 8) (by decide)]; decide) ?_
  refine Rn.gif (S.kk 0 (5, 0) (by decide)) ?_
  refine Rn.gref (S.rr 0 1 (some 1) (by decide)) ?_
  refine Rn.new S (n' := 20) (by decide) (by decide) (by decide) fun m S => ?_
  refine Rn.bnd (Rn.ret ?_)
  refine Rn.gif ⟨by rw [S.kk 1 (9, 8) (by decide)], by rw [S.kk 1 (9, 8) (by decide)]; exact vp_n (by decide) (by decide), S.kk 20 (0, 0) (by decide)⟩ ?_
  refine Rn.wr S (i := 0) (by decide) (by decide) fun m S => ?_
  rw [nI_1]
  show Rn (F_X5_init_73 (4998 + 1) m 0 (nI 1)) _
  unfold F_X5_init_73
  refine Rn.gif (S.kk 0 (5, 0) (by decide)) ?_
  refine Rn.gref (S.rr 0 1 (some 1) (by decide)) ?_
  refine Rn.gif (show (mK m 1).1 = 9 by rw [S.kk 1 (9, 8) (by decide)]) ?_
  refine Rn.iff (by rw [S.kk 1 (9, 8) (by decide)]; decide) ?_
  refine Rn.gif (S.kk 0 (5, 0) (by decide)) ?_
  refine Rn.gref (S.rr 0 1 (some 1) (by decide)) ?_
  refine Rn.new S (n' := 21) (by decide) (by decide) (by decide) fun m S => ?_
  refine Rn.bnd (Rn.ret ?_)
  refine Rn.gif ⟨by rw [S.kk 1 (9, 8) (by decide)], by rw [S.kk 1 (9, 8) (by decide)]; exact vp_n (by decide) (by decide), S.kk 21 (0, 0) (by decide)⟩ ?_
  refine Rn.wr S (i := 1) (by decide) (by decide) fun m S => ?_
  rw [nI_1]
  show Rn (F_X5_init_73 (4997 + 1) m 0 (nI 2)) _
  unfold F_X5_init_73
  refine Rn.gif (S.kk 0 (5, 0) (by decide)) ?_
  refine Rn.gref (S.rr 0 1 (some 1) (by decide)) ?_
  refine Rn.gif (show (mK m 1).1 = 9 by rw [S.kk 1 (9, 8) (by decide)]) ?_
  refine Rn.iff (by rw [S.kk 1 (9, 8) (by decide)]; decide) ?_
  refine Rn.gif (S.kk 0 (5, 0) (by decide)) ?_
  refine Rn.gref (S.rr 0 1 (some 1) (by decide)) ?_
  refine Rn.new S (n' := 22) (by decide) (by decide) (by decide) fun m S => ?_
  refine Rn.bnd (Rn.ret ?_)
  refine Rn.gif ⟨by rw [S.kk 1 (9, 8) (by decide)], by rw [S.kk 1 (9, 8) (by decide)]; exact vp_n (by decide) (by decide), S.kk 22 (0, 0) (by decide)⟩ ?_
  refine Rn.wr S (i := 2) (by decide) (by decide) fun m S => ?_
  rw [nI_1]
  show Rn (F_X5_init_73 (4996 + 1) m 0 (nI 3)) _
  unfold F_X5_init_73
  refine Rn.gif (S.kk 0 (5, 0) (by decide)) ?_
  refine Rn.gref (S.rr 0 1 (some 1) (by decide)) ?_
  refine Rn.gif (show (mK m 1).1 = 9 by rw [S.kk 1 (9, 8) (by decide)]) ?_
  refine Rn.iff (by rw [S.kk 1 (9, 8) (by decide)]; decide) ?_
  refine Rn.gif (S.kk 0 (5, 0) (by decide)) ?_
  refine Rn.gref (S.rr 0 1 (some 1) (by decide)) ?_
  refine Rn.new S (n' := 23) (by decide) (by decide) (by decide) fun m S => ?_
  refine Rn.bnd (Rn.ret ?_)
  refine Rn.gif ⟨by rw [S.kk 1 (9, 8) (by decide)], by rw [S.kk 1 (9, 8) (by decide)]; exact vp_n (by decide) (by decide), S.kk 23 (0, 0) (by decide)⟩ ?_
  refine Rn.wr S (i := 3) (by decide) (by decide) fun m S => ?_
  rw [nI_1]
  show Rn (F_X5_init_73 (4995 + 1) m 0 (nI 4)) _
  unfold F_X5_init_73
  refine Rn.gif (S.kk 0 (5, 0) (by decide)) ?_
  refine Rn.gref (S.rr 0 1 (some 1) (by decide)) ?_
  refine Rn.gif (show (mK m 1).1 = 9 by rw [S.kk 1 (9, 8) (by decide)]) ?_
  refine Rn.iff (by rw [S.kk 1 (9, 8) (by decide)]; decide) ?_
  refine Rn.gif (S.kk 0 (5, 0) (by decide)) ?_
  refine Rn.gref (S.rr 0 1 (some 1) (by decide)) ?_
  refine Rn.new S (n' := 24) (by decide) (by decide) (by decide) fun m S => ?_
  refine Rn.bnd (Rn.ret ?_)
  refine Rn.gif ⟨by rw [S.kk 1 (9, 8) (by decide)], by rw [S.kk 1 (9, 8) (by decide)]; exact vp_n (by decide) (by decide), S.kk 24 (0, 0) (by decide)⟩ ?_
  refine Rn.wr S (i := 4) (by decide) (by decide) fun m S => ?_
  rw [nI_1]
  show Rn (F_X5_init_73 (4994 + 1) m 0 (nI 5)) _
  unfold F_X5_init_73
  refine Rn.gif (S.kk 0 (5, 0) (by decide)) ?_
  refine Rn.gref (S.rr 0 1 (some 1) (by decide)) ?_
  refine Rn.gif (show (mK m 1).1 = 9 by rw [S.kk 1 (9, 8) (by decide)]) ?_
  refine Rn.iff (by rw [S.kk 1 (9, 8) (by decide)]; decide) ?_
  refine Rn.gif (S.kk 0 (5, 0) (by decide)) ?_
  refine Rn.gref (S.rr 0 1 (some 1) (by decide)) ?_
  refine Rn.new S (n' := 25) (by decide) (by decide) (by decide) fun m S => ?_
  refine Rn.bnd (Rn.ret ?_)
  refine Rn.gif ⟨by rw [S.kk 1 (9, 8) (by decide)], by rw [S.kk 1 (9, 8) (by decide)]; exact vp_n (by decide) (by decide), S.kk 25 (0, 0) (by decide)⟩ ?_
  refine Rn.wr S (i := 5) (by decide) (by decide) fun m S => ?_
  rw [nI_1]
  show Rn (F_X5_init_73 (4993 + 1) m 0 (nI 6)) _
  unfold F_X5_init_73
  refine Rn.gif (S.kk 0 (5, 0) (by decide)) ?_
  refine Rn.gref (S.rr 0 1 (some 1) (by decide)) ?_
  refine Rn.gif (show (mK m 1).1 = 9 by rw [S.kk 1 (9, 8) (by decide)]) ?_
  refine Rn.iff (by rw [S.kk 1 (9, 8) (by decide)]; decide) ?_
  refine Rn.gif (S.kk 0 (5, 0) (by decide)) ?_
  refine Rn.gref (S.rr 0 1 (some 1) (by decide)) ?_
  refine Rn.new S (n' := 26) (by decide) (by decide) (by decide) fun m S => ?_
  refine Rn.bnd (Rn.ret ?_)
  refine Rn.gif ⟨by rw [S.kk 1 (9, 8) (by decide)], by rw [S.kk 1 (9, 8) (by decide)]; exact vp_n (by decide) (by decide), S.kk 26 (0, 0) (by decide)⟩ ?_
  refine Rn.wr S (i := 6) (by decide) (by decide) fun m S => ?_
  rw [nI_1]
  show Rn (F_X5_init_73 (4992 + 1) m 0 (nI 7)) _
  unfold F_X5_init_73
  refine Rn.gif (S.kk 0 (5, 0) (by decide)) ?_
  refine Rn.gref (S.rr 0 1 (some 1) (by decide)) ?_
  refine Rn.gif (show (mK m 1).1 = 9 by rw [S.kk 1 (9, 8) (by decide)]) ?_
  refine Rn.iff (by rw [S.kk 1 (9, 8) (by decide)]; decide) ?_
  refine Rn.gif (S.kk 0 (5, 0) (by decide)) ?_
  refine Rn.gref (S.rr 0 1 (some 1) (by decide)) ?_
  refine Rn.new S (n' := 27) (by decide) (by decide) (by decide) fun m S => ?_
  refine Rn.bnd (Rn.ret ?_)
  refine Rn.gif ⟨by rw [S.kk 1 (9, 8) (by decide)], by rw [S.kk 1 (9, 8) (by decide)]; exact vp_n (by decide) (by decide), S.kk 27 (0, 0) (by decide)⟩ ?_
  refine Rn.wr S (i := 7) (by decide) (by decide) fun m S => ?_
  rw [nI_1]
  show Rn (F_X5_init_73 (4991 + 1) m 0 (nI 8)) _
  unfold F_X5_init_73
  refine Rn.gif (S.kk 0 (5, 0) (by decide)) ?_
  refine Rn.gref (S.rr 0 1 (some 1) (by decide)) ?_
  refine Rn.gif (show (mK m 1).1 = 9 by rw [S.kk 1 (9, 8) (by decide)]) ?_
  refine Rn.ift (by rw [S.kk 1 (9, 8) (by decide)]; decide) ?_
  show Rn (F_X5_init_103 (4999 + 1) m 0 (nI 0)) _
  unfold F_X5_init_103
  refine Rn.gif (S.kk 0 (5, 0) (by decide)) ?_
  refine Rn.gref (S.rr 0 7 (some 7) (by decide)) ?_
  refine Rn.gif (show (mK m 7).1 = 10 by rw [S.kk 7 (10, 4) (by decide)]) ?_
  refine Rn.iff (by rw [S.kk 7 (10, 4) (by decide)]; decide) ?_
  refine Rn.gif (S.kk 0 (5, 0) (by decide)) ?_
  refine Rn.gref (S.rr 0 7 (some 7) (by decide)) ?_
  refine Rn.new S (n' := 28) (by decide) (by decide) (by decide) fun m S => ?_
  refine Rn.bnd ?_
  unfold F_X2_init
  refine Rn.gif (S.kk 28 (2, 0) (by decide)) ?_
  refine Rn.wd S (i := 0) (by decide) (by decide) fun m S => ?_
  refine Rn.new S (n' := 29) (by decide) (by decide) (by decide) fun m S => ?_
  refine Rn.gif (S.kk 28 (2, 0) (by decide)) ?_
  refine Rn.wr S (i := 2) (by decide) (by decide) fun m S => ?_
  refine Rn.ret ?_
  refine Rn.gif ⟨by rw [S.kk 7 (10, 4) (by decide)], by rw [S.kk 7 (10, 4) (by decide)]; exact vp_n (by decide) (by decide), S.kk 28 (2, 0) (by decide)⟩ ?_
  refine Rn.wr S (i := 0) (by decide) (by decide) fun m S => ?_
  rw [nI_1]
  show Rn (F_X5_init_103 (4998 + 1) m 0 (nI 1)) _
  unfold F_X5_init_103
  refine Rn.gif (S.kk 0 (5, 0) (by decide)) ?_
  refine Rn.gref (S.rr 0 7 (some 7) (by decide)) ?_
  refine Rn.gif (show (mK m 7).1 = 10 by rw [S.kk 7 (10, 4) (by decide)]) ?_
  refine Rn.iff (by rw [S.kk 7 (10, 4) (by decide)]; decide) ?_
  refine Rn.gif (S.kk 0 (5, 0) (by decide)) ?_
  refine Rn.gref (S.rr 0 7 (some 7) (by decide)) ?_
  refine Rn.new S (n' := 30) (by decide) (by decide) (by decide) fun m S => ?_
  refine Rn.bnd ?_
  unfold F_X2_init
  refine Rn.gif (S.kk 30 (2, 0) (by decide)) ?_
  refine Rn.wd S (i := 0) (by decide) (by decide) fun m S => ?_
  refine Rn.new S (n' := 31) (by decide) (by decide) (by decide) fun m S => ?_
  refine Rn.gif (S.kk 30 (2, 0) (by decide)) ?_
  refine Rn.wr S (i := 2) (by decide) (by decide) fun m S => ?_
  refine Rn.ret ?_
  refine Rn.gif ⟨by rw [S.kk 7 (10, 4) (by decide)], by rw [S.kk 7 (10, 4) (by decide)]; exact vp_n (by decide) (by decide), S.kk 30 (2, 0) (by decide)⟩ ?_
  refine Rn.wr S (i := 1) (by decide) (by decide) fun m S => ?_
  rw [nI_1]
  show Rn (F_X5_init_103 (4997 + 1) m 0 (nI 2)) _
  unfold F_X5_init_103
  refine Rn.gif (S.kk 0 (5, 0) (by decide)) ?_
  refine Rn.gref (S.rr 0 7 (some 7) (by decide)) ?_
  refine Rn.gif (show (mK m 7).1 = 10 by rw [S.kk 7 (10, 4) (by decide)]) ?_
  refine Rn.iff (by rw [S.kk 7 (10, 4) (by decide)]; decide) ?_
  refine Rn.gif (S.kk 0 (5, 0) (by decide)) ?_
  refine Rn.gref (S.rr 0 7 (some 7) (by decide)) ?_
  refine Rn.new S (n' := 32) (by decide) (by decide) (by decide) fun m S => ?_
  refine Rn.bnd ?_
  unfold F_X2_init
  refine Rn.gif (S.kk 32 (2, 0) (by decide)) ?_
  refine Rn.wd S (i := 0) (by decide) (by decide) fun m S => ?_
  refine Rn.new S (n' := 33) (by decide) (by decide) (by decide) fun m S => ?_
  refine Rn.gif (S.kk 32 (2, 0) (by decide)) ?_
  refine Rn.wr S (i := 2) (by decide) (by decide) fun m S => ?_
  refine Rn.ret ?_
  refine Rn.gif ⟨by rw [S.kk 7 (10, 4) (by decide)], by rw [S.kk 7 (10, 4) (by decide)]; exact vp_n (by decide) (by decide), S.kk 32 (2, 0) (by decide)⟩ ?_
  refine Rn.wr S (i := 2) (by decide) (by decide) fun m S => ?_
  rw [nI_1]
  show Rn (F_X5_init_103 (4996 + 1) m 0 (nI 3)) _
  unfold F_X5_init_103
  refine Rn.gif (S.kk 0 (5, 0) (by decide)) ?_
  refine Rn.gref (S.rr 0 7 (some 7) (by decide)) ?_
  refine Rn.gif (show (mK m 7).1 = 10 by rw [S.kk 7 (10, 4) (by decide)]) ?_
  refine Rn.iff (by rw [S.kk 7 (10, 4) (by decide)]; decide) ?_
  refine Rn.gif (S.kk 0 (5, 0) (by decide)) ?_
  refine Rn.gref (S.rr 0 7 (some 7) (by decide)) ?_
  refine Rn.new S (n' := 34) (by decide) (by decide) (by decide) fun m S => ?_
  refine Rn.bnd ?_
  unfold F_X2_init
  refine Rn.gif (S.kk 34 (2, 0) (by decide)) ?_
  refine Rn.wd S (i := 0) (by decide) (by decide) fun m S => ?_
  refine Rn.new S (n' := 35) (by decide) (by decide) (by decide) fun m S => ?_
  refine Rn.gif (S.kk 34 (2, 0) (by decide)) ?_
  refine Rn.wr S (i := 2) (by decide) (by decide) fun m S => ?_
  refine Rn.ret ?_
  refine Rn.gif ⟨by rw [S.kk 7 (10, 4) (by decide)], by rw [S.kk 7 (10, 4) (by decide)]; exact vp_n (by decide) (by decide), S.kk 34 (2, 0) (by decide)⟩ ?_
  refine Rn.wr S (i := 3) (by decide) (by decide) fun m S => ?_
  rw [nI_1]
  show Rn (F_X5_init_103 (4995 + 1) m 0 (nI 4)) _
  unfold F_X5_init_103
  refine Rn.gif (S.kk 0 (5, 0) (by decide)) ?_
  refine Rn.gref (S.rr 0 7 (some 7) (by decide)) ?_
  refine Rn.gif (show (mK m 7).1 = 10 by rw [S.kk 7 (10, 4) (by decide)]) ?_
  refine Rn.ift (by rw [S.kk 7 (10, 4) (by decide)]; decide) ?_
  exact h m S
