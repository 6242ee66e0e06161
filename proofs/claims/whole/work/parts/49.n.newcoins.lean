/-! coin, coins -/
abbrev CS : Type := Nat × (Nat → Nat → Int32)
def newrow (a b c : Int32) : Nat → Int32 := fun f => if f = 0 then a else if f = 1 then b else if f = 2 then c else 0
def cOk (a b c : Int32) : Bool := btw a 0 5 && btw b 0 9 && btw c 1 99
def cS (st : CS) (a b c : Int32) : CS := if cOk a b c = true ∧ st.1 < 8 then (st.1 + 1, fun i => if i = st.1 then newrow a b c else st.2 i) else st
def cW (n : Nat) (a b c : Int32) : Int32 := if cOk a b c = true then (if n < 8 then nI n else -4) else -2
def CX (st : CS) (m : Mem) : Prop := st.1 ≤ 8 ∧ mD m 0 2 = nI st.1 ∧ ∀ i, i < st.1 → row6 (mD m (20 + i)) = st.2 i
def CM (st : CS) (m : Mem) : Prop := st.1 ≤ 8 ∧ mD m 40 10 = nI st.1 ∧ ∀ i, i < st.1 → mrow m i = st.2 i
def pXn (k i : Nat) : Prop := (k = 0 ∧ i = 2) ∨ (20 ≤ k ∧ k ≤ 27)
def pMn (n0 k i : Nat) : Prop := (k = 40 ∧ i = 10) ∨ (k = 44 ∧ n0 ≤ i) ∨ (k = 45 ∧ 5 * n0 ≤ i)
theorem x_come (m : Mem) (q : Nat) (a b c : Int32) : ∃ m', F_X0_come m q a b c = some ((), m') ∧ Ag (fun k _ => k = q) m m' ∧ row6 (mD m' q) = newrow a b c := by
  unfold F_X0_come
  dsimp only [nm]
  refine ⟨_, rfl, (((((agC.tr agC).tr agC).tr agC).tr agC).tr agC), ?_⟩
  rw [row6_w (by decide), row6_w (by decide), row6_w (by decide), row6_w (by decide), row6_w (by decide), row6_w (by decide)]
  funext g
  unfold upf row6 newrow
  by_cases g5 : g = 5
  · subst g5; rfl
  by_cases g4 : g = 4
  · subst g4; rfl
  by_cases g3 : g = 3
  · subst g3; rfl
  by_cases g2 : g = 2
  · subst g2; rfl
  by_cases g1 : g = 1
  · subst g1; rfl
  by_cases g0 : g = 0
  · subst g0; rfl
  rw [if_neg g5, if_neg g4, if_neg g3, if_neg g2, if_neg g1, if_neg g0, if_neg (by omega), if_neg (by omega), if_neg (by omega), if_neg (by omega)]
theorem x_coinS {st : CS} {m : Mem} (h : CX st m) (a b c : Int32) : Ev pXn (CX (cS st a b c)) (F_X5_coin m a b c) m (cW st.1 a b c) := by
  obtain ⟨h1, h2, h3⟩ := h
  unfold cS cW cOk
  simp only [F_X5_coin, x_isKind, x_isNumber, x_isValue, bnd_eq]
  cases ha : btw a 0 5 with
  | false => simp only [bzf0, if_true, Bool.false_and, Bool.false_eq_true, false_and, if_false]; exact Ev.ret ⟨h1, h2, h3⟩
  | true =>
    cases hb : btw b 0 9 with
    | false => simp only [bzf0, bzt0, if_true, Bool.false_and, Bool.true_and, Bool.false_eq_true, false_and, if_false]; exact Ev.ret ⟨h1, h2, h3⟩
    | true =>
      cases hc : btw c 1 99 with
      | false => simp only [bzf0, bzt0, if_true, Bool.true_and, Bool.false_eq_true, false_and, if_false]; exact Ev.ret ⟨h1, h2, h3⟩
      | true =>
        simp only [bzt0, if_false, Bool.true_and, if_true, true_and]
        rw [h2]
        by_cases hn : st.1 < 8
        · rw [if_pos (show nI st.1 < Int32.ofNat 8 from nI_lt (b := 8) hn (by omega)), if_pos hn, if_pos hn, gIf_pos (vp_n hn (by decide)), nI_c (by omega)]
          obtain ⟨m1, e1, a1, r1⟩ := x_come m (20 + st.1) a b c
          rw [e1, bnd_eq, a1.2 0 2 (by omega), h2, nI_1]
          refine Ev.step (a1.mono fun k _ z => Or.inr (by omega)) (Ev.namW (Or.inl ⟨rfl, rfl⟩) ?_)
          rw [mD_s, nI_pred]
          refine Ev.ret ⟨by dsimp only; omega, mD_s, fun i hi => ?_⟩
          rw [row6_k (by omega)]
          show _ = if i = st.1 then newrow a b c else st.2 i
          by_cases e : i = st.1
          · rw [if_pos e, e]; exact r1
          · rw [if_neg e, row6_ag (m := m) a1 (fun _ => by omega)]; exact h3 i (by dsimp only at hi; omega)
        · rw [if_neg (show ¬ nI st.1 < Int32.ofNat 8 from nI_nlt (b := 8) (by omega) (by omega)), if_neg hn, if_neg hn]
          exact Ev.ret ⟨h1, h2, h3⟩
theorem m_coinS {st : CS} {m : Mem} (h : CM st m) (a b c : Int32) : Ev (pMn st.1) (CM (cS st a b c)) (F_X6_coin m a b c) m (cW st.1 a b c) := by
  obtain ⟨h1, h2, h3⟩ := h
  unfold cS cW cOk
  simp only [F_X6_coin, mi_0_5, mi_0_9, mi_1_99, bnd_eq]
  cases ha : btw a 0 5 with
  | false => simp only [bzf0, if_true, Bool.false_and, Bool.false_eq_true, false_and, if_false]; exact Ev.ret ⟨h1, h2, h3⟩
  | true =>
    cases hb : btw b 0 9 with
    | false => simp only [bzf0, bzt0, if_true, Bool.false_and, Bool.true_and, Bool.false_eq_true, false_and, if_false]; exact Ev.ret ⟨h1, h2, h3⟩
    | true =>
      cases hc : btw c 1 99 with
      | false => simp only [bzf0, bzt0, if_true, Bool.true_and, Bool.false_eq_true, false_and, if_false]; exact Ev.ret ⟨h1, h2, h3⟩
      | true =>
        simp only [bzt0, if_false, Bool.true_and, if_true, true_and]
        rw [h2]
        by_cases hn : st.1 < 8
        · rw [if_neg (show ¬ nI st.1 = 8 from fun z => by have := (nI_eq (b := 8) (by omega) (by omega)).mp z; omega), if_pos hn, if_pos hn, gIf_pos (vp_n hn (by decide)), nI_c (by omega)]
          refine Ev.namW (Or.inr (Or.inl ⟨rfl, Nat.le_refl _⟩)) ?_
          rw [mD_k (by decide), h2, m5, gIf_pos (vp_n (show 5 * st.1 < 40 by omega) (by decide)), nI_c (by omega)]
          refine Ev.namW (Or.inr (Or.inr ⟨rfl, by omega⟩)) ?_
          rw [mD_k (by decide), mD_k (by decide), h2, m5, nI_1, gIf_pos (vp_n (show 5 * st.1 + 1 < 40 by omega) (by decide)), nI_c (by omega)]
          refine Ev.namW (Or.inr (Or.inr ⟨rfl, by omega⟩)) ?_
          rw [mD_k (by decide), mD_k (by decide), mD_k (by decide), h2, m5, nI_2, gIf_pos (vp_n (show 5 * st.1 + 2 < 40 by omega) (by decide)), nI_c (by omega)]
          refine Ev.namW (Or.inr (Or.inr ⟨rfl, by omega⟩)) ?_
          rw [mD_k (by decide), mD_k (by decide), mD_k (by decide), mD_k (by decide), h2, m5, nI_3, gIf_pos (vp_n (show 5 * st.1 + 3 < 40 by omega) (by decide)), nI_c (by omega)]
          refine Ev.namW (Or.inr (Or.inr ⟨rfl, by omega⟩)) ?_
          rw [mD_k (by decide), mD_k (by decide), mD_k (by decide), mD_k (by decide), mD_k (by decide), h2, m5, nI_4, gIf_pos (vp_n (show 5 * st.1 + 4 < 40 by omega) (by decide)), nI_c (by omega)]
          refine Ev.namW (Or.inr (Or.inr ⟨rfl, by omega⟩)) ?_
          rw [mD_k (by decide), mD_k (by decide), mD_k (by decide), mD_k (by decide), mD_k (by decide), mD_k (by decide), h2, nI_1]
          refine Ev.namW (Or.inl ⟨rfl, rfl⟩) ?_
          rw [mD_s, nI_pred]
          refine Ev.ret ⟨by dsimp only; omega, mD_s, fun i hi => ?_⟩
          show _ = if i = st.1 then newrow a b c else st.2 i
          by_cases e : i = st.1
          · rw [if_pos e, e]
            funext f
            unfold mrow newrow
            rw [mD_k (k := 40) (by decide), mD_k (k := 40) (by decide), mD_k (k := 45) (k' := 44) (by decide), mD_k (k := 45) (k' := 44) (by decide), mD_k (k := 45) (k' := 44) (by decide), mD_k (k := 45) (k' := 44) (by decide), mD_k (k := 45) (k' := 44) (by decide), mD_s]
            by_cases f0 : f = 0
            · rw [if_pos f0, if_pos f0]
            rw [if_neg f0, if_neg f0]
            by_cases f1 : f = 1
            · subst f1; rw [if_pos (by decide), if_pos rfl, mD_i (by omega), mD_i (by omega), mD_i (by omega), mD_i (by omega)]; exact mD_s
            rw [if_neg f1]
            by_cases f2 : f = 2
            · subst f2; rw [if_pos (by decide), if_pos rfl, mD_i (by omega), mD_i (by omega), mD_i (by omega)]; exact mD_s
            rw [if_neg f2]
            by_cases f3 : f = 3
            · subst f3; rw [if_pos (by decide), mD_i (by omega), mD_i (by omega)]; exact mD_s
            by_cases f4 : f = 4
            · subst f4; rw [if_pos (by decide), mD_i (by omega)]; exact mD_s
            by_cases f5 : f = 5
            · subst f5; rw [if_pos (by decide)]; exact mD_s
            rw [if_neg (by omega)]
          · rw [if_neg e]
            have hi' : i < st.1 := by dsimp only at hi; omega
            rw [← h3 i hi']
            funext f
            unfold mrow
            rw [mD_k (k := 40) (by decide), mD_k (k := 40) (by decide), mD_k (k := 45) (k' := 44) (by decide), mD_k (k := 45) (k' := 44) (by decide), mD_k (k := 45) (k' := 44) (by decide), mD_k (k := 45) (k' := 44) (by decide), mD_k (k := 45) (k' := 44) (by decide), mD_i e]
            by_cases f6 : f < 6
            · rw [mD_i (by omega), mD_i (by omega), mD_i (by omega), mD_i (by omega), mD_i (by omega), mD_k (by decide)]
            · rw [if_neg f6, if_neg f6]
        · rw [if_pos (show nI st.1 = 8 by rw [show st.1 = 8 by omega]; rfl), if_neg hn, if_neg hn]
          exact Ev.ret ⟨h1, h2, h3⟩
def RB (st : CS) : Prop := ∀ i, i < st.1 → CB (st.2 i)
theorem rb_cS {st : CS} (h : RB st) (a b c : Int32) : RB (cS st a b c) := by
  unfold cS
  split
  · rename_i hk
    intro i hi
    show CB (if i = st.1 then newrow a b c else st.2 i)
    split
    · have := hk.1
      unfold cOk at this
      simp only [Bool.and_eq_true] at this
      exact ⟨this.1.1, this.1.2, this.2, (by decide : btw 0 0 9 = true), (by decide : btw 0 0 999 = true), (by decide : btw 0 0 3 = true)⟩
    · exact h i (by dsimp only at hi; omega)
  · exact h
theorem cS_le (st : CS) (a b c : Int32) : st.1 ≤ (cS st a b c).1 := by
  unfold cS; split
  · exact Nat.le_succ _
  · exact Nat.le_refl _
theorem inv_new {m m1 m2 : Mem} {n tc j : Nat} {TQ : Nat → Nat} {TS : Nat → Nat → (Int32 → Int32) → Int32} {st : CS} (hI : ShX m ∧ Co n tc j m ∧ Tx tc TQ TS m ∧ Tp m ∧ St m ∧ Im n tc m ∧ Rm tc m) (a1 : Ag pXn m m1) (x1 : CX st m1) (a2 : Ag (pMn n) m1 m2) (x2 : CM st m2) (hle : n ≤ st.1) (hb : RB st) : Inv m2 := by
  obtain ⟨hS, hC, hT, hP, hSt, hIm, hR⟩ := hI
  have a : Ag (fun k i => pXn k i ∨ pMn n k i) m m2 := (a1.mono fun _ _ z => Or.inl z).tr (a2.mono fun _ _ z => Or.inr z)
  have e : ∀ k i, ¬ pXn k i → ¬ pMn n k i → mD m2 k i = mD m k i := fun k i h1 h2 => a.2 k i (by rintro (z | z); exact h1 z; exact h2 z)
  obtain ⟨h1, h2, h3, h4, h5, h6, h7, h8, h9, h10, h11, h12, h13⟩ := hC
  obtain ⟨c1, c2, c3⟩ := x1
  obtain ⟨d1, d2, d3⟩ := x2
  refine ⟨hS.sh a.1, st.1, tc, j, TQ, TS, ⟨c1, h2, h3, h4, ?_, d2, ?_, ?_, fun i hi => ?_, ?_, ?_, ?_, ?_⟩, hT.ag a (fun k i z => by unfold pXn pMn at z; unfold plTx; omega), hP.ag a (fun k i z => by unfold pXn pMn at z; unfold plTp; omega), hSt.ag a (fun k i z => by unfold pXn pMn at z; unfold plSt; omega), ?_, hR.sh a.1⟩
  · rw [a2.2 0 2 (by unfold pMn; omega)]; exact c2
  · rw [e 0 0 (by unfold pXn; omega) (by unfold pMn; omega), e 40 7 (by unfold pXn; omega) (by unfold pMn; omega)]; exact h7
  · rw [e 40 7 (by unfold pXn; omega) (by unfold pMn; omega)]; exact h8
  · rw [row6_ag (m := m1) a2 (fun _ => by unfold pMn; omega), c3 i hi, d3 i hi]; exact ⟨rfl, hb i hi⟩
  · rw [e 0 6 (by unfold pXn; omega) (by unfold pMn; omega)]; exact h10
  · rw [e 40 4 (by unfold pXn; omega) (by unfold pMn; omega)]; exact h11
  · rw [e 0 5 (by unfold pXn; omega) (by unfold pMn; omega)]; exact h12
  · rw [e 40 3 (by unfold pXn; omega) (by unfold pMn; omega)]; exact h13
  · unfold Im at hIm ⊢
    have e' : ∀ k i, k = 8 ∨ (10 ≤ k ∧ k ≤ 17) ∨ (k = 40 ∧ 31 ≤ i ∧ i ≤ 33) ∨ k = 49 → mD m2 k i = mD m k i := fun k i z => e k i (by unfold pXn; omega) (by unfold pMn; omega)
    rw [e' 8 0 (by omega), e' 40 31 (by omega), e' 8 3 (by omega), e' 8 1 (by omega), e' 40 32 (by omega), e' 8 2 (by omega), e' 40 33 (by omega)]
    rcases hIm with h | ⟨z1, kn, jk, z2, z3, z4, z5, z6, z7, z8, z9, z10⟩
    · exact Or.inl h
    · refine Or.inr ⟨z1, kn, jk, by omega, z3, z4, z5, z6, z7, z8, z9, fun i hi => ?_⟩
      have e1 : mD m2 (10 + i) = mD m (10 + i) := funext fun f => e' _ _ (by omega)
      have e2 : krow m2 i = krow m i := by
        funext f; unfold krow; rw [e 44 i (by unfold pXn; omega) (by unfold pMn; omega), e' 49 _ (by omega)]
      rw [e1, e2]; exact z10 i hi
theorem Inv.cs {m : Mem} (h : Inv m) : ∃ n tc j TQ TS, (ShX m ∧ Co n tc j m ∧ Tx tc TQ TS m ∧ Tp m ∧ St m ∧ Im n tc m ∧ Rm tc m) ∧ CX (n, mrow m) m ∧ CM (n, mrow m) m ∧ RB (n, mrow m) := by
  obtain ⟨h1, n, tc, j, TQ, TS, hC, h3⟩ := h
  have hC' := hC
  obtain ⟨c1, c2, c3, c4, c5, c6, c7, c8, c9, c10⟩ := hC
  exact ⟨n, tc, j, TQ, TS, ⟨h1, hC', h3⟩, ⟨c1, c5, fun i hi => (c9 i hi).1⟩, ⟨c1, c6, fun _ _ => rfl⟩, fun i hi => (c9 i hi).2⟩
theorem CM.ag {st : CS} {m m' : Mem} (h : CM st m) (ha : Ag pXn m m') : CM st m' := ⟨h.1, by rw [ha.2 40 10 (by unfold pXn; omega)]; exact h.2.1, fun i hi => by rw [mrow_ag ha (fun _ => by unfold pXn; omega) (fun _ => by unfold pXn; omega)]; exact h.2.2 i hi⟩
theorem pm_coin (a b c : Int32) : PM (fun m => F_X5_coin m a b c) (fun m => F_X6_coin m a b c) := by
  intro m hI
  obtain ⟨n, tc, j, TQ, TS, hA, hX, hM, hB⟩ := hI.cs
  obtain ⟨m1, e1, a1, r1⟩ := x_coinS hX a b c
  obtain ⟨m2, e2, a2, r2⟩ := m_coinS (hM.ag a1) a b c
  exact ⟨cW n a b c, m1, m2, e1, e2, inv_new hA a1 r1 a2 r2 (cS_le (n, mrow m) a b c) (rb_cS hB a b c)⟩
/-- coins out of a row -/
def cL (its : Nat → Int32) (sz f : Nat) : Nat → Nat → CS → Int32 → Int32 × CS
  | 0, _, st, came => (came, st)
  | r + 1, k, st, came => if f + 3 * k + 3 ≤ sz then cL its sz f r (k + 1) (cS st (its (f + 3 * k)) (its (f + 3 * k + 1)) (its (f + 3 * k + 2))) (if cW st.1 (its (f + 3 * k)) (its (f + 3 * k + 1)) (its (f + 3 * k + 2)) < 0 then came else came + 1) else (-12, st)
theorem cL_inv {its : Nat → Int32} {sz f : Nat} : ∀ (r k : Nat) (st : CS) (came : Int32), RB st → st.1 ≤ (cL its sz f r k st came).2.1 ∧ RB (cL its sz f r k st came).2 := by
  intro r
  induction r with
  | zero => intro k st came h; exact ⟨Nat.le_refl _, h⟩
  | succ r ih =>
    intro k st came h
    unfold cL
    split
    · obtain ⟨h1, h2⟩ := ih (k + 1) _ (if cW st.1 (its (f + 3 * k)) (its (f + 3 * k + 1)) (its (f + 3 * k + 2)) < 0 then came else came + 1) (rb_cS h (its (f + 3 * k)) (its (f + 3 * k + 1)) (its (f + 3 * k + 2)))
      exact ⟨Nat.le_trans (cS_le _ _ _ _) h1, h2⟩
    · exact ⟨Nat.le_refl _, h⟩
theorem x_room (m : Mem) {q sz f k : Nat} (hz : mD m q 1 = nI sz) (h40 : sz ≤ 40) (hf : f < 1000) (hk : k < 1000) : F_X2_hasRoom m q (nI f) (nI k) = some (decide (f + k ≤ sz), m) := by
  unfold F_X2_hasRoom
  rw [hz, if_neg (nI_pos (by omega)), if_neg (nI_pos (by omega))]
  by_cases h1 : sz < f
  · rw [if_pos (nI_lt h1 (by omega))]; simp; omega
  · rw [if_neg (nI_nlt (by omega) (by omega))]
    have e : nI sz - nI f = nI (sz - f) := (Int32.ofNat_sub _ _ (by omega)).symm
    rw [e]
    by_cases h2 : sz - f < k
    · rw [if_pos (nI_lt h2 (by omega))]; simp; omega
    · rw [if_neg (nI_nlt (by omega) (by omega))]; simp; omega
theorem x_coinsL {s sz f N : Nat} {its : Nat → Int32} (hs : s < 4) (h40 : sz ≤ 40) (hN : N ≤ 8) (hf : f ≤ 40) : ∀ (r k fu : Nat) (x : Mem) (st : CS) (came : Int32), k + r = N → r < fu → CX st x → mD x (28 + 2 * s) 1 = nI sz → (∀ i, i < sz → mD x (29 + 2 * s) i = its i) → Ev pXn (CX (cL its sz f r k st came).2) (F_X5_coins_78 fu x (nI N) (28 + 2 * s) came (nI (f + 3 * k)) (nI k)) x (cL its sz f r k st came).1 := by
  intro r
  induction r with
  | zero =>
    intro k fu x st came hk hfu h hz hit
    cases fu with
    | zero => omega
    | succ fu =>
      have : k = N := by omega
      subst this
      unfold F_X5_coins_78
      rw [if_pos (Int32.le_refl _)]
      exact Ev.ret h
  | succ r ih =>
    intro k fu x st came hk hfu h hz hit
    cases fu with
    | zero => omega
    | succ fu =>
      unfold F_X5_coins_78 F_X5_coins_137 cL
      rw [if_neg (nI_ge (show k < N by omega) (by omega)), show (3 : Int32) = nI 3 from rfl, x_room x hz h40 (show f + 3 * k < 1000 by omega) (by decide), bnd_eq]
      by_cases hr : f + 3 * k + 3 ≤ sz
      · rw [if_pos hr, if_neg (show ¬ bz (decide (f + 3 * k + 3 ≤ sz)) = 0 by simp [bz, hr])]
        rw [nI_1, nI_2, gIf_pos (vp_n (show f + 3 * k < 40 by omega) (by decide)), gIf_pos (vp_n (show f + 3 * k + 1 < 40 by omega) (by decide)), gIf_pos (vp_n (show f + 3 * k + 2 < 40 by omega) (by decide)), nI_c (by omega), nI_c (by omega), nI_c (by omega), show 28 + 2 * s + 1 = 29 + 2 * s by omega, hit _ (by omega), hit _ (by omega), hit _ (by omega)]
        refine Ev.bdA (x_coinS h _ _ _) fun x1 a1 h1 => ?_
        rw [nI_ad, nI_1, show f + 3 * k + 3 = f + 3 * (k + 1) by omega]
        have hz1 : mD x1 (28 + 2 * s) 1 = nI sz := by rw [a1.2 _ 1 (by unfold pXn; omega)]; exact hz
        have hit1 : ∀ i, i < sz → mD x1 (29 + 2 * s) i = its i := fun i hi => by rw [a1.2 _ i (by unfold pXn; omega)]; exact hit i hi
        by_cases hw : cW st.1 (its (f + 3 * k)) (its (f + 3 * k + 1)) (its (f + 3 * k + 2)) < 0
        · rw [if_pos hw, if_pos hw]; exact ih (k + 1) fu x1 _ _ (by omega) (by omega) h1 hz1 hit1
        · rw [if_neg hw, if_neg hw]; exact ih (k + 1) fu x1 _ _ (by omega) (by omega) h1 hz1 hit1
      · rw [if_neg hr, if_pos (show bz (decide (f + 3 * k + 3 ≤ sz)) = 0 by simp [bz, hr])]
        exact Ev.ret h
theorem m3 (k : Nat) : (3 : Int32) * nI k = nI (3 * k) := (Int32.ofNat_mul 3 k).symm
theorem m_coinsL {s sz f N n0 : Nat} {its : Nat → Int32} (hs : s < 4) (h40 : sz ≤ 40) (hN : N ≤ 8) (hf : f ≤ 40) : ∀ (r k fu : Nat) (x : Mem) (st : CS) (came : Int32), k + r = N → r < fu → n0 ≤ st.1 → CM st x → mD x 52 s = nI sz → (∀ i, i < sz → mD x 53 (40 * s + i) = its i) → Ev (pMn n0) (CM (cL its sz f r k st came).2) (F_X6_coins_75 fu x (nI s) (nI f) (nI N) came (nI k)) x (cL its sz f r k st came).1 := by
  intro r
  induction r with
  | zero =>
    intro k fu x st came hk hfu hn h hz hit
    cases fu with
    | zero => omega
    | succ fu =>
      have : k = N := by omega
      subst this
      unfold F_X6_coins_75
      rw [if_pos (Int32.le_refl _)]
      exact Ev.ret h
  | succ r ih =>
    intro k fu x st came hk hfu hn h hz hit
    cases fu with
    | zero => omega
    | succ fu =>
      unfold F_X6_coins_75 F_X6_coins_158 cL
      have hc : (nI f ≤ nI sz - nI (3 * k) - 3) ↔ f + 3 * k + 3 ≤ sz := by
        rw [Int32.le_iff_toInt_le, Int32.toInt_sub, Int32.toInt_sub, nI_toInt (by omega), nI_toInt (by omega), nI_toInt (by omega), show (3 : Int32).toInt = 3 from rfl, bm32 (z := (sz : Int) - ((3 * k : Nat) : Int)) (by omega) (by omega), bm32 (by omega) (by omega)]
        omega
      rw [if_neg (nI_ge (show k < N by omega) (by omega)), if_neg (nI_pos (by omega)), gIf_pos (vp_n hs (by decide)), nI_c (by omega), hz, m3]
      by_cases hr : f + 3 * k + 3 ≤ sz
      · rw [if_pos (hc.mpr hr), if_pos hr]
        dsimp only [nm]
        rw [m40, nI_ad, nI_ad, show 40 * s + f + 3 * k = 40 * s + (f + 3 * k) by omega, nI_1, nI_2, gIf_pos (vp_n (show 40 * s + (f + 3 * k) < 160 by omega) (by decide)), gIf_pos (vp_n (show 40 * s + (f + 3 * k) + 1 < 160 by omega) (by decide)), gIf_pos (vp_n (show 40 * s + (f + 3 * k) + 2 < 160 by omega) (by decide)), nI_c (by omega), nI_c (by omega), nI_c (by omega), hit _ (by omega), show 40 * s + (f + 3 * k) + 1 = 40 * s + (f + 3 * k + 1) by omega, hit _ (by omega), show 40 * s + (f + 3 * k) + 2 = 40 * s + (f + 3 * k + 2) by omega, hit _ (by omega), nI_1, Int32.add_zero]
        refine Ev.bdM (m_coinS h _ _ _) (fun q i z => by unfold pMn at z ⊢; omega) fun x1 a1 h1 => ?_
        have hz1 : mD x1 52 s = nI sz := by rw [a1.2 52 s (by unfold pMn; omega)]; exact hz
        have hit1 : ∀ i, i < sz → mD x1 53 (40 * s + i) = its i := fun i hi => by rw [a1.2 53 _ (by unfold pMn; omega)]; exact hit i hi
        by_cases hw : cW st.1 (its (f + 3 * k)) (its (f + 3 * k + 1)) (its (f + 3 * k + 2)) < 0
        · rw [if_pos hw, if_pos hw]; exact ih (k + 1) fu x1 _ _ (by omega) (by omega) (Nat.le_trans hn (cS_le _ _ _ _)) h1 hz1 hit1
        · rw [if_neg hw, if_neg hw]; exact ih (k + 1) fu x1 _ _ (by omega) (by omega) (Nat.le_trans hn (cS_le _ _ _ _)) h1 hz1 hit1
      · rw [if_neg (fun z => hr (hc.mp z)), if_neg hr]
        exact Ev.ret h
theorem pm_coins (a1 a2 a3 a4 : Int32) : PM (fun m => F_X5_coins m a1 a2 a3 a4) (fun m => F_X6_coins m a1 a2 a3 a4) := by
  intro m hI
  obtain ⟨n, tc, j, TQ, TS, hA, hX, hM, hB⟩ := hI.cs
  have hSt := hA.2.2.2.2.1
  cases hs : btw a1 0 3 with
  | false => exact roE hI (-2) (by simp only [F_X5_coins, x_isSheet, hs, bnd_eq, bzf0, if_true]) (by simp only [F_X6_coins, m_isSheet, hs, bnd_eq, bzf0, if_true])
  | true =>
    cases ho : btw a2 0 2 with
    | false => exact roE hI (-2) (by simp only [F_X5_coins, x_isSheet, xi_0_2, hs, ho, bnd_eq, bzf0, bzt0, if_true, if_false]) (by simp only [F_X6_coins, m_isSheet, mi_0_2, hs, ho, bnd_eq, bzf0, bzt0, if_true, if_false])
    | true =>
      cases hn : btw a4 0 8 with
      | false => exact roE hI (-2) (by simp only [F_X5_coins, x_isSheet, xi_0_2, xi_0_8, hs, ho, hn, bnd_eq, bzf0, bzt0, if_true, if_false]) (by simp only [F_X6_coins, m_isSheet, mi_0_2, mi_0_8, hs, ho, hn, bnd_eq, bzf0, bzt0, if_true, if_false])
      | true =>
        obtain ⟨s, hs', rfl⟩ := btw_nat (hi := 3) hs (by decide)
        obtain ⟨N, hN, rfl⟩ := btw_nat (hi := 8) hn (by decide)
        have hs4 : s < 4 := by omega
        rcases hSt s hs4 with ⟨st1, st2⟩ | ⟨st1, st2, st3, sz, hz, sz1, sz2, st4⟩
        · refine roE hI (-11) ?_ ?_
          · simp only [F_X5_coins, F_X5_coins_58, F_X2_isMissing, x_isSheet, xi_0_2, xi_0_8, hs, ho, hn, bnd_eq, bzt0, if_false]
            rw [gIf_pos (vp_n hs4 (by decide)), nI_c (by omega), if_pos st1, bnd_eq, if_neg (by decide), if_pos st1, bnd_eq, if_neg (by decide)]
          · simp only [F_X6_coins, F_X6_coins_57, m_isSheet, mi_0_2, mi_0_8, hs, ho, hn, bnd_eq, bzt0, if_false]
            rw [gIf_pos (vp_n hs4 (by decide)), nI_c (by omega), if_pos st2, gIf_pos (vp_n hs4 (by decide)), if_pos st2]
        · have hne : ¬ mD m (28 + 2 * s) 0 = -1 := fun z => by
            rw [st2] at z; rw [z] at st3; exact absurd st3 (by decide)
          have eX : F_X5_coins m (nI s) a2 a3 (nI N) = if mD m 51 s = a2 then F_X5_coins_78 FU m (nI N) (28 + 2 * s) 0 a3 0 else some (-13, m) := by
            simp only [F_X5_coins, F_X5_coins_58, F_X2_isMissing, x_isSheet, xi_0_2, xi_0_8, hs, ho, hn, bnd_eq, bzt0, if_false]
            rw [gIf_pos (vp_n hs4 (by decide)), nI_c (by omega), if_neg hne, bnd_eq, if_pos (show bz false = 0 from rfl), if_neg hne, bnd_eq, if_pos (show bz false = 0 from rfl), st2]
          have eM : ∀ x, mD x 50 s = 1 → F_X6_coins x (nI s) a2 a3 (nI N) = if mD x 51 s = a2 then F_X6_coins_75 FU x (nI s) a3 (nI N) 0 0 else some (-13, x) := fun x hx => by
            simp only [F_X6_coins, F_X6_coins_57, m_isSheet, mi_0_2, mi_0_8, hs, ho, hn, bnd_eq, bzt0, if_false]
            rw [gIf_pos (vp_n hs4 (by decide)), nI_c (by omega), hx, if_neg (show ¬ (1 : Int32) = 0 by decide), gIf_pos (vp_n hs4 (by decide)), gIf_pos (vp_n hs4 (by decide)), if_neg (show ¬ (1 : Int32) = 0 by decide)]
          by_cases h51 : mD m 51 s = a2
          · -- the loops
            by_cases hin : ∃ f, f ≤ 40 ∧ a3 = nI f
            · obtain ⟨f, hf, rfl⟩ := hin
              obtain ⟨m1, e1, a1, r1⟩ := x_coinsL (its := fun i => mD m (29 + 2 * s) i) hs4 hz hN hf N 0 FU m (n, mrow m) 0 (by omega) (hFU (by omega)) hX sz1 (fun _ _ => rfl)
              have k50 : mD m1 50 s = 1 := by rw [a1.2 50 s (by unfold pXn; omega)]; exact st1
              have k51 : mD m1 51 s = a2 := by rw [a1.2 51 s (by unfold pXn; omega)]; exact h51
              obtain ⟨m2, e2, a2', r2⟩ := m_coinsL (n0 := n) (its := fun i => mD m (29 + 2 * s) i) hs4 hz hN hf N 0 FU m1 (n, mrow m) 0 (by omega) (hFU (by omega)) (Nat.le_refl n) (hM.ag a1) (by rw [a1.2 52 s (by unfold pXn; omega)]; exact sz2) (fun i hi => by rw [a1.2 53 _ (by unfold pXn; omega)]; exact (st4 i hi).symm)
              obtain ⟨l1, l2⟩ := cL_inv (its := fun i => mD m (29 + 2 * s) i) (sz := sz) (f := f) N 0 (n, mrow m) 0 hB
              refine ⟨(cL (fun i => mD m (29 + 2 * s) i) sz f N 0 (n, mrow m) 0).1, m1, m2, ?_, ?_, inv_new hA a1 r1 a2' r2 l1 l2⟩
              · show F_X5_coins m (nI s) a2 (nI f) (nI N) = _
                rw [eX, if_pos h51]; exact e1
              · show F_X6_coins m1 (nI s) a2 (nI f) (nI N) = _
                rw [eM m1 k50, if_pos k51]; exact e2
            · by_cases hN0 : N = 0
              · subst hN0
                refine roE hI 0 ?_ ?_
                · rw [eX, if_pos h51]; rfl
                · rw [eM m st1, if_pos h51]; rfl
              · have h3 : a3 < 0 ∨ ¬ a3 ≤ 40 := by
                  rcases (inferInstance : Decidable (a3 < 0)) with z | z
                  · right
                    intro z2
                    obtain ⟨q, hq, e⟩ := nI_of2 (M := 40) (n := 40) rfl z z2
                    exact hin ⟨q, hq, e⟩
                  · exact Or.inl z
                refine roE hI (-12) ?_ ?_
                · rw [eX, if_pos h51]
                  show F_X5_coins_78 (4999 + 1) m (nI N) (28 + 2 * s) 0 a3 0 = _
                  unfold F_X5_coins_78
                  rw [if_neg (show ¬ nI N ≤ 0 from nI_nle (by omega) (by omega))]
                  have : F_X2_hasRoom m (28 + 2 * s) a3 3 = some (false, m) := by
                    unfold F_X2_hasRoom
                    rcases h3 with h3 | h3
                    · rw [if_pos h3]
                    · by_cases h0 : a3 < 0
                      · rw [if_pos h0]
                      · rw [if_neg h0, if_neg (by decide), sz1, if_pos]
                        rw [Int32.lt_iff_toInt_lt, nI_toInt (by omega)]
                        rw [Int32.le_iff_toInt_le, show (40 : Int32).toInt = 40 from rfl] at h3
                        omega
                  rw [this, bnd_eq, if_pos (by decide)]
                · rw [eM m st1, if_pos h51]
                  show F_X6_coins_75 (4999 + 1) m (nI s) a3 (nI N) 0 0 = _
                  unfold F_X6_coins_75
                  rw [if_neg (show ¬ nI N ≤ 0 from nI_nle (by omega) (by omega))]
                  by_cases h0 : a3 < 0
                  · rw [if_pos h0]
                  · rw [if_neg h0, gIf_pos (vp_n hs4 (by decide)), nI_c (by omega), sz2, if_neg]
                    have h4 := h3.resolve_left h0
                    rw [Int32.le_iff_toInt_le, show (40 : Int32).toInt = 40 from rfl] at h4
                    rw [show (3 : Int32) * 0 = nI 0 from rfl, Int32.le_iff_toInt_le, Int32.toInt_sub, Int32.toInt_sub, nI_toInt (by omega), nI_toInt (by omega), show (3 : Int32).toInt = 3 from rfl, bm32 (z := (sz : Int) - ((0 : Nat) : Int)) (by omega) (by omega), bm32 (by omega) (by omega)]
                    omega
          · refine roE hI (-13) ?_ ?_
            · rw [eX, if_neg h51]
            · rw [eM m st1, if_neg h51]
