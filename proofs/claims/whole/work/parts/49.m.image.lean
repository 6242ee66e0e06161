/-! force, feed, image, back -/
theorem pm_force (a1 : Int32) : PM (fun m => F_X5_force m a1) (fun m => F_X6_force m a1) := by
  intro m hI
  obtain ⟨n, tc, j, TQ, TS, ⟨hS, hC, hT, hP, hSt, hIm, hR⟩, -⟩ := hI.open_
  have hC' := hC
  obtain ⟨h1, h2, h3, h4, h5, h6, h7, h8, h9, h10, h11, h12, h13⟩ := hC
  have gX : ∀ x, mD x 0 5 = nI tc → F_X5_isBetween x a1 0 (mD x 0 5 - 1) = some (btw a1 0 ((tc : Int) - 1), x) := fun x hx => by
    rw [x_isBetween, hx, pred_toInt (by omega)]; rfl
  have gM : ∀ x, mD x 40 3 = nI tc → F_X6_in x a1.toInt64 0 ((mD x 40 3 - 1).toInt64) = some (btw a1 0 ((tc : Int) - 1), x) := fun x hx => by
    rw [m_inB, hx, Int32.toInt_toInt64, pred_toInt (by omega)]; rfl
  cases hb : btw a1 0 ((tc : Int) - 1) with
  | false =>
    refine roE hI (-2) ?_ ?_
    · show F_X5_force m a1 = _
      unfold F_X5_force; rw [gX m h12, bnd_eq, hb, if_pos (by decide)]
    · show F_X6_force m a1 = _
      unfold F_X6_force; rw [gM m h13, bnd_eq, hb, if_pos (by decide)]
  | true =>
    obtain ⟨k, hk, rfl⟩ := coin_nat hb (by omega)
    have a : Ag (fun k i => (k = 0 ∧ i = 6) ∨ (k = 40 ∧ i = 4)) m (wD (wD m 0 6 (nI k)) 40 4 (nI k)) := (Ag.d (Or.inl ⟨rfl, rfl⟩)).tr (Ag.d (Or.inr ⟨rfl, rfl⟩))
    have e : ∀ q i, ¬ (q = 0 ∧ i = 6) → ¬ (q = 40 ∧ i = 4) → mD (wD (wD m 0 6 (nI k)) 40 4 (nI k)) q i = mD m q i := fun q i z1 z2 => a.2 q i (by rintro (z | z); exact z1 z; exact z2 z)
    refine ⟨nI j, wD m 0 6 (nI k), wD (wD m 0 6 (nI k)) 40 4 (nI k), ?_, ?_, hS.sh a.1, n, tc, k, TQ, TS, ⟨h1, h2, h3, hk, ?_, ?_, ?_, ?_, fun i hi => ?_, ?_, ?_, ?_, ?_⟩, hT.ag a (fun q i z => by unfold plTx; omega), hP.ag a (fun q i z => by unfold plTp; omega), hSt.ag a (fun q i z => by unfold plSt; omega), hIm.ag a h1 (fun q i z => by unfold plIm; omega), hR.sh a.1⟩
    · show F_X5_force m (nI k) = _
      unfold F_X5_force; rw [gX m h12, bnd_eq, hb, if_neg (by decide), h10]; rfl
    · show F_X6_force (wD m 0 6 (nI k)) (nI k) = _
      unfold F_X6_force; rw [gM _ (by rw [mD_k (by decide)]; exact h13), bnd_eq, hb, if_neg (by decide), mD_k (by decide), h11]; rfl
    · rw [e 0 2 (by omega) (by omega)]; exact h5
    · rw [e 40 10 (by omega) (by omega)]; exact h6
    · rw [e 0 0 (by omega) (by omega), e 40 7 (by omega) (by omega)]; exact h7
    · rw [e 40 7 (by omega) (by omega)]; exact h8
    · have e1 : mD (wD (wD m 0 6 (nI k)) 40 4 (nI k)) (20 + i) = mD m (20 + i) := funext fun f => e _ _ (by omega) (by omega)
      rw [e1, mrow_ag a (fun _ => by omega) (fun _ => by omega)]; exact h9 i hi
    · rw [mD_k (by decide), mD_s]
    · rw [mD_s]
    · rw [e 0 5 (by omega) (by omega)]; exact h12
    · rw [e 40 3 (by omega) (by omega)]; exact h13
theorem pm_feed (a1 : Int32) : PM (fun m => F_X5_feed m a1) (fun m => F_X6_feed m a1) := by
  intro m hI
  obtain ⟨n, tc, j, TQ, TS, ⟨hS, hC, hT, ⟨tn, t1, t2, t3, t4⟩, hSt, hIm, hR⟩, -⟩ := hI.open_
  cases hb : btw a1 0 255 with
  | false => exact roE hI (-2) (by simp only [F_X5_feed, xi_0_255, hb, bnd_eq, bzf0, if_true]) (by simp only [F_X6_feed, mi_0_255, hb, bnd_eq, bzf0, if_true])
  | true =>
    by_cases hf : tn = 160
    · subst hf
      refine roE hI (-4) ?_ ?_
      · simp only [F_X5_feed, xi_0_255, hb, bnd_eq, bzt0, if_false]; rw [t2, if_neg (by decide)]
      · simp only [F_X6_feed, mi_0_255, hb, bnd_eq, bzt0, if_false]; rw [t3, if_pos (by decide)]
    · have a : Ag (fun k i => k = 3 ∨ (k = 2 ∧ i = 1) ∨ k = 43 ∨ (k = 40 ∧ i = 6)) m (wD (wD (wD (wD m 3 tn a1) 2 1 (nI (tn + 1))) 43 tn a1) 40 6 (nI (tn + 1))) := (((Ag.d (Or.inl rfl)).tr (Ag.d (Or.inr (Or.inl ⟨rfl, rfl⟩)))).tr (Ag.d (Or.inr (Or.inr (Or.inl rfl))))).tr (Ag.d (Or.inr (Or.inr (Or.inr ⟨rfl, rfl⟩))))
      refine ⟨nI (tn + 1), wD (wD m 3 tn a1) 2 1 (nI (tn + 1)), wD (wD (wD (wD m 3 tn a1) 2 1 (nI (tn + 1))) 43 tn a1) 40 6 (nI (tn + 1)), ?_, ?_, hS.sh a.1, n, tc, j, TQ, TS, hC.ag a (fun q i z => by unfold plCo; omega), hT.ag a (fun q i z => by unfold plTx; omega), ⟨tn + 1, by omega, ?_, ?_, fun i hi => ?_⟩, hSt.ag a (fun q i z => by unfold plSt; omega), hIm.ag a hC.1 (fun q i z => by unfold plIm; omega), hR.sh a.1⟩
      · simp only [F_X5_feed, F_X3_add, xi_0_255, hb, bnd_eq, bzt0, if_false]
        rw [t2, if_pos (show nI tn < 160 from nI_lt (b := 160) (by omega) (by omega)), if_neg (show ¬ Int32.ofNat 160 ≤ nI tn from nI_ge (b := 160) (by omega) (by omega)), gIf_pos (vp_n (by omega) (by decide)), nI_c (by omega)]
        dsimp only [nm]
        rw [mD_k (by decide), t2, nI_1, bnd_eq, mD_s]
      · simp only [F_X6_feed, mi_0_255, hb, bnd_eq, bzt0, if_false]
        rw [mD_k (by decide), mD_k (by decide), t3, if_neg (show ¬ nI tn = 160 from fun z => hf ((nI_eq (b := 160) (by omega) (by omega)).mp z)), gIf_pos (vp_n (by omega) (by decide)), nI_c (by omega)]
        dsimp only [nm]
        rw [mD_s, mD_k (k := 43) (by decide), mD_k (k := 2) (by decide), mD_k (k := 3) (by decide), t3, nI_1]
      · rw [mD_k (by decide), mD_k (by decide), mD_s]
      · rw [mD_s]
      · rw [mD_k (by decide), mD_k (by decide), mD_k (by decide), mD_k (k' := 43) (by decide)]
        by_cases ei : i = tn
        · subst ei; rw [mD_s, mD_s]; exact ⟨rfl, hb⟩
        · rw [mD_i ei, mD_i ei, mD_k (by decide), mD_k (by decide)]; exact t4 i (by omega)
/-! image -/
theorem x_imgL {n : Nat} {R : Nat → Nat → Int32} (h8 : n ≤ 8) : ∀ (r i fu : Nat) (x : Mem), i + r = n → r < fu → mD x 0 2 = nI n → (∀ q, q < n → row6 (mD x (20 + q)) = R q) → (∀ q, q < i → row6 (mD x (10 + q)) = R q) → Ev (fun k _ => 10 ≤ k ∧ k ≤ 17) (fun x' => ∀ q, q < n → row6 (mD x' (10 + q)) = R q) (F_X5_image_43 fu x (nI i)) x (nI n) := by
  intro r
  induction r with
  | zero =>
    intro i fu x hi hf h02 h20 h10
    cases fu with
    | zero => omega
    | succ fu =>
      have : i = n := by omega
      subst this
      unfold F_X5_image_43
      rw [h02, if_pos (Int32.le_refl _)]
      exact Ev.ret h10
  | succ r ih =>
    intro i fu x hi hf h02 h20 h10
    cases fu with
    | zero => omega
    | succ fu =>
      unfold F_X5_image_43
      rw [h02, if_neg (nI_ge (show i < n by omega) (by omega)), gIf_pos (vp_n (by omega) (by decide)), gIf_pos (vp_n (by omega) (by decide)), nI_c (by omega), nI_1]
      obtain ⟨x1, e1, a1, r1⟩ := x_become x (c0 := 10 + i) (c1 := 20 + i) (by omega)
      rw [e1, bnd_eq]
      refine Ev.step (a1.mono fun k _ z => by omega) (ih (i + 1) fu x1 (by omega) (by omega) (by rw [a1.2 0 2 (by omega)]; exact h02) (fun q hq => by rw [row6_ag (m := x) a1 (fun _ => by omega)]; exact h20 q hq) (fun q hq => ?_))
      by_cases e : q = i
      · subst e; rw [r1]; exact h20 q (by omega)
      · rw [row6_ag (m := x) a1 (fun _ => by omega)]; exact h10 q (by omega)
theorem m_imgL {m0 : Mem} : ∀ (r i fu : Nat) (x : Mem), i + r = 40 → r < fu → Ag (fun k i => k = 49 ∨ (k = 40 ∧ 31 ≤ i ∧ i ≤ 33)) m0 x → (∀ q, q < i → mD x 49 q = mD m0 45 q) → Ev (fun k i => k = 49 ∨ (k = 40 ∧ 31 ≤ i ∧ i ≤ 33)) (fun x' => (∀ q, q < 40 → mD x' 49 q = mD m0 45 q) ∧ mD x' 40 31 = mD m0 40 10 ∧ mD x' 40 32 = mD m0 40 7 ∧ mD x' 40 33 = mD m0 40 4) (F_X6_image_2 fu x (nI i)) x (mD m0 40 10) := by
  intro r
  induction r with
  | zero =>
    intro i fu x hi hf hA h49
    cases fu with
    | zero => omega
    | succ fu =>
      have : i = 40 := by omega
      subst this
      unfold F_X6_image_2
      rw [if_pos (by decide), hA.2 40 10 (by omega)]
      refine Ev.namW (Or.inr ⟨rfl, by omega, by omega⟩) ?_
      rw [mD_i (by decide), hA.2 40 7 (by omega)]
      refine Ev.namW (Or.inr ⟨rfl, by omega, by omega⟩) ?_
      rw [mD_i (by decide), mD_i (by decide), hA.2 40 4 (by omega)]
      refine Ev.namW (Or.inr ⟨rfl, by omega, by omega⟩) ?_
      rw [mD_i (by decide), mD_i (by decide), mD_i (by decide), hA.2 40 10 (by omega)]
      refine Ev.ret ⟨fun q hq => ?_, ?_, ?_, ?_⟩
      · rw [mD_k (by decide), mD_k (by decide), mD_k (by decide)]; exact h49 q hq
      · rw [mD_i (by decide), mD_i (by decide), mD_s]
      · rw [mD_i (by decide), mD_s]
      · rw [mD_s]
  | succ r ih =>
    intro i fu x hi hf hA h49
    cases fu with
    | zero => omega
    | succ fu =>
      unfold F_X6_image_2
      rw [if_neg (show ¬ (40 : Int32) ≤ nI i from nI_ge (b := 40) (by omega) (by omega)), gIf_pos (vp_n (by omega) (by decide)), gIf_pos (vp_n (by omega) (by decide)), nI_c (by omega), nI_1, hA.2 45 i (by omega)]
      refine Ev.namW (Or.inl rfl) (ih (i + 1) fu _ (by omega) (by omega) (hA.tr (Ag.d (Or.inl rfl))) (fun q hq => ?_))
      by_cases e : q = i
      · subst e; rw [mD_s]
      · rw [mD_i e]; exact h49 q (by omega)
theorem pm_image : PM (fun m => F_X5_image m) (fun m => F_X6_image m) := by
  intro m hI
  obtain ⟨n, tc, j, TQ, TS, ⟨hS, hC, hT, hP, hSt, hIm, hR⟩, -⟩ := hI.open_
  have hC' := hC
  obtain ⟨h1, h2, h3, h4, h5, h6, h7, h8, h9, h10, h11, h12, h13⟩ := hC
  -- the class
  have hAx : Ag (fun k _ => k = 8) m (wD (wD (wD (wD m 8 0 1) 8 1 (mD m 0 0)) 8 2 (mD m 0 6)) 8 3 (mD m 0 2)) := ((agC.tr agC).tr agC).tr agC
  have eX : F_X5_image m = F_X5_image_43 FU (wD (wD (wD (wD m 8 0 1) 8 1 (mD m 0 0)) 8 2 (mD m 0 6)) 8 3 (mD m 0 2)) 0 := by
    unfold F_X5_image
    dsimp only [nm]
    rw [mD_k (by decide), mD_k (by decide), mD_k (by decide), mD_k (by decide), mD_k (by decide), mD_k (by decide)]
  have q0 : mD (wD (wD (wD (wD m 8 0 1) 8 1 (mD m 0 0)) 8 2 (mD m 0 6)) 8 3 (mD m 0 2)) 8 0 = 1 := by rw [mD_i (by decide), mD_i (by decide), mD_i (by decide), mD_s]
  have q1 : mD (wD (wD (wD (wD m 8 0 1) 8 1 (mD m 0 0)) 8 2 (mD m 0 6)) 8 3 (mD m 0 2)) 8 1 = mD m 0 0 := by rw [mD_i (by decide), mD_i (by decide), mD_s]
  have q2 : mD (wD (wD (wD (wD m 8 0 1) 8 1 (mD m 0 0)) 8 2 (mD m 0 6)) 8 3 (mD m 0 2)) 8 2 = nI j := by rw [mD_i (by decide), mD_s]; exact h10
  have q3 : mD (wD (wD (wD (wD m 8 0 1) 8 1 (mD m 0 0)) 8 2 (mD m 0 6)) 8 3 (mD m 0 2)) 8 3 = nI n := by rw [mD_s]; exact h5
  generalize wD (wD (wD (wD m 8 0 1) 8 1 (mD m 0 0)) 8 2 (mD m 0 6)) 8 3 (mD m 0 2) = m0 at hAx eX q0 q1 q2 q3
  obtain ⟨m1, e1, a1, r1⟩ := x_imgL (R := mrow m) h1 n 0 FU m0 (by omega) (hFU (by omega)) (by rw [hAx.2 0 2 (by decide)]; exact h5) (fun q hq => by rw [row6_ag hAx (fun _ => by omega)]; exact (h9 q hq).1) (fun q hq => absurd hq (Nat.not_lt_zero q))
  have A1 : Ag (fun k _ => k = 8 ∨ (10 ≤ k ∧ k ≤ 17)) m m1 := (hAx.mono fun _ _ z => Or.inl z).tr (a1.mono fun _ _ z => Or.inr z)
  obtain ⟨m2, e2, a2, r2, r3, r4, r5⟩ := m_imgL (m0 := m1) 40 0 FU m1 (by omega) (hFU (by omega)) Ag.rf (fun q hq => absurd hq (Nat.not_lt_zero q))
  have A2 : Ag (fun k i => (k = 8 ∨ (10 ≤ k ∧ k ≤ 17)) ∨ (k = 49 ∨ (k = 40 ∧ 31 ≤ i ∧ i ≤ 33))) m m2 := (A1.mono fun _ _ z => Or.inl z).tr (a2.mono fun _ _ z => Or.inr z)
  have ew : mD m1 40 10 = nI n := by rw [A1.2 40 10 (by omega)]; exact h6
  rw [ew] at e2
  refine ⟨nI n, m1, m2, eX.trans e1, e2, hS.sh A2.1, n, tc, j, TQ, TS, hC'.ag A2 (fun q i z => by unfold plCo; omega), hT.ag A2 (fun q i z => by unfold plTx; omega), hP.ag A2 (fun q i z => by unfold plTp; omega), hSt.ag A2 (fun q i z => by unfold plSt; omega), Or.inr ⟨?_, n, j, Nat.le_refl n, h4, ?_, ?_, ?_, ?_, ?_, ?_, fun i hi => ?_⟩, hR.sh A2.1⟩
  · rw [a2.2 8 0 (by omega), a1.2 8 0 (by omega)]; exact q0
  · rw [a2.2 8 3 (by omega), a1.2 8 3 (by omega)]; exact q3
  · rw [r3]; exact ew
  · rw [a2.2 8 1 (by omega), a1.2 8 1 (by omega), q1, r4, A1.2 40 7 (by omega)]; exact h7
  · rw [r4, A1.2 40 7 (by omega)]; exact h8
  · rw [a2.2 8 2 (by omega), a1.2 8 2 (by omega)]; exact q2
  · rw [r5, A1.2 40 4 (by omega)]; exact h11
  · have ek : krow m2 i = mrow m i := by
      funext f; unfold krow mrow
      rw [A2.2 44 i (by omega)]
      by_cases f6 : f < 6
      · rw [r2 _ (by omega), A1.2 45 _ (by omega)]
      · rw [if_neg f6, if_neg f6]
    rw [row6_ag (m := m1) a2 (fun _ => by omega), r1 i hi, ek]
    exact ⟨rfl, (h9 i hi).2⟩
/-! back -/
theorem x_backL {n : Nat} {R : Nat → Nat → Int32} (h8 : n ≤ 8) : ∀ (r i fu : Nat) (x : Mem), i + r = n → r < fu → mD x 0 2 = nI n → (∀ q, q < n → row6 (mD x (10 + q)) = R q) → (∀ q, q < i → row6 (mD x (20 + q)) = R q) → Ev (fun k _ => 20 ≤ k ∧ k ≤ 27) (fun x' => ∀ q, q < n → row6 (mD x' (20 + q)) = R q) (F_X5_back_48 fu x (nI i)) x (nI n) := by
  intro r
  induction r with
  | zero =>
    intro i fu x hi hf h02 h20 h10
    cases fu with
    | zero => omega
    | succ fu =>
      have : i = n := by omega
      subst this
      unfold F_X5_back_48
      rw [h02, if_pos (Int32.le_refl _)]
      exact Ev.ret h10
  | succ r ih =>
    intro i fu x hi hf h02 h20 h10
    cases fu with
    | zero => omega
    | succ fu =>
      unfold F_X5_back_48
      rw [h02, if_neg (nI_ge (show i < n by omega) (by omega)), gIf_pos (vp_n (by omega) (by decide)), gIf_pos (vp_n (by omega) (by decide)), nI_c (by omega), nI_1]
      obtain ⟨x1, e1, a1, r1⟩ := x_become x (c0 := 20 + i) (c1 := 10 + i) (by omega)
      rw [e1, bnd_eq]
      refine Ev.step (a1.mono fun k _ z => by omega) (ih (i + 1) fu x1 (by omega) (by omega) (by rw [a1.2 0 2 (by omega)]; exact h02) (fun q hq => by rw [row6_ag (m := x) a1 (fun _ => by omega)]; exact h20 q hq) (fun q hq => ?_))
      by_cases e : q = i
      · subst e; rw [r1]; exact h20 q (by omega)
      · rw [row6_ag (m := x) a1 (fun _ => by omega)]; exact h10 q (by omega)
theorem m_backL {m0 : Mem} : ∀ (r i fu : Nat) (x : Mem), i + r = 40 → r < fu → Ag (fun k i => k = 45 ∨ (k = 40 ∧ (i = 4 ∨ i = 7 ∨ i = 10))) m0 x → (∀ q, q < i → mD x 45 q = mD m0 49 q) → Ev (fun k i => k = 45 ∨ (k = 40 ∧ (i = 4 ∨ i = 7 ∨ i = 10))) (fun x' => (∀ q, q < 40 → mD x' 45 q = mD m0 49 q) ∧ mD x' 40 10 = mD m0 40 31 ∧ mD x' 40 7 = mD m0 40 32 ∧ mD x' 40 4 = mD m0 40 33) (F_X6_back_13 fu x (nI i)) x (mD m0 40 31) := by
  intro r
  induction r with
  | zero =>
    intro i fu x hi hf hA h49
    cases fu with
    | zero => omega
    | succ fu =>
      have : i = 40 := by omega
      subst this
      unfold F_X6_back_13
      rw [if_pos (by decide), hA.2 40 31 (by omega)]
      refine Ev.namW (Or.inr ⟨rfl, by omega⟩) ?_
      rw [mD_i (by decide), hA.2 40 32 (by omega)]
      refine Ev.namW (Or.inr ⟨rfl, by omega⟩) ?_
      rw [mD_i (by decide), mD_i (by decide), hA.2 40 33 (by omega)]
      refine Ev.namW (Or.inr ⟨rfl, by omega⟩) ?_
      rw [mD_i (by decide), mD_i (by decide), mD_s]
      refine Ev.ret ⟨fun q hq => ?_, ?_, ?_, ?_⟩
      · rw [mD_k (by decide), mD_k (by decide), mD_k (by decide)]; exact h49 q hq
      · rw [mD_i (by decide), mD_i (by decide), mD_s]
      · rw [mD_i (by decide), mD_s]
      · rw [mD_s]
  | succ r ih =>
    intro i fu x hi hf hA h49
    cases fu with
    | zero => omega
    | succ fu =>
      unfold F_X6_back_13
      rw [if_neg (show ¬ (40 : Int32) ≤ nI i from nI_ge (b := 40) (by omega) (by omega)), gIf_pos (vp_n (by omega) (by decide)), gIf_pos (vp_n (by omega) (by decide)), nI_c (by omega), nI_1, hA.2 49 i (by omega)]
      refine Ev.namW (Or.inl rfl) (ih (i + 1) fu _ (by omega) (by omega) (hA.tr (Ag.d (Or.inl rfl))) (fun q hq => ?_))
      by_cases e : q = i
      · subst e; rw [mD_s]
      · rw [mD_i e]; exact h49 q (by omega)
theorem pm_back : PM (fun m => F_X5_back m) (fun m => F_X6_back m) := by
  intro m hI
  obtain ⟨n, tc, j, TQ, TS, ⟨hS, hC, hT, hP, hSt, hIm, hR⟩, -⟩ := hI.open_
  obtain ⟨h1, h2, h3, h4, h5, h6, h7, h8, h9, h10, h11, h12, h13⟩ := hC
  rcases hIm with ⟨i1, i2⟩ | ⟨i1, kn, jk, k1, k2, k3, k4, k5, k6, k7, k8, k9⟩
  · refine roE hI (-3) ?_ ?_
    · show F_X5_back m = _
      unfold F_X5_back; rw [i1, if_pos rfl]
    · show F_X6_back m = _
      unfold F_X6_back; rw [i2, if_pos rfl]
  · have hAx : Ag (fun k i => k = 0 ∧ (i = 0 ∨ i = 6 ∨ i = 2)) m (wD (wD (wD m 0 0 (mD m 8 1)) 0 6 (mD m 8 2)) 0 2 (mD m 8 3)) := ((Ag.d ⟨rfl, by omega⟩).tr (Ag.d ⟨rfl, by omega⟩)).tr (Ag.d ⟨rfl, by omega⟩)
    have eX : F_X5_back m = F_X5_back_48 FU (wD (wD (wD m 0 0 (mD m 8 1)) 0 6 (mD m 8 2)) 0 2 (mD m 8 3)) 0 := by
      unfold F_X5_back
      rw [i1, if_neg (by decide)]
      dsimp only [nm]
      rw [mD_k (by decide), mD_k (by decide), mD_k (by decide)]
    have q0 : mD (wD (wD (wD m 0 0 (mD m 8 1)) 0 6 (mD m 8 2)) 0 2 (mD m 8 3)) 0 0 = mD m 8 1 := by rw [mD_i (by decide), mD_i (by decide), mD_s]
    have q6 : mD (wD (wD (wD m 0 0 (mD m 8 1)) 0 6 (mD m 8 2)) 0 2 (mD m 8 3)) 0 6 = nI jk := by rw [mD_i (by decide), mD_s]; exact k7
    have q2 : mD (wD (wD (wD m 0 0 (mD m 8 1)) 0 6 (mD m 8 2)) 0 2 (mD m 8 3)) 0 2 = nI kn := by rw [mD_s]; exact k3
    generalize wD (wD (wD m 0 0 (mD m 8 1)) 0 6 (mD m 8 2)) 0 2 (mD m 8 3) = m0 at hAx eX q0 q6 q2
    obtain ⟨m1, e1, a1, r1⟩ := x_backL (R := krow m) (show kn ≤ 8 by omega) kn 0 FU m0 (by omega) (hFU (by omega)) q2 (fun q hq => by rw [row6_ag hAx (fun _ => by omega)]; exact (k9 q hq).1) (fun q hq => absurd hq (Nat.not_lt_zero q))
    have A1 : Ag (fun k i => (k = 0 ∧ (i = 0 ∨ i = 6 ∨ i = 2)) ∨ (20 ≤ k ∧ k ≤ 27)) m m1 := (hAx.mono fun _ _ z => Or.inl z).tr (a1.mono fun _ _ z => Or.inr z)
    obtain ⟨m2, e2, a2, r2, r3, r4, r5⟩ := m_backL (m0 := m1) 40 0 FU m1 (by omega) (hFU (by omega)) Ag.rf (fun q hq => absurd hq (Nat.not_lt_zero q))
    have A2 : Ag (fun k i => ((k = 0 ∧ (i = 0 ∨ i = 6 ∨ i = 2)) ∨ (20 ≤ k ∧ k ≤ 27)) ∨ (k = 45 ∨ (k = 40 ∧ (i = 4 ∨ i = 7 ∨ i = 10)))) m m2 := (A1.mono fun _ _ z => Or.inl z).tr (a2.mono fun _ _ z => Or.inr z)
    have ew : mD m1 40 31 = nI kn := by rw [A1.2 40 31 (by omega)]; exact k4
    have eM : F_X6_back m1 = some (nI kn, m2) := by
      unfold F_X6_back
      rw [ew, if_neg (nI_nm1 (by omega))]
      rw [ew] at e2; exact e2
    have hk : Im n tc m2 := Im.ag (Or.inr ⟨i1, kn, jk, k1, k2, k3, k4, k5, k6, k7, k8, k9⟩) A2 h1 (fun q i z => by unfold plIm; omega)
    refine ⟨nI kn, m1, m2, eX.trans e1, eM, hS.sh A2.1, kn, tc, jk, TQ, TS, ⟨by omega, h2, h3, k2, ?_, ?_, ?_, ?_, fun i hi => ?_, ?_, ?_, ?_, ?_⟩, hT.ag A2 (fun q i z => by unfold plTx; omega), hP.ag A2 (fun q i z => by unfold plTp; omega), hSt.ag A2 (fun q i z => by unfold plSt; omega), ?_, hR.sh A2.1⟩
    · rw [a2.2 0 2 (by omega), a1.2 0 2 (by omega)]; exact q2
    · rw [r3]; exact ew
    · rw [a2.2 0 0 (by omega), a1.2 0 0 (by omega), q0, r4, A1.2 40 32 (by omega)]; exact k5
    · rw [r4, A1.2 40 32 (by omega)]; exact k6
    · have ek : mrow m2 i = krow m i := by
        funext f; unfold krow mrow
        rw [A2.2 44 i (by omega)]
        by_cases f6 : f < 6
        · rw [r2 _ (by omega), A1.2 49 _ (by omega)]
        · rw [if_neg f6, if_neg f6]
      rw [row6_ag (m := m1) a2 (fun _ => by omega), r1 i hi, ek]
      exact ⟨rfl, (k9 i hi).2⟩
    · rw [a2.2 0 6 (by omega), a1.2 0 6 (by omega)]; exact q6
    · rw [r5, A1.2 40 33 (by omega)]; exact k8
    · rw [A2.2 0 5 (by omega)]; exact h12
    · rw [A2.2 40 3 (by omega)]; exact h13
    · rcases hk with ⟨z1, z2⟩ | ⟨z1, kn', jk', z2, z3, z4, z5, z6⟩
      · exact Or.inl ⟨z1, z2⟩
      · have : nI kn' = nI kn := by rw [← z5, A2.2 40 31 (by omega)]; exact k4
        have : kn' = kn := (nI_eq (by omega) (by omega)).mp this
        exact Or.inr ⟨z1, kn', jk', by omega, z3, z4, z5, z6⟩
