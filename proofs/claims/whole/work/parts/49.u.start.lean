/-! both objects stand -/
theorem shX_of {m : Mem} {dl : List ((Nat × Nat) × Int32)} {s : Nat} (S : ST 0 mEmpty tabX rlX dl s m) : ShX m := by
  have h1 : ∀ q ∈ xK, 0 ≤ q.1 ∧ q.1 < 0 + tabX.length ∧ tabX.getD (q.1 - 0) (0, 0) = q.2 := by decide
  have h2 : ∀ q ∈ xR, 0 ≤ q.1.1 ∧ q.1.1 < 0 + tabX.length ∧ lkR rlX q.1.1 q.1.2 = some q.2 := by decide
  have h3 : ∀ i, i < 8 → (0 ≤ 1 ∧ 1 < 0 + tabX.length ∧ lkR rlX 1 i = some (20 + i)) ∧ (0 ≤ 20 + i ∧ 20 + i < 0 + tabX.length ∧ tabX.getD (20 + i - 0) (0, 0) = (0, 0)) := by decide
  have h4 : ∀ i, i < 8 → (0 ≤ 9 ∧ 9 < 0 + tabX.length ∧ lkR rlX 9 i = some (10 + i)) ∧ (0 ≤ 10 + i ∧ 10 + i < 0 + tabX.length ∧ tabX.getD (10 + i - 0) (0, 0) = (0, 0)) := by decide
  have h5 : ∀ i, i < 4 → (0 ≤ 7 ∧ 7 < 0 + tabX.length ∧ lkR rlX 7 i = some (28 + 2 * i)) ∧ (0 ≤ 28 + 2 * i ∧ 28 + 2 * i < 0 + tabX.length ∧ tabX.getD (28 + 2 * i - 0) (0, 0) = (2, 0)) ∧ (0 ≤ 28 + 2 * i ∧ 28 + 2 * i < 0 + tabX.length ∧ lkR rlX (28 + 2 * i) 2 = some (28 + 2 * i + 1)) ∧ (0 ≤ 28 + 2 * i + 1 ∧ 28 + 2 * i + 1 < 0 + tabX.length ∧ tabX.getD (28 + 2 * i + 1 - 0) (0, 0) = (7, 40)) := by decide
  have h6 : ∀ e ∈ rlX, ¬ e.1.1 = 6 := by decide
  refine ⟨fun q hq => S.kk _ _ (h1 q hq), fun q hq => S.rr _ _ _ (h2 q hq), fun i hi => ⟨S.rr _ _ _ (h3 i hi).1, S.kk _ _ (h3 i hi).2⟩, fun i hi => ⟨S.rr _ _ _ (h4 i hi).1, S.kk _ _ (h4 i hi).2⟩, fun i hi => ⟨S.rr _ _ _ (h5 i hi).1, S.kk _ _ (h5 i hi).2.1, S.rr _ _ _ (h5 i hi).2.2.1, S.kk _ _ (h5 i hi).2.2.2⟩, fun i k hk => ?_⟩
  rw [S.2.2.1 6 i (Nat.zero_le _) (by rw [S.1]; decide), lkR_no rlX 6 i h6] at hk
  cases hk
theorem x_init133 {m0 : Mem} (hS : ShX m0) : ∀ (r i fu : Nat) (x : Mem) (P : Unit → Mem → Prop), i + r = 38 → r < fu → Ag (fun k i => k = 3 ∨ (k = 2 ∧ i = 1)) m0 x → mD x 2 1 = nI i → (∀ q, q < i → mD x 3 q = sch 0 q) → (∀ y, Ag (fun k i => k = 3 ∨ (k = 2 ∧ i = 1)) m0 y → mD y 2 1 = nI 38 → (∀ q, q < 38 → mD y 3 q = sch 0 q) → Rn (bnd (F_X3_read y) fun v78 m79 => gIf (mK m79 0 = (5, 0)) <| bnd (F_X5_keepText m79 0) fun v83 m84 => some ((), m84)) P) → Rn (F_X5_init_133 fu x 0 (nI i)) P := by
  intro r
  induction r with
  | zero =>
    intro i fu x P hi hf hA h21 h3 hK
    cases fu with
    | zero => omega
    | succ fu =>
      have : i = 38 := by omega
      subst this
      have Sx := hS.sh hA.1
      unfold F_X5_init_133
      rw [if_pos (by decide)]
      exact Rn.gif (sx_k0 Sx) (Rn.gref (sx_r0_3 Sx) (Rn.gif ⟨rfl, Sx⟩ (hK x hA h21 h3)))
  | succ r ih =>
    intro i fu x P hi hf hA h21 h3 hK
    cases fu with
    | zero => omega
    | succ fu =>
      have Sx := hS.sh hA.1
      unfold F_X5_init_133 F_X3_add
      rw [if_neg (show ¬ (38 : Int32) ≤ nI i from nI_ge (b := 38) (by omega) (by omega))]
      refine Rn.gif (sx_k0 Sx) (Rn.gref (sx_r0_3 Sx) (Rn.gif (vp_n (by omega) (by decide)) (Rn.gif ⟨rfl, Sx⟩ ?_)))
      rw [h21, if_neg (show ¬ Int32.ofNat 160 ≤ nI i from nI_ge (b := 160) (by omega) (by omega)), gIf_pos (vp_n (by omega) (by decide)), nI_c (by omega)]
      dsimp only [nm]
      rw [mD_k (by decide), h21, bnd_eq, nI_1]
      refine ih (i + 1) fu _ P (by omega) (by omega) ((hA.tr (Ag.d (Or.inl rfl))).tr (Ag.d (Or.inr ⟨rfl, rfl⟩))) mD_s (fun q hq => ?_) hK
      rw [mD_k (by decide)]
      by_cases e : q = i
      · subst e; exact mD_s
      · rw [mD_i e]; exact h3 q (by omega)
theorem read0X : (pRead (sch 0) 38).1 = some ([7], [-2, 5, -17], [2]) := by decide +kernel
def byM : List Int32 := [116, 117, 114, 110, 115, 32, 55, 32, 59, 32, 103, 105, 118, 101, 115, 32, 102, 105, 114, 115, 116, 32, 42, 32, 53, 32, 59, 32, 115, 112, 111, 105, 108, 115, 32, 50, 32, 59, 32, 32]
theorem read0M : (pRead (fun i => byM.getD i 0) 40).1 = some ([7], [-2, 5, -17], [2]) := by decide +kernel
/-- what is so of the class's object when it is made -/
def X0 (m : Mem) : Prop := ShX m ∧ mN m = 40 ∧ mS m ≤ 700 ∧ (mD m 0 2 = 0 ∧ mD m 0 0 = 0 ∧ mD m 0 6 = 0 ∧ mD m 0 5 = 1 ∧ mD m 2 1 = 0 ∧ mD m 8 0 = 0) ∧ (∀ s, s < 4 → mD m (28 + 2 * s) 0 = -1) ∧ mR m 6 0 = some 36 ∧ (∀ t, ¬ t = 0 → mR m 6 t = none) ∧ TX m 36 (Sof [7] [-2, 5, -17] [2])
theorem x_init2 : Rn (F_X5_init (mNew mEmpty 5 0 11) 0) (fun _ m => X0 m) := by
  refine x_init1 fun m0 S => ?_
  have hS := shX_of S
  have d0 : ∀ k i, k < 36 → lkD dlX k i = 0 → mD m0 k i = 0 := fun k i hk h => S.dd k i 0 ⟨Nat.zero_le _, by show k < 0 + 36; omega, h⟩
  refine x_init133 hS 38 0 FU m0 _ (by omega) (hFU (by omega)) Ag.rf (d0 2 1 (by omega) (by decide)) (fun q hq => absurd hq (Nat.not_lt_zero q)) fun y hA h21 h3 => ?_
  have hLX : LX (sch 0) 38 y := ⟨by omega, h21, h3⟩
  obtain ⟨m1, e1, a1, r1⟩ := x_read hLX
  rw [e1, bnd_eq]
  have S1 : ShX m1 := (hS.sh hA.1).sh a1.1
  obtain ⟨x1, x2, x3, x4, x5, x6⟩ := r1.2 _ _ _ read0X
  have N1 : mN m1 = 36 := by rw [a1.1.1, hA.1.1, S.1]; rfl
  have D1 : ∀ k i, ¬ k = 3 → ¬ (k = 2 ∧ i = 1) → ¬ pRd k i → mD m1 k i = mD m0 k i := fun k i h1 h2 h3 => by rw [a1.2 k i h3, hA.2 k i (by omega)]
  obtain ⟨m2, f1, f2, f3, f4, f5, f6, f7, f8, f9, f10, f11, f12, f13⟩ := x_keep (tc := 0) S1 (by omega) (by rw [D1 0 5 (by omega) (by omega) (by unfold pRd; omega), d0 0 5 (by omega) (by decide)]; rfl) (by omega) x1 x2
  refine Rn.gif (sx_k0 S1) ?_
  rw [f1, bnd_eq]
  refine Rn.ret ?_
  have D2 : ∀ k i, k < 36 → ¬ k = 3 → ¬ (k = 2 ∧ i = 1) → ¬ pRd k i → ¬ (k = 0 ∧ i = 5) → mD m2 k i = mD m0 k i := fun k i h0 h1 h2 h3 h4 => by rw [f5 k i (by omega) h4 h2, D1 k i h1 h2 h3]
  have RN : ∀ t, mR m0 6 t = none := fun t => by
    rw [S.2.2.1 6 t (Nat.zero_le _) (by rw [S.1]; decide)]; exact lkR_no rlX 6 t (by decide)
  have SN : ∀ s, s < 4 → 0 ≤ 28 + 2 * s ∧ 28 + 2 * s < 0 + tabX.length ∧ lkD dlX (28 + 2 * s) 0 = -1 := by decide
  have R1 : ∀ k i, mR m1 k i = mR m0 k i := fun k i => by rw [a1.1.2.2.2, hA.1.2.2.2]
  refine ⟨S1.keep (by omega) f10 f4 f8 f9 (fun t k hk => by rw [R1, RN] at hk; cases hk), by rw [f2, N1], by rw [f3, a1.1.2.1, hA.1.2.1, S.2.2.2.2.1]; decide, ⟨?_, ?_, ?_, by rw [f6]; rfl, f7, ?_⟩, fun s hs => ?_, by rw [f9, N1], fun t ht => ?_, ?_⟩
  · rw [D2 0 2 (by omega) (by omega) (by omega) (by unfold pRd; omega) (by omega)]; exact d0 0 2 (by omega) (by decide)
  · rw [D2 0 0 (by omega) (by omega) (by omega) (by unfold pRd; omega) (by omega)]; exact d0 0 0 (by omega) (by decide)
  · rw [D2 0 6 (by omega) (by omega) (by omega) (by unfold pRd; omega) (by omega)]; exact d0 0 6 (by omega) (by decide)
  · rw [D2 8 0 (by omega) (by omega) (by omega) (by unfold pRd; omega) (by omega)]; exact d0 8 0 (by omega) (by decide)
  · rw [D2 _ 0 (by omega) (by omega) (by omega) (by unfold pRd; omega) (by omega)]; exact S.dd _ _ _ (SN s hs)
  · rw [f8 6 t (by omega) (fun z => ht z.2), R1]; exact RN t
  · rw [N1] at f10 f11 f12 f13
    refine ⟨f10, Or.inl rfl, [7], [-2, 5, -17], [2], ?_, ?_, ?_, f11, by decide, fun q hq => ?_, fun E => ⟨rfl, rfl, rfl⟩⟩
    · rw [f13 0 (by omega)]; exact x4
    · rw [f13 1 (by omega)]; exact x5
    · rw [f13 2 (by omega)]; exact x6
    · rw [f12 q hq]; exact x3 q hq
theorem inv0 {m4 m : Mem} (h : X0 m4) (S : ST 40 m4 tabM rlM dlM (mS m4 + 38 + 1410) m) : Inv m := by
  obtain ⟨hS, hN, hs, ⟨d02, d00, d06, d05, d21, d80⟩, hsh, r60, r6n, hT⟩ := h
  obtain ⟨a1, a2, a3, a4, a5, a6⟩ := S
  have S : ST 40 m4 tabM rlM dlM (mS m4 + 38 + 1410) m := ⟨a1, a2, a3, a4, a5, a6⟩
  have aN : mN m = 54 := a1
  have dM : ∀ k i x, 40 ≤ k ∧ k < 40 + tabM.length ∧ lkD dlM k i = x → mD m k i = x := fun k i x h => S.dd k i x h
  have dX : ∀ k i, k < 40 → mD m k i = mD m4 k i := fun k i hk => by rw [(a6 k hk).2.1]
  have kX : ∀ k, k < 40 → mK m k = mK m4 k := fun k hk => (a6 k hk).1
  have rX : ∀ k i, k < 40 → mR m k i = mR m4 k i := fun k i hk => by rw [(a6 k hk).2.2]
  have hT' : TX m 36 (Sof [7] [-2, 5, -17] [2]) := hT.trF (fun i hi => kX _ (by omega)) (fun i => rX 36 i (by omega)) (fun i => dX 37 i (by omega)) (fun i => dX 38 i (by omega))
  have b41 : ∀ i, i < 40 → 40 ≤ 41 ∧ 41 < 40 + tabM.length ∧ lkD dlM 41 i = byM.getD i 0 := by decide
  have b50 : ∀ s, s < 4 → 40 ≤ 50 ∧ 50 < 40 + tabM.length ∧ lkD dlM 50 s = 0 := by decide
  have pos : ∀ i, i < 40 → (0 : Int32) ≤ byM.getD i 0 := by decide
  refine ⟨?_, 0, 1, 0, (fun _ => 36), (fun _ => Sof [7] [-2, 5, -17] [2]), ⟨by omega, by omega, by omega, by omega, ?_, dM 40 10 _ (by decide), ?_, ?_, fun i hi => absurd hi (Nat.not_lt_zero i), ?_, dM 40 4 _ (by decide), ?_, dM 40 3 _ (by decide)⟩, fun t ht => ?_, ⟨0, by omega, ?_, dM 40 6 _ (by decide), fun i hi => absurd hi (Nat.not_lt_zero i)⟩, fun s hs4 => Or.inl ⟨?_, dM 50 s _ (b50 s hs4)⟩, Or.inl ⟨?_, dM 40 31 _ (by decide)⟩, aN, by rw [a5]; omega, fun t k hk => ?_, shM_of S⟩
  · obtain ⟨g1, g2, g3, g4, g5, g7⟩ := hS
    have xb : ∀ z ∈ xK, z.1 < 40 := by decide
    have rb : ∀ z ∈ xR, z.1.1 < 40 := by decide
    refine ⟨fun z hz => by rw [kX _ (xb z hz)]; exact g1 z hz, fun z hz => by rw [rX _ _ (rb z hz)]; exact g2 z hz, fun i hi => by rw [rX 1 i (by omega), kX _ (by omega)]; exact g3 i hi, fun i hi => by rw [rX 9 i (by omega), kX _ (by omega)]; exact g4 i hi, fun i hi => ?_, fun i k hk => ?_⟩
    · obtain ⟨u1, u2, u3, u4⟩ := g5 i hi
      exact ⟨by rw [rX 7 i (by omega)]; exact u1, by rw [kX _ (by omega)]; exact u2, by rw [rX _ _ (by omega)]; exact u3, by rw [kX _ (by omega)]; exact u4⟩
    · rw [rX 6 i (by omega)] at hk
      by_cases e : i = 0
      · subst e; rw [r60] at hk; cases hk; exact hT'.1
      · rw [r6n i e] at hk; cases hk
  · rw [dX 0 2 (by omega)]; exact d02
  · rw [dX 0 0 (by omega), d00, dM 40 7 0 (by decide)]
  · rw [dM 40 7 0 (by decide)]; decide
  · rw [dX 0 6 (by omega)]; exact d06
  · rw [dX 0 5 (by omega)]; exact d05
  · have : t = 0 := by omega
    subst this
    exact ⟨by rw [rX 6 0 (by omega)]; exact r60, hT', ⟨fun i => byM.getD i 0, 40, [7], [-2, 5, -17], [2], by omega, dM 42 0 _ (by decide), fun i hi => by rw [show 160 * 0 + i = i by omega]; exact dM 41 i _ (b41 i hi), pos, read0M, fun E => ⟨rfl, rfl, rfl⟩⟩⟩
  · rw [dX 2 1 (by omega)]; exact d21
  · rw [dX _ 0 (by omega)]; exact hsh s hs4
  · rw [dX 8 0 (by omega)]; exact d80
  · rw [rX 6 t (by omega)] at hk
    by_cases e : t = 0
    · subst e; rw [r60] at hk; cases hk; omega
    · rw [r6n t e] at hk; cases hk
