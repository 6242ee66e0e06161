/-! text -/
def pTf (tc k i : Nat) : Prop := (k = 41 ∧ 160 * tc ≤ i ∧ i < 160 * tc + 160) ∨ (k = 42 ∧ i = tc) ∨ (k = 40 ∧ i = 6)
noncomputable def txK (tc : Nat) (m3 : Mem) : Option (Int32 × Mem) := bnd (F_X6_read m3 (nI tc) 0) fun _ m7 => if mD m7 40 24 = 0 then nm (wD m7 40 3 (mD m7 40 3 + 1)) fun m11 => some (mD m11 40 3 - 1, m11) else some (-100 - mD m7 40 25, m7)
theorem m_textL {m0 : Mem} {tc tn : Nat} {B : Nat → Int32} (htc : tc < 6) (htn : tn ≤ 160) (h3 : mD m0 40 3 = nI tc) (h6 : mD m0 40 6 = nI tn) (hB : ∀ i, i < tn → mD m0 43 i = B i) : ∀ (r i fu : Nat) (x : Mem), i + r = tn → r < fu → Ag (pTf tc) m0 x → mD x 40 6 = nI tn → (∀ q, q < i → mD x 41 (160 * tc + q) = B q) → ∃ m3, F_X6_text_14 fu x (nI i) = txK tc m3 ∧ Ag (pTf tc) m0 m3 ∧ mD m3 40 6 = 0 ∧ mD m3 42 tc = nI tn ∧ ∀ i, i < tn → mD m3 41 (160 * tc + i) = B i := by
  intro r
  induction r with
  | zero =>
    intro i fu x hi hf hA hx6 h41
    cases fu with
    | zero => omega
    | succ fu =>
      have : i = tn := by omega
      subst this
      have x3 : mD x 40 3 = nI tc := by rw [hA.2 40 3 (by unfold pTf; omega)]; exact h3
      refine ⟨wD (wD x 42 tc (nI i)) 40 6 0, ?_, (hA.tr (Ag.d (Or.inr (Or.inl ⟨rfl, rfl⟩)))).tr (Ag.d (Or.inr (Or.inr ⟨rfl, rfl⟩))), mD_s, ?_, fun q hq => ?_⟩
      · unfold F_X6_text_14
        rw [hx6, if_pos (Int32.le_refl _), x3, gIf_pos (vp_n htc (by decide)), nI_c (by omega)]
        dsimp only [nm]
        rw [mD_i (by decide), mD_k (by decide), x3]
        rfl
      · rw [mD_k (by decide), mD_s]
      · rw [mD_k (by decide), mD_k (by decide)]; exact h41 q hq
  | succ r ih =>
    intro i fu x hi hf hA hx6 h41
    cases fu with
    | zero => omega
    | succ fu =>
      have x3 : mD x 40 3 = nI tc := by rw [hA.2 40 3 (by unfold pTf; omega)]; exact h3
      unfold F_X6_text_14
      rw [hx6, if_neg (nI_ge (show i < tn by omega) (by omega)), x3, m160, nI_ad, gIf_pos (vp_n (show i < 160 by omega) (by decide)), gIf_pos (vp_n (show 160 * tc + i < 960 by omega) (by decide)), nI_c (by omega), nI_c (by omega), nI_1, hA.2 43 i (by unfold pTf; omega), hB i (by omega)]
      dsimp only [nm]
      refine ih (i + 1) fu _ (by omega) (by omega) (hA.tr (Ag.d (Or.inl ⟨rfl, by omega, by omega⟩))) (by rw [mD_k (by decide)]; exact hx6) (fun q hq => ?_)
      by_cases e : q = i
      · subst e; exact mD_s
      · rw [mD_i (by omega)]; exact h41 q (by omega)
def envM (m : Mem) : Int32 → Int32 := fun x => if x = -1 then mD m 40 11 else if x = -2 then mD m 40 12 else if x = -3 then mD m 40 13 else if x = -4 then mD m 40 14 else if x = -5 then mD m 40 15 else mD m 40 16
theorem envM_EM (m : Mem) : EM (envM m) m := ⟨rfl, rfl, rfl, rfl, rfl, rfl⟩
theorem m_text0 {m : Mem} {tc tn : Nat} {B : Nat → Int32} (htc : tc < 6) (htn : tn ≤ 160) (h3 : mD m 40 3 = nI tc) (h6 : mD m 40 6 = nI tn) (hB : ∀ i, i < tn → mD m 43 i = B i) (h0 : ∀ i, i < tn → (0 : Int32) ≤ B i) : ((pRead B tn).1 = none → Ev (fun k i => pTf tc k i ∨ pRe k i) (fun x => mD x 40 6 = 0) (F_X6_text m) m (-100 - nI (pRead B tn).2.2.1)) ∧ (∀ c0 c1 c2, (pRead B tn).1 = some (c0, c1, c2) → Ev (fun k i => pTf tc k i ∨ pRe k i ∨ (k = 40 ∧ i = 3)) (fun x => mD x 40 6 = 0 ∧ mD x 40 3 = nI (tc + 1) ∧ mD x 42 tc = nI tn ∧ ∀ i, i < tn → mD x 41 (160 * tc + i) = B i) (F_X6_text m) m (nI tc)) := by
  obtain ⟨m3, e3, a3, q6, q42, q41⟩ := m_textL htc htn h3 h6 hB tn 0 FU m (by omega) (hFU (by omega)) Ag.rf h6 (fun q hq => absurd hq (Nat.not_lt_zero q))
  have et : F_X6_text m = txK tc m3 := by
    unfold F_X6_text
    rw [h3, if_neg (show ¬ nI tc = 6 from fun z => by have := (nI_eq (b := 6) (by omega) (by omega)).mp z; omega)]; exact e3
  obtain ⟨w, m4, e4, a4, r4⟩ := m_read (m := m3) (B := B) (n := tn) (t := tc) htn htc q42 q41 h0 (envM_EM m3) 0
  rw [et]
  unfold txK
  rw [e4, bnd_eq]
  have A4 : Ag (fun k i => pTf tc k i ∨ pRe k i) m m4 := (a3.mono fun _ _ z => Or.inl z).tr (a4.mono fun _ _ z => Or.inr z)
  refine ⟨fun hn => ?_, fun c0 c1 c2 hc => ?_⟩
  · obtain ⟨f1, f2⟩ := r4.2 hn
    rw [f1, if_neg (by decide), f2]
    exact Ev.step A4 (Ev.ret (by rw [a4.2 40 6 (by unfold pRe; omega)]; exact q6))
  · obtain ⟨f1, -⟩ := r4.1 c0 c1 c2 hc
    have g3 : mD m4 40 3 = nI tc := by rw [a4.2 40 3 (by unfold pRe; omega), a3.2 40 3 (by unfold pTf; omega)]; exact h3
    rw [f1, if_pos rfl, g3, nI_1]
    refine Ev.step (A4.mono fun k i z => by rcases z with z | z; exact Or.inl z; exact Or.inr (Or.inl z)) (Ev.namW (Or.inr (Or.inr ⟨rfl, rfl⟩)) ?_)
    rw [mD_s, nI_pred]
    refine Ev.ret ⟨?_, mD_s, ?_, fun i hi => ?_⟩
    · rw [mD_i (by decide), a4.2 40 6 (by unfold pRe; omega)]; exact q6
    · rw [mD_k (by decide), a4.2 42 tc (by unfold pRe; omega)]; exact q42
    · rw [mD_k (by decide), a4.2 41 _ (by unfold pRe; omega)]; exact q41 i hi
theorem x_textE {m : Mem} {tc : Nat} (hS : ShX m) (h05 : mD m 0 5 = nI tc) (htc : tc < 6) : F_X5_text m 0 = bnd (F_X3_read m) fun v11 m12 => if v11 = -1 then gIf (mK m12 0 = (5, 0)) <| bnd (F_X5_keepText m12 0) fun v17 m18 => gIf (mK m18 0 = (5, 0)) <| some (mD m18 0 5 - 1, m18) else gIf (mK m12 0 = (5, 0)) <| gRef (mR m12 0 3) fun r23 => gIf (mK m12 r23 = (3, 0)) <| nm (wD m12 r23 1 0) fun m26 => some (-100 - v11, m26) := by
  unfold F_X5_text
  rw [gIf_pos (sx_k0 hS), gIf_pos (sx_k0 hS), gRef_some (sx_r0_4 hS), sx_k6 hS, gIf_pos rfl, h05, if_pos (show nI tc < Int32.ofNat ((11, 6) : Nat × Nat).2 from nI_lt (b := 6) htc (by omega)), gIf_pos (sx_k0 hS), gRef_some (sx_r0_3 hS), gIf_pos ⟨rfl, hS⟩]
theorem MTx.agF {m m' : Mem} {t : Nat} {S : Nat → (Int32 → Int32) → Int32} (h : MTx m t S) (h41 : ∀ i, i < 160 → mD m' 41 (160 * t + i) = mD m 41 (160 * t + i)) (h42 : mD m' 42 t = mD m 42 t) : MTx m' t S := by
  obtain ⟨B, n, c0, c1, c2, e1, e2, e3, e4, e5, e6⟩ := h
  exact ⟨B, n, c0, c1, c2, e1, by rw [h42]; exact e2, fun i hi => by rw [h41 i (by omega)]; exact e3 i hi, e4, e5, e6⟩
theorem TX.trF {m m' : Mem} {q : Nat} {S : Nat → (Int32 → Int32) → Int32} (h : TX m q S) (hK : ∀ i, i < 4 → mK m' (q + i) = mK m (q + i)) (hR : ∀ i, mR m' q i = mR m q i) (h1 : ∀ i, mD m' (q + 1) i = mD m (q + 1) i) (h2 : ∀ i, mD m' (q + 2) i = mD m (q + 2) i) : TX m' q S := by
  obtain ⟨⟨t1, t2, t3, t4, t5, t6, t7⟩, u, c0, c1, c2, e0, e1, e2, e3, e4, e5, e6⟩ := h
  have k0 := hK 0 (by omega)
  have k1 := hK 1 (by omega)
  have k2 := hK 2 (by omega)
  have k3 := hK 3 (by omega)
  rw [Nat.add_zero] at k0
  exact ⟨⟨by rw [k0]; exact t1, by rw [hR]; exact t2, by rw [hR]; exact t3, by rw [hR]; exact t4, by rw [k1]; exact t5, by rw [k2]; exact t6, by rw [k3, k1]; exact t7⟩, u, c0, c1, c2, by rw [h2]; exact e0, by rw [h2]; exact e1, by rw [h2]; exact e2, by rw [k1]; exact e3, e4, fun j hj => by rw [h1]; exact e5 j hj, e6⟩
theorem isT.trF {m m' : Mem} {q : Nat} (h : isT m q) (hK : ∀ i, i < 4 → mK m' (q + i) = mK m (q + i)) (hR : ∀ i, mR m' q i = mR m q i) : isT m' q := by
  obtain ⟨t1, t2, t3, t4, t5, t6, t7⟩ := h
  have k0 := hK 0 (by omega)
  have k1 := hK 1 (by omega)
  have k2 := hK 2 (by omega)
  have k3 := hK 3 (by omega)
  rw [Nat.add_zero] at k0
  exact ⟨by rw [k0]; exact t1, by rw [hR]; exact t2, by rw [hR]; exact t3, by rw [hR]; exact t4, by rw [k1]; exact t5, by rw [k2]; exact t6, by rw [k3, k1]; exact t7⟩
theorem Im.up {n tc : Nat} {m : Mem} (h : Im n tc m) : Im n (tc + 1) m := by
  rcases h with h | ⟨z1, kn, jk, z2, z3, z4⟩
  · exact Or.inl h
  · exact Or.inr ⟨z1, kn, jk, z2, by omega, z4⟩
/-- what three lists of steps say -/
def Sof (c0 c1 c2 : List Int32) : Nat → (Int32 → Int32) → Int32 := fun p E => (runS E (if p = 0 then c0 else if p = 1 then c1 else c2) []).headD 0
theorem ShX.keep {m m' : Mem} {tc q : Nat} (hS : ShX m) (hN : 36 ≤ mN m) (hq : isT m' q) (hK : ∀ k, k < mN m → mK m' k = mK m k) (hR : ∀ k i, k < mN m → ¬ (k = 6 ∧ i = tc) → mR m' k i = mR m k i) (h6 : mR m' 6 tc = some q) (hT : ∀ t k, mR m 6 t = some k → k + 3 < mN m ∧ ¬ k = 6) : ShX m' := by
  obtain ⟨h1, h2, h3, h4, h5, h7⟩ := hS
  have xb : ∀ z ∈ xK, z.1 < 36 := by decide
  have rb : ∀ z ∈ xR, z.1.1 < 36 ∧ ¬ z.1.1 = 6 := by decide
  refine ⟨fun z hz => by rw [hK _ (by have := xb z hz; omega)]; exact h1 z hz, fun z hz => by rw [hR _ _ (by have := (rb z hz).1; omega) (fun w => (rb z hz).2 w.1)]; exact h2 z hz, fun i hi => ?_, fun i hi => ?_, fun i hi => ?_, fun i k hk => ?_⟩
  · rw [hR 1 i (by omega) (by omega), hK (20 + i) (by omega)]; exact h3 i hi
  · rw [hR 9 i (by omega) (by omega), hK (10 + i) (by omega)]; exact h4 i hi
  · obtain ⟨g1, g2, g3, g4⟩ := h5 i hi
    exact ⟨by rw [hR 7 i (by omega) (by omega)]; exact g1, by rw [hK _ (by omega)]; exact g2, by rw [hR _ _ (by omega) (by omega)]; exact g3, by rw [hK _ (by omega)]; exact g4⟩
  · by_cases e : i = tc
    · subst e
      rw [h6] at hk
      cases hk
      exact hq
    · rw [hR 6 i (by omega) (fun z => e z.2)] at hk
      obtain ⟨u1, u2⟩ := hT i k hk
      exact (h7 i k hk).trF (fun x hx => hK _ (by omega)) (fun x => hR k x (by omega) (fun z => u2 z.1))
theorem pRead_le {B : Nat → Int32} {n : Nat} : (pRead B n).2.2.1 ≤ n := by
  have o := (tok_ok (B := B) (Nat.zero_le n)).1
  have g1 := (pPart_gd (B := B) (n := n) (w := -7) (by decide) _ o).1
  unfold pRead
  cases h1 : pPart B n (-7) (tok B n 0) with
  | mk r1 s1 =>
    rw [h1] at g1
    cases r1 with
    | none => exact g1.1
    | some c0 =>
      dsimp only
      have g2 := (pPart_gd (B := B) (n := n) (w := -8) (by decide) s1 g1).1
      cases h2 : pPart B n (-8) s1 with
      | mk r2 s2 =>
        rw [h2] at g2
        cases r2 with
        | none => exact g2.1
        | some c1 =>
          dsimp only
          have g3 := (pPart_gd (B := B) (n := n) (w := -9) (by decide) s2 g2).1
          cases h3 : pPart B n (-9) s2 with
          | mk r3 s3 =>
            rw [h3] at g3
            cases r3 with
            | none => exact g3.1
            | some c2 =>
              dsimp only
              split
              · exact g3.1
              · exact g3.1
theorem pm_text (m : Mem) (hI : Inv m) : ∃ w m1 m2, F_X5_text m 0 = some (w, m1) ∧ (ShX m1 ∧ ShM m1) ∧ F_X6_text m1 = some (w, m2) ∧ Inv m2 := by
  obtain ⟨n, tc, j, TQ, TS, ⟨hS, hC, hT, ⟨tn, t1, t2, t3, t4⟩, hSt, hIm, hR⟩, -⟩ := hI.open_
  have hC' := hC
  obtain ⟨h1, h2, h3, h4, h5, h6, h7, h8, h9, h10, h11, h12, h13⟩ := hC
  obtain ⟨R1, R2, R3, R4⟩ := hR
  by_cases hfull : tc = 6
  · subst hfull
    refine ⟨-4, m, m, ?_, ⟨hS, R4⟩, ?_, hI⟩
    · show F_X5_text m 0 = _
      unfold F_X5_text
      rw [gIf_pos (sx_k0 hS), gIf_pos (sx_k0 hS), gRef_some (sx_r0_4 hS), sx_k6 hS, gIf_pos rfl, h12, if_neg (by decide)]
    · show F_X6_text m = _
      unfold F_X6_text; rw [h13, if_pos (by decide)]
  · have htc : tc < 6 := by omega
    have hLX : LX (fun i => mD m 3 i) tn m := ⟨t1, t2, fun _ _ => rfl⟩
    have hB0 : ∀ i, i < tn → (0 : Int32) ≤ mD m 3 i := fun i hi => by
      rw [(t4 i hi).1]
      have := btw_iff.mp (t4 i hi).2
      rw [Int32.le_iff_toInt_le, show (0 : Int32).toInt = 0 from rfl]; omega
    obtain ⟨m1, e1, a1, r1⟩ := x_read hLX
    have eX := x_textE hS h12 htc
    rw [e1, bnd_eq] at eX
    have S1 : ShX m1 := hS.sh a1.1
    cases hp : (pRead (fun i => mD m 3 i) tn).1 with
    | none =>
      rw [hp] at eX
      dsimp only at eX
      have pl : (pRead (fun i => mD m 3 i) tn).2.2.1 < 1000 := by
        have := pRead_le (B := fun i => mD m 3 i) (n := tn); omega
      rw [if_neg (nI_nm1 pl), gIf_pos (sx_k0 S1), gRef_some (sx_r0_3 S1), gIf_pos (sx_k2 S1)] at eX
      have A1 : Ag (fun k _ => k = 2 ∨ k = 4 ∨ k = 5) m (wD m1 2 1 0) := (a1.mono fun k i z => by unfold pRd at z; omega).tr (Ag.d (Or.inl rfl))
      obtain ⟨hM, -⟩ := m_text0 (m := wD m1 2 1 0) (B := fun i => mD m 3 i) htc t1 (by rw [A1.2 40 3 (by omega)]; exact h13) (by rw [A1.2 40 6 (by omega)]; exact t3) (fun i hi => by rw [A1.2 43 i (by omega)]; exact (t4 i hi).1.symm) hB0
      obtain ⟨m2, e2, a2, q6⟩ := hM hp
      have A2 : Ag (fun k i => (k = 2 ∨ k = 4 ∨ k = 5) ∨ (pTf tc k i ∨ pRe k i)) m m2 := (A1.mono fun _ _ z => Or.inl z).tr (a2.mono fun _ _ z => Or.inr z)
      refine ⟨-100 - nI (pRead (fun i => mD m 3 i) tn).2.2.1, wD m1 2 1 0, m2, eX, ⟨hS.sh A1.1, R4.sh A1.1⟩, e2, hS.sh A2.1, n, tc, j, TQ, TS, hC'.ag A2 (fun k i z => by unfold pTf pRe at z; unfold plCo; omega), fun t ht => ?_, ⟨0, by omega, ?_, ?_, fun i hi => absurd hi (Nat.not_lt_zero i)⟩, hSt.ag A2 (fun k i z => by unfold pTf pRe at z; unfold plSt; omega), hIm.ag A2 h1 (fun k i z => by unfold pTf pRe at z; unfold plIm; omega), Rm.sh ⟨R1, R2, R3, R4⟩ A2.1⟩
      · obtain ⟨u1, u2, u3⟩ := hT t ht
        have hq := u2.2.1
        unfold isTc at hq
        exact ⟨by rw [A2.1.2.2.2]; exact u1, u2.ag A2 (fun i => by unfold pTf pRe; omega) (fun i => by unfold pTf pRe; omega), u3.agF (fun i hi => A2.2 41 _ (by unfold pTf pRe; omega)) (A2.2 42 t (by unfold pTf pRe; omega))⟩
      · rw [a2.2 2 1 (by unfold pTf pRe; omega), mD_s]; rfl
      · rw [q6]; rfl
    | some cc =>
      obtain ⟨c0, c1, c2⟩ := cc
      rw [hp] at eX
      dsimp only at eX
      obtain ⟨x1, x2, x3, x4, x5, x6⟩ := r1.2 c0 c1 c2 hp
      have N1 : mN m1 = mN m := a1.1.1
      have b05 : mD m1 0 5 = nI tc := by rw [a1.2 0 5 (by unfold pRd; omega)]; exact h12
      obtain ⟨m2, f1, f2, f3, f4, f5, f6, f7, f8, f9, f10, f11, f12, f13⟩ := x_keep S1 (by omega) b05 htc x1 x2
      rw [if_pos rfl, gIf_pos (sx_k0 S1), f1, bnd_eq, gIf_pos (by rw [f4 0 (by omega)]; exact sx_k0 S1), f6, nI_pred] at eX
      -- what is the same
      have D2 : ∀ k i, k < mN m → ¬ pRd k i → ¬ (k = 0 ∧ i = 5) → ¬ (k = 2 ∧ i = 1) → mD m2 k i = mD m k i := fun k i h1 h2 h3 h4 => by
        rw [f5 k i (by omega) h3 h4, a1.2 k i h2]
      obtain ⟨-, hM⟩ := m_text0 (m := m2) (B := fun i => mD m 3 i) htc t1 (by rw [D2 40 3 (by omega) (by unfold pRd; omega) (by omega) (by omega)]; exact h13) (by rw [D2 40 6 (by omega) (by unfold pRd; omega) (by omega) (by omega)]; exact t3) (fun i hi => by rw [D2 43 i (by omega) (by unfold pRd; omega) (by omega) (by omega)]; exact (t4 i hi).1.symm) hB0
      obtain ⟨m3, e3, a3, q6, q3, q42, q41⟩ := hM c0 c1 c2 hp
      have D3 : ∀ k i, k < mN m → ¬ pRd k i → ¬ (k = 0 ∧ i = 5) → ¬ (k = 2 ∧ i = 1) → ¬ pTf tc k i → ¬ pRe k i → ¬ (k = 40 ∧ i = 3) → mD m3 k i = mD m k i := fun k i h1 h2 h3 h4 h5 h6 h7 => by
        rw [a3.2 k i (by rintro (z | z | z); exact h5 z; exact h6 z; exact h7 z), D2 k i h1 h2 h3 h4]
      have K3 : ∀ k, k < mN m → mK m3 k = mK m k := fun k hk => by rw [a3.1.2.2.1, f4 k (by omega), a1.1.2.2.1]
      have RR3 : ∀ k i, k < mN m → ¬ (k = 6 ∧ i = tc) → mR m3 k i = mR m k i := fun k i hk hz => by rw [a3.1.2.2.2, f8 k i (by omega) hz, a1.1.2.2.2]
      have T3 : isT m3 (mN m) := by rw [← N1]; exact f10.sh a3.1
      have R6 : mR m3 6 tc = some (mN m) := by rw [a3.1.2.2.2, f9, N1]
      have old : ∀ t k, mR m 6 t = some k → k + 3 < mN m ∧ ¬ k = 6 := fun t k hk => by
        refine ⟨(R3 t k hk).2, fun z => ?_⟩
        have := sx_e6 hS hk
        rw [z] at this
        have h6' := sx_k6 hS
        rw [this.1] at h6'
        cases h6'
      have eF : Ag (fun k i => ¬ (k < mN m ∧ ¬ pRd k i ∧ ¬ (k = 0 ∧ i = 5) ∧ ¬ (k = 2 ∧ i = 1) ∧ ¬ pTf tc k i ∧ ¬ pRe k i ∧ ¬ (k = 40 ∧ i = 3))) m ((mN m, mS m, mK m, mD m3, mL m, mR m) : Mem) := ⟨⟨rfl, rfl, rfl, rfl⟩, fun k i hz => by
        have := Classical.not_not.mp hz
        exact D3 k i this.1 this.2.1 this.2.2.1 this.2.2.2.1 this.2.2.2.2.1 this.2.2.2.2.2.1 this.2.2.2.2.2.2⟩
      have e : ∀ k i, plCo k i → ¬ (k = 0 ∧ i = 5) → ¬ (k = 40 ∧ i = 3) → mD m3 k i = mD m k i := fun k i hk g1 g2 => D3 k i (by unfold plCo at hk; omega) (by unfold plCo at hk; unfold pRd; omega) g1 (by unfold plCo at hk; omega) (by unfold plCo at hk; unfold pTf; omega) (by unfold plCo at hk; unfold pRe; omega) g2
      have M2 : ShM m2 := by
        have kb : ∀ z ∈ mmK, z.1 < 54 := by decide
        have rb : ∀ z ∈ mmR, z.1.1 < 54 ∧ ¬ z.1.1 = 6 := by decide
        exact ⟨fun z hz => by rw [f4 _ (by have := kb z hz; omega), a1.1.2.2.1]; exact R4.1 z hz, fun z hz => by rw [f8 _ _ (by have := (rb z hz).1; omega) (fun w => (rb z hz).2 w.1), a1.1.2.2.2]; exact R4.2 z hz⟩
      have X2 : ShX m2 := hS.keep (q := mN m1) (by omega) f10 (fun k hk => by rw [f4 k (by omega), a1.1.2.2.1]) (fun k i hk hz => by rw [f8 k i (by omega) hz, a1.1.2.2.2]) f9 old
      refine ⟨nI tc, m2, m3, eX, ⟨X2, M2⟩, e3, hS.keep (by omega) T3 K3 RR3 R6 old, n, tc + 1, j, (fun t => if t = tc then mN m else TQ t), (fun t => if t = tc then Sof c0 c1 c2 else TS t), ⟨h1, by omega, by omega, by omega, ?_, ?_, ?_, ?_, fun i hi => ?_, ?_, ?_, ?_, q3⟩, fun t ht => ?_, ⟨0, by omega, ?_, by rw [q6]; rfl, fun i hi => absurd hi (Nat.not_lt_zero i)⟩, ?_, ?_, ?_, ?_, fun t k hk => ?_, M2.sh a3.1⟩
      · rw [e 0 2 (by unfold plCo; omega) (by omega) (by omega)]; exact h5
      · rw [e 40 10 (by unfold plCo; omega) (by omega) (by omega)]; exact h6
      · rw [e 0 0 (by unfold plCo; omega) (by omega) (by omega), e 40 7 (by unfold plCo; omega) (by omega) (by omega)]; exact h7
      · rw [e 40 7 (by unfold plCo; omega) (by omega) (by omega)]; exact h8
      · have e1 : mD m3 (20 + i) = mD m (20 + i) := funext fun f => e _ _ (by unfold plCo; omega) (by omega) (by omega)
        have e2 : mrow m3 i = mrow m i := by
          funext f; unfold mrow; rw [e 44 i (by unfold plCo; omega) (by omega) (by omega), e 45 _ (by unfold plCo; omega) (by omega) (by omega)]
        rw [e1, e2]; exact h9 i hi
      · rw [e 0 6 (by unfold plCo; omega) (by omega) (by omega)]; exact h10
      · rw [e 40 4 (by unfold plCo; omega) (by omega) (by omega)]; exact h11
      · rw [a3.2 0 5 (by unfold pTf pRe; omega)]; exact f6
      · dsimp only
        by_cases et : t = tc
        · subst et
          rw [if_pos rfl, if_pos rfl]
          refine ⟨R6, ⟨T3, Or.inr ⟨by omega, by omega⟩, c0, c1, c2, ?_, ?_, ?_, ?_, x2, fun q hq => ?_, fun E => ⟨rfl, rfl, rfl⟩⟩, ⟨fun i => mD m 3 i, tn, c0, c1, c2, t1, q42, q41, hB0, hp, fun E => ⟨rfl, rfl, rfl⟩⟩⟩
          · rw [a3.2 _ 0 (by unfold pTf pRe; omega), ← N1, f13 0 (by omega)]; exact x4
          · rw [a3.2 _ 1 (by unfold pTf pRe; omega), ← N1, f13 1 (by omega)]; exact x5
          · rw [a3.2 _ 2 (by unfold pTf pRe; omega), ← N1, f13 2 (by omega)]; exact x6
          · rw [a3.1.2.2.1, ← N1]; exact f11
          · rw [a3.2 _ q (by unfold pTf pRe; omega), ← N1, f12 q hq]; exact x3 q hq
        · rw [if_neg et, if_neg et]
          obtain ⟨u1, u2, u3⟩ := hT t (by omega)
          obtain ⟨o1, o2⟩ := R3 t (TQ t) u1
          have hq := u2.2.1
          unfold isTc at hq
          refine ⟨by rw [RR3 6 t (by omega) (fun z => et z.2)]; exact u1, u2.trF (fun i hi => K3 _ (by omega)) (fun i => RR3 _ i (by omega) (by omega)) (fun i => D3 _ i (by omega) (by unfold pRd; omega) (by omega) (by omega) (by unfold pTf; omega) (by unfold pRe; omega) (by omega)) (fun i => D3 _ i (by omega) (by unfold pRd; omega) (by omega) (by omega) (by unfold pTf; omega) (by unfold pRe; omega) (by omega)), u3.agF (fun i hi => D3 41 _ (by omega) (by unfold pRd; omega) (by omega) (by omega) (by unfold pTf; omega) (by unfold pRe; omega) (by omega)) (D3 42 t (by omega) (by unfold pRd; omega) (by omega) (by omega) (by unfold pTf; omega) (by unfold pRe; omega) (by omega))⟩
      · rw [a3.2 2 1 (by unfold pTf pRe; omega), f7]; rfl
      · exact (hSt.ag eF (fun k i z hk => z (by unfold plSt at hk; unfold pRd pTf pRe; omega)) : St ((mN m, mS m, mK m, mD m3, mL m, mR m) : Mem))
      · exact (hIm.ag eF h1 (fun k i z hk => z (by unfold plIm at hk; unfold pRd pTf pRe; omega)) : Im n tc ((mN m, mS m, mK m, mD m3, mL m, mR m) : Mem)).up
      · rw [a3.1.1, f2, N1]; omega
      · rw [a3.1.2.1, f3, a1.1.2.1]; omega
      · have en : mN m3 = mN m + 4 := by rw [a3.1.1, f2, N1]
        by_cases et : t = tc
        · subst et
          rw [R6] at hk; cases hk
          omega
        · rw [RR3 6 t (by omega) (fun z => et z.2)] at hk
          obtain ⟨o1, o2⟩ := R3 t k hk
          omega
