/-! the host's sheets -/
def pXs (s k : Nat) (_ : Nat) : Prop := k = 28 + 2 * s ∨ k = 29 + 2 * s
def pMs (s k i : Nat) : Prop := ((k = 50 ∨ k = 51 ∨ k = 52) ∧ i = s) ∨ (k = 53 ∧ 40 * s ≤ i ∧ i < 40 * s + 40)
theorem inv_sheet {m m1 m2 : Mem} {n tc j s : Nat} {TQ : Nat → Nat} {TS : Nat → Nat → (Int32 → Int32) → Int32} (hs : s < 4) (hI : ShX m ∧ Co n tc j m ∧ Tx tc TQ TS m ∧ Tp m ∧ St m ∧ Im n tc m ∧ Rm tc m) (a1 : Ag (fun k i => pX k i ∨ pXs s k i) m m1) (a2 : Ag (fun k i => pSc k i ∨ pMs s k i) m1 m2) (h : St1 s m2) : Inv m2 := by
  obtain ⟨hS, hC, hT, hP, hSt, hIm, hR⟩ := hI
  have a : Ag (fun k i => (pX k i ∨ pXs s k i) ∨ (pSc k i ∨ pMs s k i)) m m2 := (a1.mono fun _ _ z => Or.inl z).tr (a2.mono fun _ _ z => Or.inr z)
  refine ⟨hS.sh a.1, n, tc, j, TQ, TS, hC.ag a (fun k i z => by unfold pX pSt pXs pSc pMs at z; unfold plCo; omega), hT.ag a (fun k i z => by unfold pX pSt pXs pSc pMs at z; unfold plTx; omega), hP.ag a (fun k i z => by unfold pX pSt pXs pSc pMs at z; unfold plTp; omega), fun s' hs' => ?_, hIm.ag a hC.1 (fun k i z => by unfold pX pSt pXs pSc pMs at z; unfold plIm; omega), hR.sh a.1⟩
  by_cases e : s' = s
  · subst e; exact h
  · exact (hSt s' hs').ag hs' a (fun k i z => by unfold pX pSt pXs pSc pMs at z; omega)
theorem x_fill {m : Mem} {q : Nat} (hK : mK m q = (7, 40)) : ∃ m', F_J7_fill_53178 m q 0 = some ((), m') ∧ Ag (fun k _ => k = q) m m' ∧ ∀ i, i < 40 → mD m' q i = 0 := by
  unfold F_J7_fill_53178
  dsimp only [nm]
  have key : Ev (fun k _ => k = q) (fun x => ∀ i, i < 40 → mD x q i = 0) (F_J7_fill_53178_5 FU m q 0 0 (nI 40)) m () := by
    refine Ev.loop (σ := Unit) (P := fun k _ => k = q) (Q := fun x => ∀ i, i < 40 → mD x q i = 0) (L := fun fu m _ i => F_J7_fill_53178_5 fu m q 0 i (nI 40)) (n := 40) (st := fun _ s => s) (ex := id) (RR := fun i x => mK x q = (7, 40) ∧ ∀ j, j < i → mD x q j = 0) (fun fu x s h => ?_) (fun fu x s i hi h w hw => ?_) 40 0 FU m () (by omega) (hFU (by omega)) ⟨hK, fun j hj => absurd hj (Nat.not_lt_zero j)⟩
    · show Ev (fun k _ => k = q) _ (F_J7_fill_53178_5 (fu + 1) x q 0 (nI 40) (nI 40)) x ()
      unfold F_J7_fill_53178_5
      rw [if_pos (Int32.le_refl _)]; exact Ev.ret h.2
    · show Ev (fun k _ => k = q) _ (F_J7_fill_53178_5 (fu + 1) x q 0 (nI i) (nI 40)) x w
      unfold F_J7_fill_53178_5
      rw [if_neg (nI_ge hi (by omega)), h.1, gIf_pos (vp_n hi (by decide)), nI_c (by omega), nI_1]
      refine Ev.namW rfl (hw _ ⟨h.1, fun j hj => ?_⟩)
      by_cases e : j = i
      · subst e; exact mD_s
      · rw [mD_i e]; exact h.2 j (by omega)
  obtain ⟨m', e1, e2, e3⟩ := key
  rw [hK]
  exact ⟨m', e1, e2, e3⟩
theorem x_shbec {m : Mem} (hS : ShX m) {s : Nat} (hs : s < 4) (so n : Int32) : ∃ m', F_X2_become m (28 + 2 * s) so n = some ((), m') ∧ Ag (pXs s) m m' ∧ mD m' (28 + 2 * s) 0 = so ∧ mD m' (28 + 2 * s) 1 = n ∧ ∀ i, i < 40 → mD m' (29 + 2 * s) i = 0 := by
  obtain ⟨-, -, -, hK⟩ := sx_e7 hS hs
  unfold F_X2_become
  dsimp only [nm]
  obtain ⟨m', e1, a1, r1⟩ := x_fill (m := wD (wD m (28 + 2 * s) 0 so) (28 + 2 * s) 1 n) (q := 28 + 2 * s + 1) hK
  rw [e1, bnd_eq]
  refine ⟨m', rfl, ((Ag.d (P := pXs s) (Or.inl rfl)).tr (Ag.d (Or.inl rfl))).tr (a1.mono fun k _ z => Or.inr (by omega)), ?_, ?_, fun i hi => ?_⟩
  · rw [a1.2 _ 0 (by omega), mD_i (by decide), mD_s]
  · rw [a1.2 _ 1 (by omega), mD_s]
  · rw [show 29 + 2 * s = 28 + 2 * s + 1 by omega]; exact r1 i hi
theorem nar01 : vp_nar .boolean 0 = 0 ∧ vp_nar .boolean 1 = 1 := by decide
theorem m_shY (m : Mem) {s n so : Nat} (hs : s < 4) (hn : n ≤ 40) (hso : so ≤ 2) : Ev (pMs s) (fun x => mD x 50 s = 1 ∧ mD x 51 s = nI so ∧ mD x 52 s = nI n ∧ ∀ i, i < n → mD x 53 (40 * s + i) = 0) (F_X6_sheet_45 m (nI s) (nI so) (nI n)) m 1 := by
  unfold F_X6_sheet_45 F_X6_sheet_59
  rw [if_neg (nI_pos (by omega)), gIf_pos nar01.2, gIf_pos (vp_n hs (by decide)), nI_c (by omega)]
  refine Ev.namW (Or.inl ⟨Or.inl rfl, rfl⟩) ?_
  rw [gIf_pos (vp_n hs (by decide))]
  refine Ev.namW (Or.inl ⟨Or.inr (Or.inl rfl), rfl⟩) ?_
  rw [gIf_pos (vp_n hs (by decide))]
  refine Ev.namW (Or.inl ⟨Or.inr (Or.inr rfl), rfl⟩) ?_
  refine Ev.loop (σ := Unit) (P := pMs s) (Q := fun x => mD x 50 s = 1 ∧ mD x 51 s = nI so ∧ mD x 52 s = nI n ∧ ∀ i, i < n → mD x 53 (40 * s + i) = 0) (L := fun fu m _ i => F_X6_sheet_77 fu m (nI s) (nI so) (nI n) i) (n := n) (st := fun _ s => s) (ex := fun _ => 1) (RR := fun i x => mD x 50 s = 1 ∧ mD x 51 s = nI so ∧ mD x 52 s = nI n ∧ ∀ j, j < i → mD x 53 (40 * s + j) = 0) (fun fu x t h => ?_) (fun fu x t i hi h w hw => ?_) n 0 FU _ () (by omega) (hFU (by omega)) ⟨by rw [mD_k (by decide), mD_k (by decide), mD_s], by rw [mD_k (by decide), mD_s], mD_s, fun j hj => absurd hj (Nat.not_lt_zero j)⟩
  · show Ev (pMs s) _ (F_X6_sheet_77 (fu + 1) x (nI s) (nI so) (nI n) (nI n)) x 1
    unfold F_X6_sheet_77
    rw [if_pos (Int32.le_refl _)]; exact Ev.ret h
  · show Ev (pMs s) _ (F_X6_sheet_77 (fu + 1) x (nI s) (nI so) (nI n) (nI i)) x w
    unfold F_X6_sheet_77
    rw [if_neg (nI_ge hi (by omega)), if_neg (nI_pos (by omega)), m40, nI_ad, gIf_pos (vp_n (show 40 * s + i < 160 by omega) (by decide)), nI_c (by omega), nI_1]
    refine Ev.namW (Or.inr ⟨rfl, by omega, by omega⟩) (hw _ ⟨by rw [mD_k (by decide)]; exact h.1, by rw [mD_k (by decide)]; exact h.2.1, by rw [mD_k (by decide)]; exact h.2.2.1, fun j hj => ?_⟩)
    by_cases e : j = i
    · subst e; exact mD_s
    · rw [mD_i (by omega)]; exact h.2.2.2 j (by omega)
theorem m_shN (m : Mem) {s : Nat} (hs : s < 4) (n : Int32) : Ev (pMs s) (fun x => mD x 50 s = 0) (F_X6_sheet_45 m (nI s) (-1) n) m 1 := by
  unfold F_X6_sheet_45 F_X6_sheet_59
  rw [if_pos (by decide), gIf_pos nar01.1, gIf_pos (vp_n hs (by decide)), nI_c (by omega)]
  refine Ev.namW (Or.inl ⟨Or.inl rfl, rfl⟩) ?_
  rw [gIf_pos (vp_n hs (by decide))]
  refine Ev.namW (Or.inl ⟨Or.inr (Or.inl rfl), rfl⟩) ?_
  rw [gIf_pos (vp_n hs (by decide))]
  refine Ev.namW (Or.inl ⟨Or.inr (Or.inr rfl), rfl⟩) ?_
  show Ev (pMs s) _ (F_X6_sheet_77 (4999 + 1) _ _ _ _ _) _ _
  unfold F_X6_sheet_77
  rw [if_pos (show (-1 : Int32) < 0 by decide), ite_self]
  exact Ev.ret (by rw [mD_k (by decide), mD_k (by decide), mD_s])
theorem m_shE (m : Mem) {s : Nat} (hs : s < 4) {so n : Nat} (hn : n ≤ 40) (hso : so ≤ 2) : F_X6_sheet m (nI s) (nI so) (nI n) = F_X6_sheet_45 m (nI s) (nI so) (nI n) := by
  have b1 : btw (nI s) 0 3 = true := nI_rng (lo := 0) (hi := 3) (by omega) (by omega) (by decide)
  have b2 : btw (nI so) (-1) 2 = true := by rw [btw_iff, nI_toInt (by omega)]; omega
  simp only [F_X6_sheet, F_X6_sheet_34, m_isSheet, mi_n1_2, b1, b2, bnd_eq, bzt0, if_false]
  rw [if_neg (nI_pos (by omega)), if_pos (show nI n ≤ 40 from nI_le (b := 40) (by omega) (by omega)), if_neg (nI_pos (by omega)), if_pos (nI_pos' (by omega))]
theorem pm_sheet (a1 a2 a3 : Int32) : PM (fun m => F_X5_sheet m a1 a2 a3) (fun m => F_X6_sheet m a1 a2 a3) := by
  intro m hI
  obtain ⟨n, tc, j, TQ, TS, hA, -⟩ := hI.open_
  cases hs : btw a1 0 3 with
  | false => exact roE hI (-2) (by simp only [F_X5_sheet, x_isSheet, hs, bnd_eq, bzf0, if_true]) (by simp only [F_X6_sheet, m_isSheet, hs, bnd_eq, bzf0, if_true])
  | true =>
    cases ho : btw a2 (-1) 2 with
    | false => exact roE hI (-2) (by simp only [F_X5_sheet, x_isSheet, xi_n1_2, hs, ho, bnd_eq, bzf0, bzt0, if_true, if_false]) (by simp only [F_X6_sheet, m_isSheet, mi_n1_2, hs, ho, bnd_eq, bzf0, bzt0, if_true, if_false])
    | true =>
      obtain ⟨s, hs', rfl⟩ := btw_nat (hi := 3) hs (by decide)
      have hs4 : s < 4 := by omega
      have eX : F_X5_sheet m (nI s) a2 a3 = if a2 = -1 then bnd (F_X2_become m (28 + 2 * s) (-1) 0) fun v22 m23 => some (1, m23) else if a3 ≤ 40 then if 0 ≤ a3 then bnd (F_X2_become m (28 + 2 * s) a2 a3) fun v16 m17 => some (1, m17) else some (-14, m) else some (-2, m) := by
        simp only [F_X5_sheet, x_isSheet, xi_n1_2, hs, ho, bnd_eq, bzt0, if_false, gIf_pos (vp_n hs4 (by decide)), nI_c (show s < 1000 by omega)]
      have eM : ∀ x, F_X6_sheet x (nI s) a2 a3 = if a2 < 0 then F_X6_sheet_34 x (nI s) a2 a3 else if a3 ≤ 40 then F_X6_sheet_34 x (nI s) a2 a3 else some (-2, x) := fun x => by
        simp only [F_X6_sheet, m_isSheet, mi_n1_2, hs, ho, bnd_eq, bzt0, if_false]
      by_cases hm : a2 = -1
      · subst hm
        obtain ⟨m1, e1, b1, r1, r2, r3⟩ := x_shbec hA.1 hs4 (-1) 0
        obtain ⟨m2, e2, b2, r4⟩ := m_shN m1 hs4 a3
        refine ⟨1, m1, m2, ?_, ?_, inv_sheet hs4 hA (b1.mono fun _ _ z => Or.inr z) (b2.mono fun _ _ z => Or.inr z) (Or.inl ⟨?_, r4⟩)⟩
        · show F_X5_sheet m (nI s) (-1) a3 = _
          rw [eX, if_pos rfl, e1, bnd_eq]
        · show F_X6_sheet m1 (nI s) (-1) a3 = _
          rw [eM, if_pos (by decide)]
          unfold F_X6_sheet_34
          rw [if_pos (by decide)]; exact e2
        · rw [b2.2 _ 0 (by unfold pMs; omega)]; exact r1
      · have ho' := btw_iff.mp ho
        have hne : a2.toInt ≠ -1 := fun z => hm (Int32.toInt_inj.mp (by rw [z]; rfl))
        obtain ⟨so, hso, rfl⟩ : ∃ so, so ≤ 2 ∧ a2 = nI so := ⟨a2.toInt.toNat, by omega, toNatI (by omega)⟩
        by_cases h40 : a3 ≤ 40
        · by_cases h0 : 0 ≤ a3
          · have h0' := Int32.le_iff_toInt_le.mp h0
            have h40' := Int32.le_iff_toInt_le.mp h40
            rw [show (0 : Int32).toInt = 0 from rfl] at h0'
            rw [show (40 : Int32).toInt = 40 from rfl] at h40'
            obtain ⟨N, hN, rfl⟩ : ∃ N, N ≤ 40 ∧ a3 = nI N := ⟨a3.toInt.toNat, by omega, toNatI (by omega)⟩
            obtain ⟨m1, e1, b1, r1, r2, r3⟩ := x_shbec hA.1 hs4 (nI so) (nI N)
            obtain ⟨m2, e2, b2, r4, r5, r6, r7⟩ := m_shY m1 hs4 hN hso
            refine ⟨1, m1, m2, ?_, ?_, inv_sheet hs4 hA (b1.mono fun _ _ z => Or.inr z) (b2.mono fun _ _ z => Or.inr z) (Or.inr ⟨r4, ?_, ?_, N, hN, ?_, r6, fun i hi => ?_⟩)⟩
            · show F_X5_sheet m (nI s) (nI so) (nI N) = _
              rw [eX, if_neg hm, if_pos h40, if_pos h0, e1, bnd_eq]
            · show F_X6_sheet m1 (nI s) (nI so) (nI N) = _
              rw [m_shE m1 hs4 hN hso]; exact e2
            · rw [b2.2 _ 0 (by unfold pMs; omega), r1, r5]
            · rw [r5]; exact nI_rng (lo := 0) (hi := 2) (by omega) hso (by decide)
            · rw [b2.2 _ 1 (by unfold pMs; omega)]; exact r2
            · rw [b2.2 _ i (by unfold pMs; omega), r3 i (by omega), r7 i hi]
          · refine roE hI (-14) ?_ ?_
            · rw [eX, if_neg hm, if_pos h40, if_neg h0]
            · rw [eM, if_neg (nI_pos (by omega)), if_pos h40]
              unfold F_X6_sheet_34
              rw [if_neg (nI_pos (by omega)), if_neg h0]
        · refine roE hI (-2) ?_ ?_
          · rw [eX, if_neg hm, if_neg h40]
          · rw [eM, if_neg (nI_pos (by omega)), if_neg h40]
/-- a number as its sort holds it -/
def nar (so v : Int32) : Int32 := if so = 0 then v.toInt8.toInt32 else if so = 1 then v.toInt16.toInt32 else v
theorem x_putS {m : Mem} {q k sz : Nat} {so : Int32} (hk : k < sz) (hz : sz ≤ 40) (h1 : mD m q 1 = nI sz) (h0 : mD m q 0 = so) (v : Int32) : F_X2_put m q (nI k) v = some ((), wD m (q + 1) k (nar so v)) := by
  unfold F_X2_put nar
  rw [if_neg (nI_pos (by omega)), h1, if_pos (nI_lt hk (by omega)), h0, gIf_pos (vp_n (by omega) (by decide)), nI_c (by omega), gIf_pos (vp_n (by omega) (by decide)), gIf_pos (vp_n (by omega) (by decide))]
  dsimp only [nm]
  by_cases s0 : so = 0
  · rw [if_pos s0, if_pos s0]
  · rw [if_neg s0, if_neg s0]
    by_cases s1 : so = 1
    · rw [if_pos s1, if_pos s1]
    · rw [if_neg s1, if_neg s1]
theorem pm_cell (a1 a2 a3 : Int32) : PM (fun m => F_X5_cell m a1 a2 a3) (fun m => F_X6_cell m a1 a2 a3) := by
  intro m hI
  obtain ⟨n, tc, j, TQ, TS, hA, -⟩ := hI.open_
  have hSt := hA.2.2.2.2.1
  cases hs : btw a1 0 3 with
  | false => exact roE hI (-2) (by simp only [F_X5_cell, x_isSheet, hs, bnd_eq, bzf0, if_true]) (by simp only [F_X6_cell, m_isSheet, hs, bnd_eq, bzf0, if_true])
  | true =>
    obtain ⟨s, hs', rfl⟩ := btw_nat (hi := 3) hs (by decide)
    have hs4 : s < 4 := by omega
    rcases hSt s hs4 with ⟨st1, st2⟩ | ⟨st1, st2, st3, sz, hz, sz1, sz2, st4⟩
    · refine roE hI (-11) ?_ ?_
      · simp only [F_X5_cell, F_X2_isMissing, x_isSheet, hs, bnd_eq, bzt0, if_false]
        rw [gIf_pos (vp_n hs4 (by decide)), nI_c (by omega), if_pos st1, bnd_eq, if_neg (by decide)]
      · simp only [F_X6_cell, m_isSheet, hs, bnd_eq, bzt0, if_false]
        rw [gIf_pos (vp_n hs4 (by decide)), nI_c (by omega), if_pos st2]
    · have hne : ¬ mD m (28 + 2 * s) 0 = -1 := fun z => by
        rw [st2] at z; rw [z] at st3; exact absurd st3 (by decide)
      have eX : F_X5_cell m (nI s) a2 a3 = if bz (btw a2 0 ((sz : Int) - 1)) = 0 then some (-12, m) else bnd (F_X2_put m (28 + 2 * s) a2 a3) fun v18 m19 => some (1, m19) := by
        simp only [F_X5_cell, F_X2_isMissing, x_isSheet, hs, bnd_eq, bzt0, if_false]
        rw [gIf_pos (vp_n hs4 (by decide)), nI_c (by omega), if_neg hne, bnd_eq, if_pos (show bz false = 0 from rfl), sz1, x_isBetween, pred_toInt (by omega), bnd_eq]; rfl
      have eM : ∀ x, mD x 50 s = 1 → mD x 52 s = nI sz → F_X6_cell x (nI s) a2 a3 = if bz (btw a2 0 ((sz : Int) - 1)) = 0 then some (-12, x) else F_X6_cell_83 x (nar (mD x 51 s) a3) (40 * nI s + a2) := fun x h50 h52 => by
        simp only [F_X6_cell, m_isSheet, hs, bnd_eq, bzt0, if_false]
        rw [gIf_pos (vp_n hs4 (by decide)), nI_c (by omega), h50, if_neg (show ¬ (1 : Int32) = 0 by decide), gIf_pos (vp_n hs4 (by decide)), h52, m_inB, Int32.toInt_toInt64, pred_toInt (by omega), bnd_eq, gIf_pos (vp_n hs4 (by decide)), gIf_pos (vp_n hs4 (by decide))]
        show (if bz (btw a2 0 ((sz : Int) - 1)) = 0 then some (-12, x) else _) = _
        by_cases hb : bz (btw a2 0 ((sz : Int) - 1)) = 0
        · rw [if_pos hb, if_pos hb]
        · rw [if_neg hb, if_neg hb]
          unfold nar
          by_cases s0 : mD x 51 s = 0
          · rw [if_pos s0, if_pos s0]
          · rw [if_neg s0, if_neg s0]
            by_cases s1 : mD x 51 s = 1
            · rw [if_pos s1, if_pos s1]
            · rw [if_neg s1, if_neg s1]
      cases hb : btw a2 0 ((sz : Int) - 1) with
      | false =>
        refine roE hI (-12) ?_ ?_
        · rw [eX, hb, if_pos (by decide)]
        · rw [eM m st1 sz2, hb, if_pos (by decide)]
      | true =>
        have hb' := btw_iff.mp hb
        obtain ⟨k, hk, rfl⟩ : ∃ k, k < sz ∧ a2 = nI k := ⟨a2.toInt.toNat, by omega, toNatI (by omega)⟩
        have b1 : Ag (pXs s) m (wD m (28 + 2 * s + 1) k (nar (mD m 51 s) a3)) := Ag.d (Or.inr (by omega))
        have k50 : mD (wD m (28 + 2 * s + 1) k (nar (mD m 51 s) a3)) 50 s = 1 := by rw [mD_k (by omega)]; exact st1
        have k51 : mD (wD m (28 + 2 * s + 1) k (nar (mD m 51 s) a3)) 51 s = mD m 51 s := by rw [mD_k (by omega)]
        have k52 : mD (wD m (28 + 2 * s + 1) k (nar (mD m 51 s) a3)) 52 s = nI sz := by rw [mD_k (by omega)]; exact sz2
        refine ⟨1, wD m (28 + 2 * s + 1) k (nar (mD m 51 s) a3), wD (wD m (28 + 2 * s + 1) k (nar (mD m 51 s) a3)) 53 (40 * s + k) (nar (mD m 51 s) a3), ?_, ?_, inv_sheet hs4 hA (b1.mono fun _ _ z => Or.inr z) (Ag.d (Or.inr (Or.inr ⟨rfl, by omega, by omega⟩))) (Or.inr ⟨?_, ?_, ?_, sz, hz, ?_, ?_, fun i hi => ?_⟩)⟩
        · show F_X5_cell m (nI s) (nI k) a3 = _
          rw [eX, hb, if_neg (by decide), x_putS hk hz sz1 st2, bnd_eq]
        · show F_X6_cell _ (nI s) (nI k) a3 = _
          rw [eM _ k50 k52, hb, if_neg (by decide), k51]
          unfold F_X6_cell_83
          rw [m40, nI_ad, gIf_pos (vp_n (show 40 * s + k < 160 by omega) (by decide)), nI_c (by omega)]
          rfl
        · rw [mD_k (by decide)]; exact k50
        · rw [mD_k (by omega), mD_k (by omega), mD_k (by decide), k51]; exact st2
        · rw [mD_k (by decide), k51]; exact st3
        · rw [mD_k (by omega), mD_k (by omega)]; exact sz1
        · rw [mD_k (by decide)]; exact k52
        · rw [show 29 + 2 * s = 28 + 2 * s + 1 by omega, mD_k (by omega)]
          by_cases e : i = k
          · subst e; rw [mD_s, mD_s]
          · rw [mD_i e, mD_i (by omega), mD_k (by omega), show 28 + 2 * s + 1 = 29 + 2 * s by omega]; exact st4 i hi
/-! film -/
theorem RepM.w53 {v : VW} {m : Mem} (h : RepM v m) (i : Nat) (x : Int32) : RepM v (wD m 53 i x) := by
  obtain ⟨a, b, cc, d, j, e1, e2, e3⟩ := h
  exact ⟨a, by rw [mD_k (by decide)]; exact b, by rw [mD_k (by decide)]; exact cc, fun q hq => by rw [mrow_ag (agC (c := 53)) (fun _ => by decide) (fun _ => by decide)]; exact d q hq, j, e1, by rw [mD_k (by decide)]; exact e2, e3.ag (agC (c := 53)) (fun _ => by decide) (fun _ => by decide)⟩
theorem RepM.agS {v : VW} {m m' : Mem} {s : Nat} (h : RepM v m) (ha : Ag (pMs s) m m') : RepM v m' := by
  have e : ∀ k i, k < 50 → mD m' k i = mD m k i := fun k i hk => ha.2 k i (by unfold pMs; omega)
  obtain ⟨h2, h3, h4, h5, j, e1, e2, e3⟩ := h
  refine ⟨h2, ?_, ?_, fun i hi => ?_, j, e1, ?_, e3.ag ha (fun _ => by unfold pMs; omega) (fun _ => by unfold pMs; omega)⟩
  · rw [e 40 10 (by omega)]; exact h3
  · rw [e 40 7 (by omega)]; exact h4
  · rw [mrow_ag ha (fun _ => by unfold pMs; omega) (fun _ => by unfold pMs; omega)]; exact h5 i hi
  · rw [e 40 4 (by omega)]; exact e2
theorem RepX.agS {v : VW} {m m' : Mem} {s : Nat} (hs : s < 4) (h : RepX v m) (ha : Ag (pXs s) m m') : RepX v m' := by
  obtain ⟨h1, h2, h3, h4, h5, j, q, e1, e2, e3, e4⟩ := h
  have hq := e4.2.1
  unfold isTc at hq
  refine ⟨h1.sh ha.1, h2, ?_, ?_, fun i hi => ?_, j, q, e1, ?_, ?_, e4.ag ha (fun _ => by unfold pXs; omega) (fun _ => by unfold pXs; omega)⟩
  · rw [ha.2 0 2 (by unfold pXs; omega)]; exact h3
  · rw [ha.2 0 0 (by unfold pXs; omega)]; exact h4
  · rw [row6_ag (m := m) ha (fun f => by unfold pXs; omega)]; exact h5 i hi
  · rw [ha.2 0 6 (by unfold pXs; omega)]; exact e2
  · rw [ha.1.2.2.2]; exact e3
theorem x_filmL {v : VW} {s c N : Nat} (hs : s < 4) (hc : c < vn v) (hN : N ≤ 40) : ∀ (r k fu : Nat) (x : Mem), k + r = N → r < fu → RepX v x → mD x (28 + 2 * s) 0 = 2 → mD x (28 + 2 * s) 1 = nI N → (∀ i, i < k → mD x (29 + 2 * s) i = wor v (vc v c) (nI i)) → Ev (fun k i => pX k i ∨ pXs s k i) (fun x' => mD x' (28 + 2 * s) 0 = 2 ∧ mD x' (28 + 2 * s) 1 = nI N ∧ ∀ i, i < N → mD x' (29 + 2 * s) i = wor v (vc v c) (nI i)) (F_X5_film_42 fu x (nI s) (nI c) (nI N) (nI k)) x (nI N) := by
  intro r
  induction r with
  | zero =>
    intro k fu x hk hf h h0 h1 hi
    cases fu with
    | zero => omega
    | succ fu =>
      have : k = N := by omega
      subst this
      unfold F_X5_film_42
      rw [if_pos (Int32.le_refl _)]; exact Ev.ret ⟨h0, h1, hi⟩
  | succ r ih =>
    intro k fu x hk hf h h0 h1 hi
    cases fu with
    | zero => omega
    | succ fu =>
      unfold F_X5_film_42
      rw [if_neg (nI_ge (show k < N by omega) (by omega)), gIf_pos (vp_n hs (by decide)), gIf_pos (h.vp hc), nI_c (n := c) (by have := h.2.1; omega), nI_c (n := s) (by omega), nI_1]
      refine Ev.bdM (x_worth h (nSt (h.lt8 hc)) (h.row hc) (nI k)) (fun _ _ z => Or.inl (pSt.x z)) fun y ha hy => ?_
      have y0 : mD y (28 + 2 * s) 0 = 2 := by rw [ha.2 _ 0 (by unfold pSt; omega)]; exact h0
      have y1 : mD y (28 + 2 * s) 1 = nI N := by rw [ha.2 _ 1 (by unfold pSt; omega)]; exact h1
      rw [x_putS (show k < N by omega) hN y1 y0, bnd_eq, show nar 2 (wor v (vc v c) (nI k)) = wor v (vc v c) (nI k) from rfl]
      have hz : Ag (pXs s) y (wD y (28 + 2 * s + 1) k (wor v (vc v c) (nI k))) := Ag.d (Or.inr (by omega))
      refine Ev.step (hz.mono fun _ _ z => Or.inr z) (ih (k + 1) fu _ (by omega) (by omega) (hy.agS hs hz) (by rw [mD_k (by omega)]; exact y0) (by rw [mD_k (by omega)]; exact y1) (fun i hi' => ?_))
      rw [show 29 + 2 * s = 28 + 2 * s + 1 by omega]
      by_cases e : i = k
      · subst e; exact mD_s
      · rw [mD_i e, show 28 + 2 * s + 1 = 29 + 2 * s by omega, ha.2 _ i (by unfold pSt; omega)]; exact hi i (by omega)
theorem m_filmL {v : VW} {m0 : Mem} {s c N : Nat} (hv : OKv v) (hs : s < 4) (hc : c < vn v) (hN : N ≤ 40) : ∀ (r k fu : Nat) (x : Mem), k + r = N → r < fu → Th (fun k i => pSc k i ∨ (k = 53 ∧ 40 * s ≤ i ∧ i < 40 * s + 40)) m0 (nx v k) x → (∀ i, i < k → mD x 53 (40 * s + i) = wor v (vc v c) (nI i)) → Ev pTop (fun x' => Ag (fun k i => pSc k i ∨ (k = 53 ∧ 40 * s ≤ i ∧ i < 40 * s + 40)) m0 x' ∧ ∀ i, i < N → mD x' 53 (40 * s + i) = wor v (vc v c) (nI i)) (F_X6_film_45 fu x (nI s) (nI c) (nI N) (nI k)) x (nI N) := by
  have hq : ∀ k i, pSc k i → (pSc k i ∨ (k = 53 ∧ 40 * s ≤ i ∧ i < 40 * s + 40)) := fun _ _ z => Or.inl z
  intro r
  induction r with
  | zero =>
    intro k fu x hk hf hT hi
    cases fu with
    | zero => omega
    | succ fu =>
      have : k = N := by omega
      subst this
      unfold F_X6_film_45
      rw [if_pos (Int32.le_refl _)]
      refine Ev.bd hT.end_ fun x' hx' => Ev.ret ⟨hx'.1, fun i hi' => ?_⟩
      rw [hx'.2.2.2 53 _ (by unfold pBk; omega)]; exact hi i hi'
  | succ r ih =>
    intro k fu x hk hf hT hi
    cases fu with
    | zero => omega
    | succ fu =>
      unfold F_X6_film_45
      rw [if_neg (nI_ge (show k < N by omega) (by omega)), m40, nI_ad, nI_1]
      obtain ⟨y, e1, a1, -⟩ := m_worthOf hT.2.2 (hv.nx (show k < 1000 by omega)) hc
      have hT1 := hT.sa hq a1
      rw [e1, bnd_eq, nx_wor (hv c hc) (by omega), gIf_pos (vp_n (show 40 * s + k < 160 by omega) (by decide)), nI_c (by omega)]
      have hT2 : Th (fun k i => pSc k i ∨ (k = 53 ∧ 40 * s ≤ i ∧ i < 40 * s + 40)) m0 (nx v k) (wD y 53 (40 * s + k) (wor v (vc v c) (nI k))) := ⟨hT1.1.tr (Ag.d (Or.inl (Or.inr ⟨rfl, by omega, by omega⟩))), ⟨fun q hq => by rw [mD_k (by decide), mD_k (by decide)]; exact hT1.2.1.1 q hq, by rw [mD_k (by decide)]; exact hT1.2.1.2⟩, hT1.2.2.w53 _ _⟩
      refine Ev.step (a1.mono fun _ _ _ => trivial) (Ev.namW trivial ?_)
      obtain ⟨m', e, ha, hr⟩ := m_passes hT2.2.2 (hv.nx (show k < 1000 by omega))
      rw [e, bnd_eq]
      refine Ev.step (ha.mono fun _ _ _ => trivial) (ih (k + 1) fu m' (by omega) (by omega) (hT2.ps hq ha (rm_nx1 hv (by omega) hr)) (fun i hi' => ?_))
      rw [ha.2 53 _ (by unfold pPs pSa; omega)]
      by_cases e : i = k
      · subst e; exact mD_s
      · rw [mD_i (by omega), a1.2 53 _ (by unfold pSa; omega)]; exact hi i (by omega)
theorem pm_film (a1 a2 a3 : Int32) : PM (fun m => F_X5_film m a1 a2 a3) (fun m => F_X6_film m a1 a2 a3) := by
  intro m hI
  obtain ⟨n, tc, j, TQ, TS, hA, v, hvw, hX, hM, hv, hvn, hvd⟩ := hI.open_
  have h8 := hM.1
  cases hs : btw a1 0 3 with
  | false => exact roE hI (-2) (by simp only [F_X5_film, x_isSheet, hs, bnd_eq, bzf0, if_true]) (by simp only [F_X6_film, m_isSheet, hs, bnd_eq, bzf0, if_true])
  | true =>
    cases hc : btw a2 0 ((vn v : Int) - 1) with
    | false => exact roE hI (-2) (by simp only [F_X5_film, x_isSheet, x_isCoin hX, hs, hc, bnd_eq, bzf0, bzt0, if_true, if_false]) (by simp only [F_X6_film, m_isSheet, m_isCoin hM, hs, hc, bnd_eq, bzf0, bzt0, if_true, if_false])
    | true =>
      cases hn : btw a3 0 40 with
      | false => exact roE hI (-2) (by simp only [F_X5_film, x_isSheet, x_isCoin hX, xi_0_40, hs, hc, hn, bnd_eq, bzf0, bzt0, if_true, if_false]) (by simp only [F_X6_film, m_isSheet, m_isCoin hM, mi_0_40, hs, hc, hn, bnd_eq, bzf0, bzt0, if_true, if_false])
      | true =>
        obtain ⟨s, hs', rfl⟩ := btw_nat (hi := 3) hs (by decide)
        obtain ⟨c, hc', rfl⟩ := coin_nat hc h8
        obtain ⟨N, hN, rfl⟩ := btw_nat (hi := 40) hn (by decide)
        have hs4 : s < 4 := by omega
        obtain ⟨m1, e1, b1, r1, r2, r3⟩ := x_shbec hA.1 hs4 2 (nI N)
        obtain ⟨m2, e2, b2, r4, r5, r6⟩ := x_filmL hs4 hc' hN N 0 FU m1 (by omega) (hFU (by omega)) (hX.agS hs4 b1) r1 r2 (fun i hi => absurd hi (Nat.not_lt_zero i))
        have A2 : Ag (fun k i => pX k i ∨ pXs s k i) m m2 := (b1.mono fun _ _ z => Or.inr z).tr b2
        have hM2 := hM.agL (fun k i z => by unfold pX pSt pXs at z; omega) A2
        obtain ⟨m3, e3, b3, s1, s2, s3, s4⟩ := m_shY m2 hs4 hN (show 2 ≤ 2 by omega)
        have hM3 := hM2.agS b3
        obtain ⟨m3', e3', -, hT⟩ := Th.beg (Q := fun k i => pSc k i ∨ (k = 53 ∧ 40 * s ≤ i ∧ i < 40 * s + 40)) (fun _ _ z => Or.inl z) hM3
        obtain ⟨m4, e4, -, b4, r7⟩ := m_filmL hv hs4 hc' hN N 0 FU m3' (by omega) (hFU (by omega)) ⟨hT.1, hT.2.1, rm_nx0 hv hT.2.2⟩ (fun i hi => absurd hi (Nat.not_lt_zero i))
        have A4 : Ag (fun k i => pSc k i ∨ pMs s k i) m2 m4 := (b3.mono fun _ _ z => Or.inr z).tr (b4.mono fun k i z => by rcases z with z | z; exact Or.inl z; exact Or.inr (Or.inr z))
        refine ⟨nI N, m2, m4, ?_, ?_, inv_sheet hs4 hA A2 A4 (Or.inr ⟨?_, ?_, ?_, N, hN, ?_, ?_, fun i hi => ?_⟩)⟩
        · show F_X5_film m (nI s) (nI c) (nI N) = _
          simp only [F_X5_film, x_isSheet, x_isCoin hX, xi_0_40, hs, hc, hn, bnd_eq, bzt0, if_false]
          rw [gIf_pos (vp_n hs4 (by decide)), nI_c (by omega), e1, bnd_eq]; exact e2
        · show F_X6_film m2 (nI s) (nI c) (nI N) = _
          simp only [F_X6_film, m_isSheet, m_isCoin hM2, mi_0_40, hs, hc, hn, bnd_eq, bzt0, if_false]
          rw [show F_X6_sheet m2 (nI s) 2 (nI N) = F_X6_sheet m2 (nI s) (nI 2) (nI N) from rfl, m_shE m2 hs4 hN (by omega), e3, bnd_eq, e3', bnd_eq]; exact e4
        · rw [b4.2 50 s (by unfold pSc; omega)]; exact s1
        · rw [A4.2 _ 0 (by unfold pSc pMs; omega), r4, b4.2 51 s (by unfold pSc; omega), s2]; rfl
        · rw [b4.2 51 s (by unfold pSc; omega), s2]; decide
        · rw [A4.2 _ 1 (by unfold pSc pMs; omega)]; exact r5
        · rw [b4.2 52 s (by unfold pSc; omega)]; exact s3
        · rw [A4.2 _ i (by unfold pSc pMs; omega), r6 i hi, r7 i hi]
