/-! the calls that change coins -/
def pXc (k i : Nat) : Prop := pX k i ∨ (k = 0 ∧ i = 0) ∨ (20 ≤ k ∧ k ≤ 27)
def pMc (k i : Nat) : Prop := pSc k i ∨ (k = 40 ∧ i = 7) ∨ k = 45
theorem RepM.agL {P : Nat → Nat → Prop} {v : VW} {m m' : Mem} (hP : ∀ k i, P k i → k < 40 ∨ 54 ≤ k) (h : RepM v m) (ha : Ag P m m') : RepM v m' := by
  have e : ∀ k i, 40 ≤ k → k < 54 → mD m' k i = mD m k i := fun k i h1 h2 => ha.2 k i fun z => by have := hP k i z; omega
  obtain ⟨h2, h3, h4, h5, j, e1, e2, e3⟩ := h
  refine ⟨h2, ?_, ?_, fun i hi => ?_, j, e1, ?_, e3.ag ha (fun i z => by have := hP _ _ z; omega) (fun i z => by have := hP _ _ z; omega)⟩
  · rw [e 40 10 (by omega) (by omega)]; exact h3
  · rw [e 40 7 (by omega) (by omega)]; exact h4
  · rw [mrow_ag ha (fun i z => by have := hP _ _ z; omega) (fun i z => by have := hP _ _ z; omega)]; exact h5 i hi
  · rw [e 40 4 (by omega) (by omega)]; exact e2
theorem pX.low {k i : Nat} (h : pX k i) : k < 40 ∨ 54 ≤ k := by unfold pX pSt at h; omega
theorem pXc.low {k i : Nat} (h : pXc k i) : k < 40 ∨ 54 ≤ k := by unfold pXc pX pSt at h; omega
theorem inv_coins {m m1 m2 : Mem} {n tc j : Nat} {TQ : Nat → Nat} {TS : Nat → Nat → (Int32 → Int32) → Int32} {v' : VW} (hI : ShX m ∧ Co n tc j m ∧ Tx tc TQ TS m ∧ Tp m ∧ St m ∧ Im n tc m ∧ Rm tc m) (a1 : Ag pXc m m1) (x1 : mD m1 0 0 = vd v') (x2 : ∀ i, i < n → row6 (mD m1 (20 + i)) = vc v' i) (a2 : Ag pMc m1 m2) (r : RepM v' m2) (hn : vn v' = n) (ok : OKv v') (hd : btw (vd v') 0 999 = true) : Inv m2 := by
  obtain ⟨hS, hC, hT, hP, hSt, hIm, hR⟩ := hI
  have a : Ag (fun k i => pXc k i ∨ pMc k i) m m2 := (a1.mono fun _ _ z => Or.inl z).tr (a2.mono fun _ _ z => Or.inr z)
  have e : ∀ k i, ¬ pXc k i → ¬ pMc k i → mD m2 k i = mD m k i := fun k i h1 h2 => a.2 k i (by rintro (z | z); exact h1 z; exact h2 z)
  have e2 : ∀ k i, ¬ pMc k i → mD m2 k i = mD m1 k i := a2.2
  obtain ⟨h1, h2, h3, h4, h5, h6, h7, h8, h9, h10, h11, h12, h13⟩ := hC
  obtain ⟨r1, r2, r3, r4, -⟩ := r
  refine ⟨hS.sh a.1, n, tc, j, TQ, TS, ⟨h1, h2, h3, h4, ?_, ?_, ?_, ?_, fun i hi => ?_, ?_, ?_, ?_, ?_⟩, hT.ag a (fun k i z => by unfold pXc pMc pX pSt pSc at z; unfold plTx; omega), hP.ag a (fun k i z => by unfold pXc pMc pX pSt pSc at z; unfold plTp; omega), hSt.ag a (fun k i z => by unfold pXc pMc pX pSt pSc at z; unfold plSt; omega), hIm.ag a h1 (fun k i z => by unfold pXc pMc pX pSt pSc at z; unfold plIm; omega), hR.sh a.1⟩
  · rw [e 0 2 (by unfold pXc pX pSt; omega) (by unfold pMc pSc; omega)]; exact h5
  · rw [e 40 10 (by unfold pXc pX pSt; omega) (by unfold pMc pSc; omega)]; exact h6
  · rw [e2 0 0 (by unfold pMc pSc; omega), x1, r3]
  · rw [r3]; exact hd
  · have e1 : mD m2 (20 + i) = mD m1 (20 + i) := funext fun f => e2 _ _ (by unfold pMc pSc; omega)
    rw [e1, x2 i hi, r4 i (by rw [hn]; exact hi)]
    exact ⟨rfl, ok i (by rw [hn]; exact hi)⟩
  · rw [e 0 6 (by unfold pXc pX pSt; omega) (by unfold pMc pSc; omega)]; exact h10
  · rw [e 40 4 (by unfold pXc pX pSt; omega) (by unfold pMc pSc; omega)]; exact h11
  · rw [e 0 5 (by unfold pXc pX pSt; omega) (by unfold pMc pSc; omega)]; exact h12
  · rw [e 40 3 (by unfold pXc pX pSt; omega) (by unfold pMc pSc; omega)]; exact h13
theorem Inv.open_ {m : Mem} (h : Inv m) : ∃ n tc j TQ TS, (ShX m ∧ Co n tc j m ∧ Tx tc TQ TS m ∧ Tp m ∧ St m ∧ Im n tc m ∧ Rm tc m) ∧ ∃ v, v = vw n (TS j) m ∧ RepX v m ∧ RepM v m ∧ OKv v ∧ vn v = n ∧ btw (vd v) 0 999 = true := by
  obtain ⟨h1, n, tc, j, TQ, TS, h2, h3, h4⟩ := h
  exact ⟨n, tc, j, TQ, TS, ⟨h1, h2, h3, h4⟩, _, rfl, (mk_view h1 h2 h3).1, (mk_view h1 h2 h3).2.1, (mk_view h1 h2 h3).2.2, rfl, h2.2.2.2.2.2.2.2.1⟩
/-! set -/
theorem m_lays5 (m : Mem) {f c : Nat} (hf : 1 ≤ f ∧ f ≤ 5) (hc : c < 8) (x : Int32) : F_X6_lays m (nI f) (nI c) x = some ((), wD m 45 (5 * c + (f - 1)) x) := by
  unfold F_X6_lays
  rw [if_neg (nI_ne0 (by omega) (by omega)), if_neg (show ¬ (6 : Int32) ≤ nI f from nI_ge (b := 6) (by omega) (by omega)), m5, nI_ad]
  have e : nI (5 * c + f) - 1 = nI (5 * c + (f - 1)) := by rw [show 5 * c + f = (5 * c + (f - 1)) + 1 by omega, nI_pred]
  rw [e, gIf_pos (vp_n (by omega) (by decide)), nI_c (by omega)]
  rfl
theorem x_lay5 (m : Mem) {f : Nat} (hf : 1 ≤ f ∧ f ≤ 5) (c : Nat) (x : Int32) : F_X0_lay m c (nI f) x = some ((), wD m c f x) := by
  rcases (show f = 1 ∨ f = 2 ∨ f = 3 ∨ f = 4 ∨ f = 5 by omega) with rfl | rfl | rfl | rfl | rfl <;> rfl
theorem m_set24 (m : Mem) {k : Nat} (hk : k ≤ 5) (a2 a3 : Int32) : F_X6_set_24 m (nI k) a2 a3 = if bz (btw a3 (fLEAST k).toInt (fMOST k).toInt) = 0 then some (-2, m) else bnd (F_X6_told m a2 (nI k)) fun v22 m23 => bnd (F_X6_lays m23 (nI k) a2 a3) fun v26 m27 => some (v22, m27) := by
  have e : F_X6_mostOf m (nI k) = some (fMOST k, m) := by
    rcases (show k = 0 ∨ k = 1 ∨ k = 2 ∨ k = 3 ∨ k = 4 ∨ k = 5 by omega) with rfl | rfl | rfl | rfl | rfl | rfl <;> rfl
  unfold F_X6_set_24 F_X6_set_36
  rw [e, bnd_eq, bnd_eq, m_inB, m_inB, bnd_eq, bnd_eq, Int32.toInt_toInt64]
  by_cases h2 : k = 2
  · subst h2; rw [if_pos (by decide)]; rfl
  · rw [if_neg (show ¬ nI k = 2 from fun z => h2 ((nI_eq (b := 2) (by omega) (by omega)).mp z))]
    have : fLEAST k = 0 := if_neg h2
    rw [this]; rfl
theorem CB.set {r : Nat → Int32} (h : CB r) {f : Nat} (hf : 1 ≤ f ∧ f ≤ 5) {x : Int32} (hx : btw x (fLEAST f).toInt (fMOST f).toInt = true) : CB (upf r f x) := by
  obtain ⟨h1, h2, h3, h4, h5, h6⟩ := h
  rcases (show f = 1 ∨ f = 2 ∨ f = 3 ∨ f = 4 ∨ f = 5 by omega) with rfl | rfl | rfl | rfl | rfl
  · exact ⟨h1, hx, h3, h4, h5, h6⟩
  · exact ⟨h1, h2, hx, h4, h5, h6⟩
  · exact ⟨h1, h2, h3, hx, h5, h6⟩
  · exact ⟨h1, h2, h3, h4, hx, h6⟩
  · exact ⟨h1, h2, h3, h4, h5, hx⟩
theorem pm_set (a1 a2 a3 : Int32) : PM (fun m => F_X5_set m a1 a2 a3) (fun m => F_X6_set m a1 a2 a3) := by
  intro m hI
  obtain ⟨n, tc, j, TQ, TS, hA, v, hvw, hX, hM, hv, hvn, hvd⟩ := hI.open_
  have h8 := hM.1
  cases hw : btw a1 0 5 with
  | false => exact roE hI (-2) (by simp only [F_X5_set, xi_0_5, hw, bnd_eq, bzf0, if_true]) (by simp only [F_X6_set, mi_0_5, hw, bnd_eq, bzf0, if_true])
  | true =>
    obtain ⟨k, hk, rfl⟩ := btw_nat (hi := 5) hw (by decide)
    have eX : F_X5_set m (nI k) a2 a3 = if bz (btw a3 (fLEAST k).toInt (fMOST k).toInt) = 0 then some (-2, m) else if nI k = 0 then nm (mD m 0 0) fun x31 => nm (wD m 0 0 a3) fun m32 => some (x31, m32) else if bz (btw a2 0 ((vn v : Int) - 1)) = 0 then some (-2, m) else gIf (vp_in a2 8) <| bnd (F_X0_part m (20 + a2.toNatClampNeg) (nI k)) fun v21 m22 => gIf (vp_in a2 8) <| bnd (F_X0_lay m22 (20 + a2.toNatClampNeg) (nI k) a3) fun v27 m28 => some (v21, m28) := by
      simp only [F_X5_set, xi_0_5, hw, bnd_eq, bzt0, if_false]
      rw [gIf_pos (vp_n (by omega) (by decide)), gIf_pos (vp_n (by omega) (by decide)), nI_c (by omega), x_isBetween, bnd_eq, x_isCoin hX, bnd_eq]
    have eM : ∀ x, RepM v x → F_X6_set x (nI k) a2 a3 = if nI k ≤ 0 then F_X6_set_24 x (nI k) a2 a3 else if bz (btw a2 0 ((vn v : Int) - 1)) = 0 then some (-2, x) else F_X6_set_24 x (nI k) a2 a3 := fun x hx => by
      simp only [F_X6_set, mi_0_5, hw, bnd_eq, bzt0, if_false, m_isCoin hx]
    cases hb : btw a3 (fLEAST k).toInt (fMOST k).toInt with
    | false =>
      refine roE hI (-2) ?_ ?_
      · rw [eX, hb, if_pos (by decide)]
      · rw [eM m hM, m_set24 m hk, hb, if_pos (show bz false = 0 from rfl), ite_self, ite_self]
    | true =>
      by_cases k0 : k = 0
      · subst k0
        have hx0 : Ag pXc m (wD m 0 0 a3) := Ag.d (Or.inr (Or.inl ⟨rfl, rfl⟩))
        have hM1 := hM.agL (fun _ _ z => pXc.low z) hx0
        refine ⟨vd v, wD m 0 0 a3, wD (wD m 0 0 a3) 40 7 a3, ?_, ?_, ?_⟩
        · show F_X5_set m (nI 0) a2 a3 = _
          rw [eX, hb, if_neg (by decide), if_pos (by decide), hX.2.2.2.1]; rfl
        · show F_X6_set (wD m 0 0 a3) (nI 0) a2 a3 = _
          rw [eM _ hM1, if_pos (by decide), m_set24 _ hk, hb, if_neg (by decide)]
          have et : F_X6_told (wD m 0 0 a3) a2 (nI 0) = some (vd v, wD m 0 0 a3) := by
            simp only [F_X6_told, F_X6_told_27, mi_0_11, show btw (nI 0) 0 11 = true from by decide, bnd_eq, bzt0, if_false]
            rw [if_pos (by decide), if_neg (by decide), if_pos (by decide), hM1.2.2.1]
          rw [et, bnd_eq]; rfl
        · exact inv_coins (v' := (vn v, a3, vc v, vS v)) hA hx0 mD_s (fun i hi => by rw [row6_k (by omega)]; exact hX.row (by rw [hvn]; exact hi)) (Ag.d (Or.inr (Or.inl ⟨rfl, rfl⟩))) (hM1.w7 a3) hvn hv hb
      · have n0 : ¬ nI k = 0 := nI_ne0 (by omega) (by omega)
        have nle : ¬ nI k ≤ 0 := nI_nle (by omega) (by omega)
        cases hc : btw a2 0 ((vn v : Int) - 1) with
        | false =>
          refine roE hI (-2) ?_ ?_
          · rw [eX, hb, hc, if_neg (by decide), if_neg n0, if_pos (by decide)]
          · rw [eM m hM, hc, if_neg nle, if_pos (by decide)]
        | true =>
          obtain ⟨c, hc', rfl⟩ := coin_nat hc h8
          have hx0 : Ag pXc m (wD m (20 + c) k a3) := Ag.d (Or.inr (Or.inr ⟨by omega, by omega⟩))
          have hM1 := hM.agL (fun _ _ z => pXc.low z) hx0
          have htF : tF k = k := by unfold tF; rw [if_neg (by omega)]
          refine ⟨vc v c k, wD m (20 + c) k a3, wD (wD m (20 + c) k a3) 45 (5 * c + (k - 1)) a3, ?_, ?_, ?_⟩
          · show F_X5_set m (nI k) (nI c) a3 = _
            rw [eX, hb, hc, if_neg (by decide), if_neg n0, if_neg (by decide), gIf_pos (hX.vp hc'), nI_c (by omega), part_k m _ (by omega), bnd_eq, gIf_pos (hX.vp hc'), x_lay5 m (by omega), bnd_eq, htF, hX.fld hc' (by omega)]
          · show F_X6_set (wD m (20 + c) k a3) (nI k) (nI c) a3 = _
            rw [eM _ hM1, hc, if_neg nle, if_neg (by decide), m_set24 _ hk, hb, if_neg (by decide), m_told6 hM1 hc' (by omega), bnd_eq, m_lays5 _ (by omega) (by omega), bnd_eq, htF]
          · refine inv_coins (v' := upC v c (upf (vc v c) k a3)) hA hx0 (by rw [mD_k (by omega)]; exact hX.2.2.2.1) (fun i hi => ?_) (Ag.d (Or.inr (Or.inr rfl))) (hM1.w45 (by omega) a3) hvn (fun i hi => ?_) hvd
            · show _ = if i = c then upf (vc v c) k a3 else vc v i
              by_cases e : i = c
              · subst e; rw [if_pos rfl, row6_w (by omega), hX.row hc']
              · rw [if_neg e, row6_k (by omega)]; exact hX.row (by rw [hvn]; exact hi)
            · show CB (if i = c then _ else vc v i)
              split
              · exact (hv c hc').set (by omega) hb
              · exact hv i hi
/-! pay -/
theorem pm_pay (a1 a2 : Int32) : PM (fun m => F_X5_pay m a1 a2) (fun m => F_X6_pay m a1 a2) := by
  intro m hI
  obtain ⟨n, tc, j, TQ, TS, hA, v, hvw, hX, hM, hv, hvn, hvd⟩ := hI.open_
  have h8 := hM.1
  cases hc : btw a1 0 ((vn v : Int) - 1) with
  | false => exact roE hI (-2) (by simp only [F_X5_pay, x_isCoin hX, hc, bnd_eq, bzf0, if_true]) (by simp only [F_X6_pay, m_isCoin hM, hc, bnd_eq, bzf0, if_true])
  | true =>
    cases ho : btw a2 0 3 with
    | false => exact roE hI (-2) (by simp only [F_X5_pay, x_isCoin hX, x_isOwner, hc, ho, bnd_eq, bzf0, bzt0, if_true, if_false]) (by simp only [F_X6_pay, m_isCoin hM, m_isOwner, hc, ho, bnd_eq, bzf0, bzt0, if_true, if_false])
    | true =>
      obtain ⟨c, hc', rfl⟩ := coin_nat hc h8
      have eX : F_X5_pay m (nI c) a2 = bnd (F_X5_isWholeBehind m (20 + c) 0) fun v16 m17 => if bz v16 = 0 then some (-3, m17) else if vc v c 5 = a2 then some (-3, m17) else bnd (F_X0_goTo m17 (20 + c) a2) fun v24 m25 => some (vc v c 5, m25) := by
        simp only [F_X5_pay, x_isCoin hX, x_isOwner, hc, ho, bnd_eq, bzt0, if_false, nm, gIf_pos (hX.vp hc'), nI_c (show c < 1000 by omega), hX.fld hc' (show 5 < 6 by decide)]
      have eM : ∀ x, RepM v x → F_X6_pay x (nI c) a2 = bnd (F_X6_isWhole x (nI c)) fun v13 m14 => if bz v13 = 0 then some (-3, m14) else if vc v c 5 = a2 then some (-3, m14) else bnd (F_X6_pays m14 (nI c) a2) fun v19 m20 => some (vc v c 5, m20) := fun x hx => by
        simp only [F_X6_pay, m_isCoin hx, m_isOwner, hc, ho, bnd_eq, bzt0, if_false, nm, m5, nI_4, gIf_pos (vp_n (show 5 * c + 4 < 40 by omega) (by decide)), nI_c (show 5 * c + 4 < 1000 by omega), hx.k5 hc']
      obtain ⟨m1, e1, a1, h1⟩ := x_isWhole hX (nSt (hX.lt8 hc')) (hX.row hc') 0
      have ax1 : Ag pX m m1 := a1.mono fun _ _ z => pSt.x z
      by_cases hwh : bz (whole v (vc v c) 0) = 0 ∨ vc v c 5 = a2
      · refine ro hI (-3) ?_ fun x ha => ?_
        · rw [eX, e1, bnd_eq]
          refine Ev.step ax1 ?_
          by_cases hb : bz (whole v (vc v c) 0) = 0
          · rw [if_pos hb]; exact Ev.ret trivial
          · rw [if_neg hb, if_pos (hwh.resolve_left hb)]; exact Ev.ret trivial
        · have hx := hM.agX ha
          rw [eM x hx]
          refine (Ev.bd (R := TT) (m_isWhole hx hv hc') fun y _ => ?_).c
          by_cases hb : bz (whole v (vc v c) 0) = 0
          · rw [if_pos hb]; exact Ev.ret trivial
          · rw [if_neg hb, if_pos (hwh.resolve_left hb)]; exact Ev.ret trivial
      · have hb : ¬ bz (whole v (vc v c) 0) = 0 := fun z => hwh (Or.inl z)
        have hne : ¬ vc v c 5 = a2 := fun z => hwh (Or.inr z)
        obtain ⟨m2, e2, a2', r2⟩ := x_goTo m1 (20 + c) a2
        have ax2 : Ag pXc m m2 := (ax1.mono fun _ _ z => Or.inl z).tr (a2'.mono fun k i z => Or.inr (Or.inr (by omega)))
        have hM2 := hM.agL (fun _ _ z => pXc.low z) ax2
        obtain ⟨m3, e3, a3, -⟩ := m_isWhole hM2 hv hc'
        obtain ⟨m4, e4, a4, r4⟩ := m_pays (hM2.aga a3) hc' a2
        refine ⟨vc v c 5, m2, m4, ?_, ?_, ?_⟩
        · show F_X5_pay m (nI c) a2 = _
          rw [eX, e1, bnd_eq, if_neg hb, if_neg hne, e2, bnd_eq]
        · show F_X6_pay m2 (nI c) a2 = _
          rw [eM m2 hM2, e3, bnd_eq, if_neg hb, if_neg hne, e4, bnd_eq]
        · refine inv_coins (v' := pay1 v c a2) hA ax2 ?_ (fun i hi => ?_) ((a3.mono fun _ _ z => Or.inl (pSa.c z)).tr (a4.mono fun k i z => by unfold pBk at z; omega)) r4 hvn (hv.pay1 ho c hc') hvd
          · rw [a2'.2 0 0 (by omega), ax1.2 0 0 (by unfold pX pSt; omega)]; exact hX.2.2.2.1
          · show _ = if i = c then paid (vc v c) a2 else vc v i
            have e0 : ∀ q, q < n → row6 (mD m1 (20 + q)) = vc v q := fun q hq => h1.row (by rw [hvn]; exact hq)
            by_cases e : i = c
            · subst e; rw [if_pos rfl, r2, e0 i hi]; rfl
            · rw [if_neg e, row6_ag (m := m1) a2' (fun _ => by omega)]; exact e0 i hi
/-! day -/
theorem x_day64 {v : VW} {w : Int32} : ∀ (r i fu : Nat) (x : Mem), i + r = vn v → vn v ≤ 8 → r < fu → mD x 0 2 = nI (vn v) → mD x 0 0 = vd v → (∀ q, q < vn v → row6 (mD x (20 + q)) = if q < i then upf (vc v q) 4 (ag (vc v q) 1) else vc v q) → Ev (fun k i => (k = 0 ∧ i = 0) ∨ (20 ≤ k ∧ k ≤ 27)) (fun x' => mD x' 0 0 = vd v + 1 ∧ ∀ q, q < vn v → row6 (mD x' (20 + q)) = upf (vc v q) 4 (ag (vc v q) 1)) (F_X5_day_64 fu x w (nI i)) x w := by
  intro r
  induction r with
  | zero =>
    intro i fu x hi h8 hf h02 h00 hr
    cases fu with
    | zero => omega
    | succ fu =>
      have : i = vn v := by omega
      subst this
      unfold F_X5_day_64
      rw [h02, if_pos (Int32.le_refl _), h00]
      refine Ev.namW (Or.inl ⟨rfl, rfl⟩) (Ev.ret ⟨mD_s, fun q hq => ?_⟩)
      rw [row6_k (by omega), hr q hq, if_pos hq]
  | succ r ih =>
    intro i fu x hi h8 hf h02 h00 hr
    cases fu with
    | zero => omega
    | succ fu =>
      unfold F_X5_day_64
      rw [h02, if_neg (nI_ge (show i < vn v by omega) (by omega)), gIf_pos (vp_n (by omega) (by decide)), gIf_pos (vp_n (by omega) (by decide)), nI_c (by omega), x_age, bnd_eq, hr i (by omega), if_neg (Nat.lt_irrefl i), nI_1]
      refine Ev.namW (Or.inr ⟨by omega, by omega⟩) (ih (i + 1) fu _ (by omega) h8 (by omega) (by rw [mD_k (by omega)]; exact h02) (by rw [mD_k (by omega)]; exact h00) (fun q hq => ?_))
      by_cases e : q = i
      · subst e; rw [row6_w (by decide), hr q hq, if_neg (Nat.lt_irrefl q), if_pos (by omega)]
      · rw [row6_k (by omega), hr q hq]
        by_cases l : q < i
        · rw [if_pos l, if_pos (by omega)]
        · rw [if_neg l, if_neg (by omega)]
theorem x_day0 {v : VW} {m : Mem} (h : RepX v m) : Ev pXc (fun x' => mD x' 0 0 = vd v + 1 ∧ ∀ q, q < vn v → row6 (mD x' (20 + q)) = upf (vc v q) 4 (ag (vc v q) 1)) (F_X5_day_17 FU m 0 0) m (tcnt v) := by
  have key : ∀ (r i fu : Nat) (x : Mem) (s : Int32), i + r = vn v → r < fu → RepX v x → Ev pXc (fun x' => mD x' 0 0 = vd v + 1 ∧ ∀ q, q < vn v → row6 (mD x' (20 + q)) = upf (vc v q) 4 (ag (vc v q) 1)) (F_X5_day_17 fu x s (nI i)) x (fold (fun i s => if whole v (vc v i) 0 = true ∧ ¬ whole v (vc v i) 1 = true then s + 1 else s) i r s) := by
    intro r
    induction r with
    | zero =>
      intro i fu x s hi hf h
      cases fu with
      | zero => omega
      | succ fu =>
        have : i = vn v := by omega
        subst this
        unfold F_X5_day_17
        rw [if_pos h.ex]
        exact (x_day64 (vn v) 0 FU x (by omega) h.2.1 (hFU (by have := h.2.1; omega)) h.2.2.1 h.2.2.2.1 (fun q hq => by rw [if_neg (Nat.not_lt_zero q)]; exact h.row hq)).mono (fun k i z => Or.inr z)
    | succ r ih =>
      intro i fu x s hi hf h
      cases fu with
      | zero => omega
      | succ fu =>
        have hi' : i < vn v := by omega
        have h8 := h.lt8 hi'
        unfold F_X5_day_17 F_X5_day_56
        rw [if_neg (h.hd hi'), gIf_pos (h.vp hi'), nI_c (by omega), nI_1]
        show Ev pXc _ _ x (fold _ (i + 1) r (if whole v (vc v i) 0 = true ∧ ¬ whole v (vc v i) 1 = true then s + 1 else s))
        refine Ev.bdM (x_isWhole h (nSt h8) (h.row hi') 0) (fun _ _ z => Or.inl (pSt.x z)) fun x1 _ h1 => ?_
        simp only [bz0]
        cases w0 : whole v (vc v i) 0 with
        | false =>
          rw [if_pos rfl, if_neg (by simp)]
          exact ih (i + 1) fu x1 s (by omega) (by omega) h1
        | true =>
          rw [if_neg (by decide), gIf_pos (h.vp hi')]
          refine Ev.bdM (x_isWhole h1 (nSt h8) (h1.row hi') 1) (fun _ _ z => Or.inl (pSt.x z)) fun x2 _ h2 => ?_
          cases w1 : whole v (vc v i) 1 with
          | false =>
            rw [if_pos rfl, if_pos (by simp)]
            exact ih (i + 1) fu x2 (s + 1) (by omega) (by omega) h2
          | true =>
            rw [if_neg (by decide), if_neg (by simp)]
            exact ih (i + 1) fu x2 s (by omega) (by omega) h2
  exact key (vn v) 0 FU m 0 (by omega) (hFU (by have := h.2.1; omega)) h
theorem pm_day : PM (fun m => F_X5_day m) (fun m => F_X6_day m) := by
  intro m hI
  obtain ⟨n, tc, j, TQ, TS, hA, v, hvw, hX, hM, hv, hvn, hvd⟩ := hI.open_
  have h8 := hM.1
  obtain ⟨d, hd, ed⟩ := btw_nat (hi := 999) hvd (by decide)
  by_cases h9 : d = 999
  · subst h9
    refine roE hI (-3) ?_ ?_
    · show F_X5_day m = _
      unfold F_X5_day; rw [hX.2.2.2.1, ed, if_neg (by decide)]
    · show F_X6_day m = _
      unfold F_X6_day; rw [hM.2.2.1, ed, if_pos (by decide)]
  · obtain ⟨m1, e1, a1, x1, x2⟩ := x_day0 hX
    have hM1 := hM.agL (fun _ _ z => pXc.low z) a1
    obtain ⟨m2, e2, a2, r2⟩ := m_passes hM1 hv
    refine ⟨tcnt v, m1, m2, ?_, ?_, ?_⟩
    · show F_X5_day m = _
      unfold F_X5_day; rw [hX.2.2.2.1, ed, if_pos (show nI d < 999 from nI_lt (b := 999) (by omega) (by omega)), e1]
    · show F_X6_day m1 = _
      unfold F_X6_day
      rw [hM1.2.2.1, ed, if_neg (show ¬ nI d = 999 from fun z => h9 ((nI_eq (b := 999) (by omega) (by omega)).mp z)), e2, bnd_eq]
    · refine inv_coins (v' := nx v 1) hA a1 x1 (fun i hi => x2 i (by rw [hvn]; exact hi)) (a2.mono fun k i z => by unfold pPs at z; rcases z with z | z | z; exact Or.inl (pSa.c z); exact Or.inr (Or.inr z.1); exact Or.inr (Or.inl z)) r2 hvn (hv.nx (by decide)) ?_
      show btw (vd v + nI 1) 0 999 = true
      rw [ed, nI_ad]
      exact nI_rng (lo := 0) (hi := 999) (by omega) (by omega) (by decide)
/-! buy -/
def byi (v : VW) (set to : Int32) (k : Nat) : VW := (vn v, vd v, (fun i => if i < k ∧ hb set (nI i) = true then paid (vc v i) to else vc v i), vS v)
theorem x_buyL {v : VW} {set to : Int32} : ∀ (r i fu : Nat) (x : Mem), i + r = vn v → vn v ≤ 8 → r < fu → mD x 0 2 = nI (vn v) → (∀ q, q < vn v → row6 (mD x (20 + q)) = vc (byi v set to i) q) → Ev (fun k _ => 20 ≤ k ∧ k ≤ 27) (fun x' => ∀ q, q < vn v → row6 (mD x' (20 + q)) = vc (byi v set to (vn v)) q) (F_X5_buy_42 fu x to set (nI i)) x (bc set) := by
  intro r
  induction r with
  | zero =>
    intro i fu x hi h8 hf h02 hr
    cases fu with
    | zero => omega
    | succ fu =>
      have : i = vn v := by omega
      subst this
      unfold F_X5_buy_42
      rw [h02, if_pos (Int32.le_refl _), x_bc, bnd_eq]
      exact Ev.ret hr
  | succ r ih =>
    intro i fu x hi h8 hf h02 hr
    cases fu with
    | zero => omega
    | succ fu =>
      unfold F_X5_buy_42 F_X5_buy_72
      rw [h02, if_neg (nI_ge (show i < vn v by omega) (by omega)), x_holds, bnd_eq, nI_1]
      have hri : vc (byi v set to i) i = vc v i := if_neg (fun z => Nat.lt_irrefl i z.1)
      simp only [bz0]
      cases hh : hb set (nI i) with
      | false =>
        rw [if_pos rfl]
        refine ih (i + 1) fu x (by omega) h8 (by omega) h02 (fun q hq => ?_)
        rw [hr q hq]
        show (if q < i ∧ _ then _ else _) = if q < i + 1 ∧ _ then _ else _
        by_cases e : q = i
        · subst e; rw [if_neg (by rintro ⟨_, z⟩; rw [hh] at z; cases z), if_neg (by rintro ⟨_, z⟩; rw [hh] at z; cases z)]
        · by_cases l : q < i ∧ hb set (nI q) = true
          · rw [if_pos l, if_pos ⟨by omega, l.2⟩]
          · rw [if_neg l, if_neg (fun z => l ⟨by omega, z.2⟩)]
      | true =>
        rw [if_neg (by decide), gIf_pos (vp_n (by omega) (by decide)), nI_c (by omega)]
        obtain ⟨x1, e1, a1, r1⟩ := x_goTo x (20 + i) to
        rw [e1, bnd_eq]
        refine Ev.step (a1.mono fun k _ z => by omega) (ih (i + 1) fu x1 (by omega) h8 (by omega) (by rw [a1.2 0 2 (by omega)]; exact h02) (fun q hq => ?_))
        show _ = if q < i + 1 ∧ hb set (nI q) = true then paid (vc v q) to else vc v q
        by_cases e : q = i
        · subst e; rw [r1, hr q hq, hri, if_pos ⟨by omega, hh⟩]; rfl
        · rw [row6_ag (m := x) a1 (fun _ => by omega), hr q hq]
          show (if q < i ∧ _ then _ else _) = _
          by_cases l : q < i ∧ hb set (nI q) = true
          · rw [if_pos l, if_pos ⟨by omega, l.2⟩]
          · rw [if_neg l, if_neg (fun z => l ⟨by omega, z.2⟩)]
theorem m_buyL {v : VW} {k to : Int32} {set : Nat} (hset : set < 256) : ∀ (r i fu : Nat) (x : Mem), i + r = vn v → r < fu → RepM (byi v (nI set) to i) x → Ev pBk (RepM (byi v (nI set) to (vn v))) (F_X6_buy_54 fu x to (nI set) (nI i)) x (bc (nI set)) := by
  intro r
  induction r with
  | zero =>
    intro i fu x hi hf h
    cases fu with
    | zero => omega
    | succ fu =>
      have : i = vn v := by omega
      subst this
      unfold F_X6_buy_54
      rw [if_pos (show mD x 40 10 ≤ nI (vn v) from h.ex), m_bits x hset, bnd_eq]
      exact Ev.ret h
  | succ r ih =>
    intro i fu x hi hf h
    cases fu with
    | zero => omega
    | succ fu =>
      have hi' : i < vn v := by omega
      unfold F_X6_buy_54 F_X6_buy_81
      rw [if_neg (show ¬ mD x 40 10 ≤ nI i from h.hd hi'), nI_1]
      simp only [hb_iff]
      have hri : vc (byi v (nI set) to i) i = vc v i := if_neg (fun z => Nat.lt_irrefl i z.1)
      by_cases hh : hb (nI set) (nI i) = true
      · rw [if_pos hh]
        refine Ev.bd (m_pays h hi' to) fun x1 h1 => ih (i + 1) fu x1 (by omega) (by omega) (h1.congr rfl rfl (fun q hq => ?_) rfl)
        show (if q < i + 1 ∧ hb (nI set) (nI q) = true then paid (vc v q) to else vc v q) = if q = i then paid (vc (byi v (nI set) to i) i) to else if q < i ∧ hb (nI set) (nI q) = true then paid (vc v q) to else vc v q
        by_cases e : q = i
        · subst e; rw [if_pos rfl, if_pos ⟨by omega, hh⟩, hri]
        · rw [if_neg e]
          by_cases l : q < i ∧ hb (nI set) (nI q) = true
          · rw [if_pos l, if_pos ⟨by omega, l.2⟩]
          · rw [if_neg l, if_neg (fun z => l ⟨by omega, z.2⟩)]
      · rw [if_neg hh]
        refine ih (i + 1) fu x (by omega) (by omega) (h.congr rfl rfl (fun q hq => ?_) rfl)
        show (if q < i + 1 ∧ hb (nI set) (nI q) = true then paid (vc v q) to else vc v q) = if q < i ∧ hb (nI set) (nI q) = true then paid (vc v q) to else vc v q
        by_cases e : q = i
        · subst e; rw [if_neg (fun z => hh z.2), if_neg (fun z => hh z.2)]
        · by_cases l : q < i ∧ hb (nI set) (nI q) = true
          · rw [if_pos l, if_pos ⟨by omega, l.2⟩]
          · rw [if_neg l, if_neg (fun z => l ⟨by omega, z.2⟩)]
theorem exact_fnd {v : VW} (h8 : vn v ≤ 8) (p price : Int32) : fnd (exact_ v p price) := by
  rw [exact_eq h8]
  have hp := (pow8 (vn v) (by omega)).2
  exact fold_pres (I := fnd) (2 ^ vn v) 0 (-1) (fun i s _ hi hs => by
    have hi' : fnd (nI i) := Or.inr ⟨i, by omega, rfl⟩
    unfold exS; repeat' split
    all_goals first | exact hs | exact hi') (Or.inl rfl)
theorem pm_buy (a1 a2 a3 : Int32) : PM (fun m => F_X5_buy m a1 a2 a3) (fun m => F_X6_buy m a1 a2 a3) := by
  intro m hI
  obtain ⟨n, tc, j, TQ, TS, hA, v, hvw, hX, hM, hv, hvn, hvd⟩ := hI.open_
  have h8 := hM.1
  cases ho : btw a1 0 3 with
  | false => exact roE hI (-2) (by simp only [F_X5_buy, x_two, ho, Bool.false_and, bnd_eq, bzf0, if_true]) (by simp only [F_X6_buy, m_isOwner, ho, bnd_eq, bzf0, if_true])
  | true =>
    cases hp : btw a2 0 3 with
    | false => exact roE hI (-2) (by simp only [F_X5_buy, x_two, ho, hp, Bool.and_false, Bool.false_and, bnd_eq, bzf0, if_true]) (by simp only [F_X6_buy, m_isOwner, ho, hp, bnd_eq, bzf0, bzt0, if_true, if_false])
    | true =>
      by_cases he : a1 = a2
      · exact roE hI (-2) (by simp only [F_X5_buy, x_two, ho, hp, he, not_true_eq_false, decide_false, Bool.and_false, bnd_eq, bzf0, if_true]) (by simp only [F_X6_buy, m_isOwner, ho, hp, bnd_eq, bzt0, if_false]; rw [if_pos he])
      · cases hw : btw a3 0 999 with
        | false => exact roE hI (-2) (by simp only [F_X5_buy, x_two, xi_0_999, ho, hp, hw, he, not_false_eq_true, decide_true, Bool.and_true, bnd_eq, bzf0, bzt0, if_true, if_false]) (by simp only [F_X6_buy, m_isOwner, mi_0_999, ho, hp, hw, bnd_eq, bzf0, bzt0, if_true, if_false]; rw [if_neg he])
        | true =>
          have eX : F_X5_buy m a1 a2 a3 = bnd (F_X5_exactSet m a1 a3) fun v11 m12 => if v11 = -1 then some (-3, m12) else F_X5_buy_42 FU m12 a2 v11 0 := by
            simp only [F_X5_buy, x_two, xi_0_999, ho, hp, hw, he, not_false_eq_true, decide_true, Bool.and_true, bnd_eq, bzt0, if_false]
          have eM : ∀ x, F_X6_buy x a1 a2 a3 = bnd (F_X6_exactOf x a1 a3) fun v17 m18 => if v17 = -1 then some (-3, m18) else F_X6_buy_54 FU m18 a2 v17 0 := fun x => by
            simp only [F_X6_buy, m_isOwner, mi_0_999, ho, hp, hw, bnd_eq, bzt0, if_false]; rw [if_neg he]
          obtain ⟨m1, e1, a1', h1⟩ := x_exact hX a1 a3
          have ax1 : Ag pX m m1 := a1'.mono fun _ _ z => pSt.x z
          rcases exact_fnd h8 a1 a3 with hN | ⟨s, hs, eS⟩
          · refine ro hI (-3) ?_ fun x ha => ?_
            · rw [eX, e1, bnd_eq, if_pos hN]; exact Ev.step ax1 (Ev.ret trivial)
            · rw [eM]
              have := m_exact0 (hM.agX ha) hv a1 a3
              rw [← exact_eq h8, hN] at this
              exact (Ev.bd (R := TT) this fun y _ => by rw [if_pos rfl]; exact Ev.ret trivial).c
          · have hne : ¬ nI s = -1 := nI_nm1 (by omega)
            have b0 : ∀ q, vc (byi v (nI s) a2 0) q = vc v q := fun q => show (if q < 0 ∧ hb (nI s) (nI q) = true then paid (vc v q) a2 else vc v q) = vc v q from if_neg (fun z => Nat.not_lt_zero q z.1)
            obtain ⟨m2, e2, a2', r2⟩ := x_buyL (v := v) (set := nI s) (to := a2) (vn v) 0 FU m1 (by omega) h8 (hFU (by omega)) h1.2.2.1 (fun q hq => by rw [b0]; exact h1.row hq)
            have ax2 : Ag pXc m m2 := (ax1.mono fun _ _ z => Or.inl z).tr (a2'.mono fun k i z => Or.inr (Or.inr z))
            have hM2 := hM.agL (fun _ _ z => pXc.low z) ax2
            obtain ⟨m3, e3, a3', h3⟩ := m_exact0 hM2 hv a1 a3
            obtain ⟨m4, e4, a4, r4⟩ := m_buyL (v := v) (k := 0) (to := a2) hs (vn v) 0 FU m3 (by omega) (hFU (by omega)) (h3.congr rfl rfl (fun q _ => b0 q) rfl)
            rw [← exact_eq h8, eS] at e3
            rw [eS] at e1
            refine ⟨bc (nI s), m2, m4, ?_, ?_, ?_⟩
            · show F_X5_buy m a1 a2 a3 = _
              rw [eX, e1, bnd_eq, if_neg hne]; exact e2
            · show F_X6_buy m2 a1 a2 a3 = _
              rw [eM, e3, bnd_eq, if_neg hne]; exact e4
            · refine inv_coins (v' := byi v (nI s) a2 (vn v)) hA ax2 ?_ (fun i hi => r2 i (by rw [hvn]; exact hi)) ((a3'.mono fun _ _ z => Or.inl (pSa.c z)).tr (a4.mono fun k i z => by unfold pBk at z; omega)) r4 hvn (fun i hi => ?_) hvd
              · rw [a2'.2 0 0 (by omega), ax1.2 0 0 (by unfold pX pSt; omega)]; exact hX.2.2.2.1
              · show CB (if _ then _ else vc v i)
                split
                · exact (hv i hi).paid hp
                · exact hv i hi
