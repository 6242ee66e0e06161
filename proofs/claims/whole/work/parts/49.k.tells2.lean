/-! tells -/
theorem fo_congr {v : VW} {its its' : Nat → Int32} {r : Nat → Int32} {sz : Nat} (h : ∀ k, k < sz → its k = its' k) : fo v its sz r = fo v its' sz r := by
  unfold fo
  have : ∀ l k, k + l ≤ sz → foF (fun k => decide (wor v r (nI k) = its k)) l k = foF (fun k => decide (wor v r (nI k) = its' k)) l k := by
    intro l
    induction l with
    | zero => intros; rfl
    | succ l ih =>
      intro k hk
      unfold foF
      rw [h k (by omega), ih (k + 1) (by omega)]
  exact this sz 0 (by omega)
theorem orS_congr {f g : Nat → Bool} (lo : Nat) : ∀ (r : Nat) (s : Int32), (∀ x, lo ≤ x → x < lo + r → f x = g x) → fold (orS f) lo r s = fold (orS g) lo r s := by
  intro r
  induction r with
  | zero => intros; rfl
  | succ r ih =>
    intro s h
    rw [fold_snoc, fold_snoc, ih s (fun x h1 h2 => h x h1 (by omega))]
    unfold orS; rw [h (lo + r) (by omega) (by omega)]
theorem ctS_congr {f g : Nat → Bool} (lo : Nat) : ∀ (r : Nat) (s : Int32), (∀ x, lo ≤ x → x < lo + r → f x = g x) → fold (ctS f) lo r s = fold (ctS g) lo r s := by
  intro r
  induction r with
  | zero => intros; rfl
  | succ r ih =>
    intro s h
    rw [fold_snoc, fold_snoc, ih s (fun x h1 h2 => h x h1 (by omega))]
    unfold ctS; rw [h (lo + r) (by omega) (by omega)]
theorem slA_congr {f g : Nat → Bool} : ∀ (r lo : Nat) (d : Int32), (∀ x, lo ≤ x → x < lo + r → f x = g x) → slA f r lo d = slA g r lo d := by
  intro r
  induction r with
  | zero => intros; rfl
  | succ r ih =>
    intro lo d h
    unfold slA
    rw [h lo (by omega) (by omega), ih (lo + 1) d (fun x h1 h2 => h x (by omega) (by omega))]
theorem CB.lay {r : Nat → Int32} (h : CB r) {so x : Nat} (hs : tOk so) (h7 : ¬ so = 7) (hx : (so = 6 → x ≤ 5) ∧ (so = 1 → x ≤ 9) ∧ (so = 3 → x ≤ 9) ∧ (so = 2 → 1 ≤ x) ∧ x ≤ 99) : CB (upf r (tF so) (nI x)) := by
  obtain ⟨h1, h2, h3, h4, h5, h6⟩ := h
  obtain ⟨x1, x2, x3, x4, x5⟩ := hx
  rcases hs with rfl | rfl | rfl | rfl | rfl | rfl
  · exact ⟨h1, nI_rng (lo := 0) (hi := 9) (by omega) (x2 rfl) (by decide), h3, h4, h5, h6⟩
  · exact ⟨h1, h2, nI_rng (lo := 1) (hi := 99) (x4 rfl) x5 (by decide), h4, h5, h6⟩
  · exact ⟨h1, h2, h3, nI_rng (lo := 0) (hi := 9) (by omega) (x3 rfl) (by decide), h5, h6⟩
  · exact ⟨h1, h2, h3, h4, nI_rng (lo := 0) (hi := 999) (by omega) (by omega) (by decide), h6⟩
  · exact ⟨nI_rng (lo := 0) (hi := 5) (by omega) (x1 rfl) (by decide), h2, h3, h4, h5, h6⟩
  · exact absurd rfl h7
theorem rm_lay {v : VW} {m m' : Mem} {c so : Nat} (h : RepM v m) (hs : tOk so) (h7 : ¬ so = 7) (x : Int32) (ha : Ag (fun k i => pSc k i ∨ (k = tK so ∧ i = tI so c)) m m') (hx : mD m' (tK so) (tI so c) = x) : RepM (upC v c (upf (vc v c) (tF so) x)) m' := by
  have h1 : RepM (upC v c (upf (vc v c) (tF so) x)) (wD m (tK so) (tI so c) x) := by
    rcases hs with rfl | rfl | rfl | rfl | rfl | rfl
    · exact h.w45 (f := 1) (by omega) x
    · exact h.w45 (f := 2) (by omega) x
    · exact h.w45 (f := 3) (by omega) x
    · exact h.w45 (f := 4) (by omega) x
    · exact h.w44 x
    · exact absurd rfl h7
  refine h1.ag ⟨show SameSh (wD m (tK so) (tI so c) x) m' from ha.1, fun k i hp => ?_⟩
  rw [mD_wD]
  by_cases e : k = tK so ∧ i = tI so c
  · rw [if_pos e, e.1, e.2]; exact hx
  · rw [if_neg e]; exact ha.2 k i (by rintro (z | z); exact hp z; exact e z)
theorem rm_rule {v : VW} {m m' : Mem} {c x : Nat} {S : Nat → (Int32 → Int32) → Int32} (h : RepM v m) (hx6 : x < 6) (hS : MTx m x S) (ha : Ag (fun k i => pSc k i ∨ (k = tK 7 ∧ i = tI 7 c)) m m') (hx : mD m' (tK 7) (tI 7 c) = nI x) : RepM (withS v S) m' := by
  have e : ∀ k i, ¬ pSc k i → ¬ (k = 40 ∧ i = 4) → mD m' k i = mD m k i := fun k i h1 h2 => ha.2 k i (by rintro (z | z); exact h1 z; exact h2 z)
  obtain ⟨a, b, cc, d, -⟩ := h
  refine ⟨a, ?_, ?_, fun i hi => ?_, x, hx6, hx, hS.ag ha (fun i => by rintro (z | z); (unfold pSc at z; omega); exact absurd z.1 (by decide)) (fun i => by rintro (z | z); (unfold pSc at z; omega); exact absurd z.1 (by decide))⟩
  · rw [e 40 10 (by unfold pSc; omega) (by omega)]; exact b
  · rw [e 40 7 (by unfold pSc; omega) (by omega)]; exact cc
  · show mrow m' i = vc v i
    rw [← d i hi]
    funext f; unfold mrow
    rw [e 44 i (by unfold pSc; omega) (by omega), e 45 _ (by unfold pSc; omega) (by omega)]
theorem t144_6 (m : Mem) (a b wh was : Int32) : F_X6_tells_144 m a b wh (nI 6) was = F_X6_tells_207 FU m a b wh (nI 6) was 0 0 (-1) (nI (0 + 6) + -1) := by
  unfold F_X6_tells_144 F_X6_tells_192
  rw [if_neg (by decide), if_pos (by decide), show nI (0 + 6) + -1 = 5 from by decide]
theorem t144_1 (m : Mem) (a b wh was : Int32) : F_X6_tells_144 m a b wh (nI 1) was = F_X6_tells_207 FU m a b wh (nI 1) was 0 0 (-1) (nI (0 + 10) + -1) := by
  unfold F_X6_tells_144 F_X6_tells_185 F_X6_tells_192
  rw [if_neg (by decide), if_neg (by decide), if_pos (by decide), show nI (0 + 10) + -1 = 9 from by decide]
theorem t144_3 (m : Mem) (a b wh was : Int32) : F_X6_tells_144 m a b wh (nI 3) was = F_X6_tells_207 FU m a b wh (nI 3) was 0 0 (-1) (nI (0 + 10) + -1) := by
  unfold F_X6_tells_144 F_X6_tells_185 F_X6_tells_192
  rw [if_neg (by decide), if_neg (by decide), if_neg (by decide), if_pos (by decide), show nI (0 + 10) + -1 = 9 from by decide]
theorem t144_4 (m : Mem) (a b wh was : Int32) : F_X6_tells_144 m a b wh (nI 4) was = F_X6_tells_207 FU m a b wh (nI 4) was 0 0 (-1) (nI (0 + 100) + -1) := by
  unfold F_X6_tells_144 F_X6_tells_185 F_X6_tells_192
  rw [if_neg (by decide), if_neg (by decide), if_neg (by decide), if_neg (by decide), show nI (0 + 100) + -1 = 99 from by decide]
theorem t144_2 (m : Mem) (a b wh was : Int32) : F_X6_tells_144 m a b wh (nI 2) was = F_X6_tells_207 FU m a b wh (nI 2) was 0 0 (-1) (nI (1 + 99) + -1) := by
  unfold F_X6_tells_144 F_X6_tells_185 F_X6_tells_192
  rw [if_neg (by decide), if_neg (by decide), if_neg (by decide), if_neg (by decide), show nI (1 + 99) + -1 = 99 from by decide]
theorem ts_1 (a b c : Int32) : tsel (nI 1) (a, b, c) = a := rfl
theorem ts_2 (a b c : Int32) : tsel (nI 2) (a, b, c) = a := rfl
theorem ts_3 (a b c : Int32) : tsel (nI 3) (a, b, c) = a := rfl
theorem ts_4 (a b c : Int32) : tsel (nI 4) (a, b, c) = b := rfl
theorem ts_5 (a b c : Int32) : tsel (nI 5) (a, b, c) = c := rfl
theorem ts_6 (a b c : Int32) : tsel (nI 6) (a, b, c) = b := rfl
theorem ts_7 (a b c : Int32) : tsel (nI 7) (a, b, c) = c := rfl
theorem ts_8 (a b c : Int32) : tsel (nI 8) (a, b, c) = a := rfl
theorem pm_tells (a1 a2 a3 : Int32) : PM (fun m => F_X5_tells m a1 a2 a3) (fun m => F_X6_tells m a1 a2 a3) := by
  intro m hI
  have hI2 := hI
  obtain ⟨hSh, n, tc, j, TQ, TS, hC, hTx, -, hSt, -⟩ := hI2
  obtain ⟨hX, hM, hv⟩ := mk_view hSh hC hTx
  obtain ⟨c1, c2, c3, c4, c5, c6, c7, c8, c9, c10, c11, c12, c13⟩ := hC
  generalize hvw : vw n (TS j) m = v at hX hM hv
  have h8 := hM.1
  have evS : vS v = TS j := by rw [← hvw]; rfl
  cases hs : btw a1 0 3 with
  | false => exact roE hI (-2) (by simp only [F_X5_tells, x_isSheet, hs, bnd_eq, bzf0, if_true]) (by simp only [F_X6_tells, m_isSheet, hs, bnd_eq, bzf0, if_true])
  | true =>
    cases hc : btw a2 0 ((vn v : Int) - 1) with
    | false => exact roE hI (-2) (by simp only [F_X5_tells, x_isSheet, x_isCoin hX, hs, hc, bnd_eq, bzf0, bzt0, if_true, if_false]) (by simp only [F_X6_tells, m_isSheet, m_isCoin hM, hs, hc, bnd_eq, bzf0, bzt0, if_true, if_false])
    | true =>
      cases hw : btw a3 0 9 with
      | false => exact roE hI (-2) (by simp only [F_X5_tells, x_isSheet, x_isCoin hX, xi_0_9, hs, hc, hw, bnd_eq, bzf0, bzt0, if_true, if_false]) (by simp only [F_X6_tells, m_isSheet, m_isCoin hM, mi_0_9, hs, hc, hw, bnd_eq, bzf0, bzt0, if_true, if_false])
      | true =>
        obtain ⟨s, hs', rfl⟩ := btw_nat (hi := 3) hs (by decide)
        obtain ⟨c, hc', rfl⟩ := coin_nat hc h8
        obtain ⟨k, hk, rfl⟩ := btw_nat (hi := 9) hw (by decide)
        have hs4 : s < 4 := by omega
        rcases hSt s hs4 with ⟨st1, st2⟩ | ⟨st1, st2, st3, sz, hz, sz1, sz2, st4⟩
        · refine roE hI (-11) ?_ ?_
          · simp only [F_X5_tells, F_X2_isMissing, x_isSheet, x_isCoin hX, xi_0_9, hs, hc, hw, bnd_eq, bzt0, if_false]
            rw [gIf_pos (vp_n hs4 (by decide)), nI_c (by omega), if_pos st1, bnd_eq, if_neg (by decide)]
          · simp only [F_X6_tells, m_isSheet, m_isCoin hM, mi_0_9, hs, hc, hw, bnd_eq, bzt0, if_false]
            rw [gIf_pos (vp_n hs4 (by decide)), nI_c (by omega), if_pos st2]
        · have hne : ¬ mD m (28 + 2 * s) 0 = -1 := fun z => by
            rw [st2] at z; rw [z] at st3; exact absurd st3 (by decide)
          have eX : F_X5_tells m (nI s) (nI c) (nI k) = if nI k = 0 then bnd (F_X5_theRule m) fun v26 m27 => bnd (F_X5_firstOtherwise m27 (28 + 2 * s) v26 (20 + c)) fun v31 m32 => some (v31, m32) else if nI k = 1 then bnd (F_X5_soBits m (28 + 2 * s) (20 + c) 6) fun v36 m37 => some (v36, m37) else if nI k = 2 then bnd (F_X5_soBits m (28 + 2 * s) (20 + c) 1) fun v36 m37 => some (v36, m37) else if nI k = 3 then bnd (F_X5_soBits m (28 + 2 * s) (20 + c) 3) fun v36 m37 => some (v36, m37) else if nI k = 4 then bnd (F_X5_soCount m (28 + 2 * s) (20 + c) 4 99) fun v36 m37 => some (v36, m37) else if nI k = 5 then bnd (F_X5_soLeast m (28 + 2 * s) (20 + c) 4 99) fun v36 m37 => some (v36, m37) else if nI k = 6 then gIf (vp_in 2 7) <| bnd (F_X5_soCount m (28 + 2 * s) (20 + c) 2 99) fun v36 m37 => some (v36, m37) else if nI k = 7 then gIf (vp_in 2 7) <| bnd (F_X5_soLeast m (28 + 2 * s) (20 + c) 2 99) fun v36 m37 => some (v36, m37) else if nI k = 8 then bnd (F_X5_soTexts m (28 + 2 * s) (20 + c)) fun v36 m37 => some (v36, m37) else bnd (F_X5_soCoins m (28 + 2 * s)) fun v36 m37 => some (v36, m37) := by
            simp only [F_X5_tells, F_X2_isMissing, x_isSheet, x_isCoin hX, xi_0_9, hs, hc, hw, bnd_eq, bzt0, if_false]
            rw [gIf_pos (vp_n hs4 (by decide)), nI_c (by omega), nI_c (by omega), if_neg hne, bnd_eq, if_pos (by decide), gIf_pos (hX.vp hc')]
            rfl
          have eM : ∀ m1, Ag pX m m1 → F_X6_tells m1 (nI s) (nI c) (nI k) = if nI k = 0 then F_X6_tells_52 m1 (nI s) (nI c) (nI k) else if nI k = 9 then F_X6_tells_52 m1 (nI s) (nI c) (nI k) else if nI k = 1 then F_X6_tells_121 m1 (nI s) (nI c) (nI k) 6 else if nI k = 2 then F_X6_tells_121 m1 (nI s) (nI c) (nI k) 1 else if nI k = 3 then F_X6_tells_121 m1 (nI s) (nI c) (nI k) 3 else if (6 : Int32) ≤ nI k then if (8 : Int32) ≤ nI k then F_X6_tells_121 m1 (nI s) (nI c) (nI k) 7 else F_X6_tells_121 m1 (nI s) (nI c) (nI k) 2 else F_X6_tells_121 m1 (nI s) (nI c) (nI k) 4 := fun m1 ha => by
            simp only [F_X6_tells, m_isSheet, m_isCoin (hM.agX ha), mi_0_9, hs, hc, hw, bnd_eq, bzt0, if_false]
            rw [gIf_pos (vp_n hs4 (by decide)), nI_c (by omega), ha.2 50 s (by unfold pX pSt; omega), st1, if_neg (by decide)]
          have hSX : ShtX s sz (fun k => mD m (29 + 2 * s) k) m := ⟨sz1, rfl⟩
          have e52 : ∀ m1, Ag pX m m1 → mD m1 52 s = nI sz := fun m1 ha => by rw [ha.2 52 s (by unfold pX pSt; omega)]; exact sz2
          have e53 : ∀ m1, Ag pX m m1 → ∀ i, mD m1 53 i = mD m 53 i := fun m1 ha i => ha.2 53 i (by unfold pX pSt; omega)
          have fo_eq : ∀ (w : VW) (r : Nat → Int32), fo w (fun k => mD m 53 (40 * s + k)) sz r = fo w (fun k => mD m (29 + 2 * s) k) sz r := fun w r => fo_congr (fun k hk => (st4 k hk).symm)
          -- one of the five
          have five : ∀ (so lo R : Nat) (m1 : Mem) (w : Int32), tOk so → ¬ so = 7 → lo = (if so = 2 then 1 else 0) → lo + R ≤ 100 → (so = 6 → lo + R ≤ 6) → (so = 1 → lo + R ≤ 10) → (so = 3 → lo + R ≤ 10) → Ag pX m m1 → w = tsel (nI k) (fold (orS (fun x => decide (fo v (fun k => mD m (29 + 2 * s) k) sz (upf (vc v c) (tF so) (nI x)) = -1))) lo R 0, fold (ctS (fun x => decide (fo v (fun k => mD m (29 + 2 * s) k) sz (upf (vc v c) (tF so) (nI x)) = -1))) lo R 0, slA (fun x => decide (fo v (fun k => mD m (29 + 2 * s) k) sz (upf (vc v c) (tF so) (nI x)) = -1)) R lo (-1)) → Ev pSc TT (F_X6_tells_207 FU m1 (nI s) (nI c) (nI k) (nI so) (mD m1 (tK so) (tI so c)) 0 0 (-1) (nI (lo + R) + -1)) m1 w := by
            intro so lo R m1 w ho h7 hlo hR r6 r1 r3 ha hw
            have h1 := hM.agX ha
            have key := m_tellL (m0 := m1) (s := s) (c := c) (so := so) (lo := lo) (R := R) (W := fun x => fo v (fun k => mD m (29 + 2 * s) k) sz (upf (vc v c) (tF so) (nI x))) (wh := nI k) ho (by omega) hlo hR (fun x x1 x2 m' ha' hx' => by
              have hr := rm_lay h1 ho h7 (nI x) ha' hx'
              have e52' : mD m' 52 s = nI sz := by rw [ha'.2 52 s (by rintro (z | z); (unfold pSc at z; omega); (have := z.1; unfold tK at this; split at this; omega; split at this <;> omega))]; exact e52 m1 ha
              have e53' : (fun k => mD m' 53 (40 * s + k)) = fun k => mD m 53 (40 * s + k) := funext fun k => by rw [ha'.2 53 _ (by rintro (z | z); (unfold pSc at z; omega); (have := z.1; unfold tK at this; split at this; omega; split at this <;> omega))]; exact e53 m1 ha _
              have hok : OKv (upC v c (upf (vc v c) (tF so) (nI x))) := fun i hi => by
                show CB (if i = c then _ else vc v i)
                split
                · exact (hv c hc').lay ho h7 ⟨fun z => by have := r6 z; omega, fun z => by have := r1 z; omega, fun z => by have := r3 z; omega, fun z => by rw [if_pos z] at hlo; omega, by omega⟩
                · exact hv i hi
              have := m_first hr hok hs4 (show c < vn (upC v c (upf (vc v c) (tF so) (nI x))) from hc') hz e52'
              rw [e53'] at this
              have ec : vc (upC v c (upf (vc v c) (tF so) (nI x))) c = upf (vc v c) (tF so) (nI x) := if_pos rfl
              rw [ec] at this
              rw [← fo_eq]
              exact this)
            rw [tl_all, dnf_fold (orS_comm _), dnf_fold (ctS_comm _)] at key
            rw [hw]
            exact Ev.sc key
          have t121 : ∀ (so : Nat) (m1 : Mem), tOk so → ¬ so = 7 → Ag pX m m1 → F_X6_tells_121 m1 (nI s) (nI c) (nI k) (nI so) = F_X6_tells_144 m1 (nI s) (nI c) (nI k) (nI so) (mD m1 (tK so) (tI so c)) := by
            intro so m1 ho h7 ha
            have h1 := hM.agX ha
            unfold F_X6_tells_121
            have hso : 1 ≤ so ∧ so ≤ 6 := by rcases ho with rfl | rfl | rfl | rfl | rfl | rfl <;> first | omega | exact absurd rfl h7
            rw [if_neg (show ¬ nI so = 7 from fun z => h7 ((nI_eq (b := 7) (by omega) (by omega)).mp z)), m_told6 h1 hc' hso, bnd_eq]
            congr 1
            rcases ho with rfl | rfl | rfl | rfl | rfl | rfl
            · exact (h1.k1 hc').symm
            · exact (h1.k2 hc').symm
            · exact (h1.k3 hc').symm
            · exact (h1.k4 hc').symm
            · exact (h1.k0 hc').symm
            · exact absurd rfl h7
          rcases (show k = 0 ∨ k = 1 ∨ k = 2 ∨ k = 3 ∨ k = 4 ∨ k = 5 ∨ k = 6 ∨ k = 7 ∨ k = 8 ∨ k = 9 by omega) with rfl | rfl | rfl | rfl | rfl | rfl | rfl | rfl | rfl | rfl
          · refine ro hI (fo v (fun k => mD m (29 + 2 * s) k) sz (vc v c)) ?_ fun m1 ha => ?_
            · obtain ⟨q, q1, q2⟩ := x_theRule hX
              rw [eX, if_pos (by decide), q1, bnd_eq]
              exact (Ev.bd (x_first hX q2 (nSt (hX.lt8 hc')) (hX.row hc') hs4 hz sz1) fun _ h => Ev.ret h).x
            · rw [eM m1 ha, if_pos (by decide)]
              unfold F_X6_tells_52
              rw [if_pos (by decide), ← fo_eq, ← show (fun k => mD m1 53 (40 * s + k)) = fun k => mD m 53 (40 * s + k) from funext fun k => e53 m1 ha _]
              exact Ev.bd (m_first (hM.agX ha) hv hs4 hc' hz (e52 m1 ha)) fun _ _ => Ev.ret trivial
          · refine ro hI (fold (orS (fun x => decide (fo v (fun k => mD m (29 + 2 * s) k) sz (upf (vc v c) (tF 6) (nI x)) = -1))) 0 6 0) ?_ fun m1 ha => ?_
            · rw [eX, if_neg (by decide), if_pos (by decide)]
              exact (Ev.bd (x_soBits (so := 6) (R := 5) hX hc' hs4 hz hSX (Or.inr (Or.inr (Or.inr (Or.inr (Or.inl rfl))))) (by decide) rfl rfl (by decide)) fun _ h => Ev.ret h).tt
            · rw [eM m1 ha, if_neg (by decide), if_neg (by decide), if_pos (by decide)]
              rw [show F_X6_tells_121 m1 (nI s) (nI c) (nI 1) 6 = F_X6_tells_121 m1 (nI s) (nI c) (nI 1) (nI 6) from rfl, t121 6 m1 (by unfold tOk; omega) (by decide) ha, t144_6]
              exact five 6 0 6 m1 _ (by unfold tOk; omega) (by decide) rfl (by omega) (by omega) (by omega) (by omega) ha (ts_1 _ _ _).symm
          · refine ro hI (fold (orS (fun x => decide (fo v (fun k => mD m (29 + 2 * s) k) sz (upf (vc v c) (tF 1) (nI x)) = -1))) 0 10 0) ?_ fun m1 ha => ?_
            · rw [eX, if_neg (by decide), if_neg (by decide), if_pos (by decide)]
              exact (Ev.bd (x_soBits (so := 1) (R := 9) hX hc' hs4 hz hSX (Or.inl rfl) (by decide) rfl rfl (by decide)) fun _ h => Ev.ret h).tt
            · rw [eM m1 ha, if_neg (by decide), if_neg (by decide), if_neg (by decide), if_pos (by decide)]
              rw [show F_X6_tells_121 m1 (nI s) (nI c) (nI 2) 1 = F_X6_tells_121 m1 (nI s) (nI c) (nI 2) (nI 1) from rfl, t121 1 m1 (by unfold tOk; omega) (by decide) ha, t144_1]
              exact five 1 0 10 m1 _ (by unfold tOk; omega) (by decide) rfl (by omega) (by omega) (by omega) (by omega) ha (ts_2 _ _ _).symm
          · refine ro hI (fold (orS (fun x => decide (fo v (fun k => mD m (29 + 2 * s) k) sz (upf (vc v c) (tF 3) (nI x)) = -1))) 0 10 0) ?_ fun m1 ha => ?_
            · rw [eX, if_neg (by decide), if_neg (by decide), if_neg (by decide), if_pos (by decide)]
              exact (Ev.bd (x_soBits (so := 3) (R := 9) hX hc' hs4 hz hSX (Or.inr (Or.inr (Or.inl rfl))) (by decide) rfl rfl (by decide)) fun _ h => Ev.ret h).tt
            · rw [eM m1 ha, if_neg (by decide), if_neg (by decide), if_neg (by decide), if_neg (by decide), if_pos (by decide)]
              rw [show F_X6_tells_121 m1 (nI s) (nI c) (nI 3) 3 = F_X6_tells_121 m1 (nI s) (nI c) (nI 3) (nI 3) from rfl, t121 3 m1 (by unfold tOk; omega) (by decide) ha, t144_3]
              exact five 3 0 10 m1 _ (by unfold tOk; omega) (by decide) rfl (by omega) (by omega) (by omega) (by omega) ha (ts_3 _ _ _).symm
          · refine ro hI (fold (ctS (fun x => decide (fo v (fun k => mD m (29 + 2 * s) k) sz (upf (vc v c) (tF 4) (nI x)) = -1))) 0 100 0) ?_ fun m1 ha => ?_
            · rw [eX, if_neg (by decide), if_neg (by decide), if_neg (by decide), if_neg (by decide), if_pos (by decide)]
              exact (Ev.bd (x_soCount (so := 4) (lo := 0) (R := 100) hX hc' hs4 hz hSX (by unfold tOk; omega) (by decide) rfl (by decide)) fun _ h => Ev.ret h).tt
            · rw [eM m1 ha, if_neg (by decide), if_neg (by decide), if_neg (by decide), if_neg (by decide), if_neg (by decide), if_neg (by decide)]
              rw [show F_X6_tells_121 m1 (nI s) (nI c) (nI 4) 4 = F_X6_tells_121 m1 (nI s) (nI c) (nI 4) (nI 4) from rfl, t121 4 m1 (by unfold tOk; omega) (by decide) ha, t144_4]
              exact five 4 0 100 m1 _ (by unfold tOk; omega) (by decide) rfl (by omega) (by omega) (by omega) (by omega) ha (ts_4 _ _ _).symm
          · refine ro hI (slA (fun x => decide (fo v (fun k => mD m (29 + 2 * s) k) sz (upf (vc v c) (tF 4) (nI x)) = -1)) 100 0 (-1)) ?_ fun m1 ha => ?_
            · rw [eX, if_neg (by decide), if_neg (by decide), if_neg (by decide), if_neg (by decide), if_neg (by decide), if_pos (by decide)]
              exact (Ev.bd (x_soLeast (so := 4) (lo := 0) (R := 100) hX hc' hs4 hz hSX (by unfold tOk; omega) (by decide) rfl (by decide)) fun _ h => Ev.ret h).tt
            · rw [eM m1 ha, if_neg (by decide), if_neg (by decide), if_neg (by decide), if_neg (by decide), if_neg (by decide), if_neg (by decide)]
              rw [show F_X6_tells_121 m1 (nI s) (nI c) (nI 5) 4 = F_X6_tells_121 m1 (nI s) (nI c) (nI 5) (nI 4) from rfl, t121 4 m1 (by unfold tOk; omega) (by decide) ha, t144_4]
              exact five 4 0 100 m1 _ (by unfold tOk; omega) (by decide) rfl (by omega) (by omega) (by omega) (by omega) ha (ts_5 _ _ _).symm
          · refine ro hI (fold (ctS (fun x => decide (fo v (fun k => mD m (29 + 2 * s) k) sz (upf (vc v c) (tF 2) (nI x)) = -1))) 1 99 0) ?_ fun m1 ha => ?_
            · rw [eX, if_neg (by decide), if_neg (by decide), if_neg (by decide), if_neg (by decide), if_neg (by decide), if_neg (by decide), if_pos (by decide), gIf_pos (show vp_in 2 7 from (vp_n (by decide) (by decide) : vp_in (nI 2) 7))]
              exact (Ev.bd (x_soCount (so := 2) (lo := 1) (R := 99) hX hc' hs4 hz hSX (by unfold tOk; omega) (by decide) rfl (by decide)) fun _ h => Ev.ret h).tt
            · rw [eM m1 ha, if_neg (by decide), if_neg (by decide), if_neg (by decide), if_neg (by decide), if_neg (by decide), if_pos (by decide), if_neg (by decide)]
              rw [show F_X6_tells_121 m1 (nI s) (nI c) (nI 6) 2 = F_X6_tells_121 m1 (nI s) (nI c) (nI 6) (nI 2) from rfl, t121 2 m1 (by unfold tOk; omega) (by decide) ha, t144_2]
              exact five 2 1 99 m1 _ (by unfold tOk; omega) (by decide) rfl (by omega) (by omega) (by omega) (by omega) ha (ts_6 _ _ _).symm
          · refine ro hI (slA (fun x => decide (fo v (fun k => mD m (29 + 2 * s) k) sz (upf (vc v c) (tF 2) (nI x)) = -1)) 99 1 (-1)) ?_ fun m1 ha => ?_
            · rw [eX, if_neg (by decide), if_neg (by decide), if_neg (by decide), if_neg (by decide), if_neg (by decide), if_neg (by decide), if_neg (by decide), if_pos (by decide), gIf_pos (show vp_in 2 7 from (vp_n (by decide) (by decide) : vp_in (nI 2) 7))]
              exact (Ev.bd (x_soLeast (so := 2) (lo := 1) (R := 99) hX hc' hs4 hz hSX (by unfold tOk; omega) (by decide) rfl (by decide)) fun _ h => Ev.ret h).tt
            · rw [eM m1 ha, if_neg (by decide), if_neg (by decide), if_neg (by decide), if_neg (by decide), if_neg (by decide), if_pos (by decide), if_neg (by decide)]
              rw [show F_X6_tells_121 m1 (nI s) (nI c) (nI 7) 2 = F_X6_tells_121 m1 (nI s) (nI c) (nI 7) (nI 2) from rfl, t121 2 m1 (by unfold tOk; omega) (by decide) ha, t144_2]
              exact five 2 1 99 m1 _ (by unfold tOk; omega) (by decide) rfl (by omega) (by omega) (by omega) (by omega) ha (ts_7 _ _ _).symm
          · refine ro hI (fold (orS (fun t => decide (fo (withS v (TS t)) (fun k => mD m (29 + 2 * s) k) sz (vc v c) = -1))) 0 tc 0) ?_ fun m1 ha => ?_
            · rw [eX, if_neg (by decide), if_neg (by decide), if_neg (by decide), if_neg (by decide), if_neg (by decide), if_neg (by decide), if_neg (by decide), if_neg (by decide), if_pos (by decide)]
              exact (Ev.bd (x_soTexts (TQ := TQ) (TS := TS) hX hc' hs4 hz hSX c3 c12 (fun t ht => ⟨(hTx t ht).1, (hTx t ht).2.1⟩)) fun _ h => Ev.ret h).tt
            · rw [eM m1 ha, if_neg (by decide), if_neg (by decide), if_neg (by decide), if_neg (by decide), if_neg (by decide), if_pos (by decide), if_pos (by decide)]
              have h1 := hM.agX ha
              unfold F_X6_tells_121 F_X6_tells_144 F_X6_tells_192
              rw [if_pos rfl, if_pos rfl, ha.2 40 3 (by unfold pX pSt; omega), c13]
              have key := m_tellL (m0 := m1) (s := s) (c := c) (so := 7) (lo := 0) (R := tc) (W := fun x => fo (withS v (TS x)) (fun k => mD m (29 + 2 * s) k) sz (vc v c)) (wh := nI 8) (by unfold tOk; omega) (by omega) rfl (by omega) (fun x x1 x2 m' ha' hx' => by
                have hS := ((hTx x (by omega)).2.2).ag ha (fun _ => by unfold pX pSt; omega) (fun _ => by unfold pX pSt; omega)
                have hr := rm_rule h1 (show x < 6 by omega) hS ha' hx'
                have e52' : mD m' 52 s = nI sz := by rw [ha'.2 52 s (by rintro (z | z); (unfold pSc at z; omega); exact absurd z.1 (by decide))]; exact e52 m1 ha
                have e53' : (fun k => mD m' 53 (40 * s + k)) = fun k => mD m 53 (40 * s + k) := funext fun k => by rw [ha'.2 53 _ (by rintro (z | z); (unfold pSc at z; omega); exact absurd z.1 (by decide))]; exact e53 m1 ha _
                have := m_first hr (show OKv (withS v (TS x)) from hv) hs4 (show c < vn (withS v (TS x)) from hc') hz e52'
                rw [e53', fo_eq] at this
                exact this)
              rw [tl_all, dnf_fold (orS_comm _), dnf_fold (ctS_comm _), Nat.zero_add, ← Int32.sub_eq_add_neg, ts_8] at key
              exact Ev.sc key
          · refine ro hI (fold (orS (fun i => decide (fo v (fun k => mD m (29 + 2 * s) k) sz (vc v i) = -1))) 0 (vn v) 0) ?_ fun m1 ha => ?_
            · rw [eX, if_neg (by decide), if_neg (by decide), if_neg (by decide), if_neg (by decide), if_neg (by decide), if_neg (by decide), if_neg (by decide), if_neg (by decide), if_neg (by decide)]
              exact (Ev.bd (x_soCoins hX hs4 hz hSX) fun _ h => Ev.ret h).tt
            · rw [eM m1 ha, if_neg (by decide), if_pos (by decide)]
              unfold F_X6_tells_52
              rw [if_neg (by decide)]
              have := m_likeSet (hM.agX ha) hv hs4 hz (e52 m1 ha)
              rw [show (fun k => mD m1 53 (40 * s + k)) = fun k => mD m 53 (40 * s + k) from funext fun k => e53 m1 ha _] at this
              rw [orS_congr 0 (vn v) 0 (fun x _ _ => by rw [fo_eq])] at this
              exact Ev.bd this fun _ _ => Ev.ret trivial
