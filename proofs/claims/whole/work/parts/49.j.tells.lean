/-! told, count, taken, tells -/
theorem part_k (m : Mem) (c : Nat) {k : Nat} (hk : 1 ≤ k ∧ k ≤ 6) : F_X0_part m c (nI k) = some (mD m c (tF k), m) := by
  rcases (show k = 1 ∨ k = 2 ∨ k = 3 ∨ k = 4 ∨ k = 5 ∨ k = 6 by omega) with rfl | rfl | rfl | rfl | rfl | rfl <;> rfl
theorem RepM.fld {v : VW} {m : Mem} (h : RepM v m) {c f : Nat} (hc : c < vn v) (hf : 1 ≤ f ∧ f ≤ 5) : mD m 45 (5 * c + (f - 1)) = vc v c f := by
  rw [← h.2.2.2.1 c hc]; unfold mrow; rw [if_neg (by omega), if_pos (by omega)]
theorem m_told6 {v : VW} {m : Mem} (h : RepM v m) {c k : Nat} (hc : c < vn v) (hk : 1 ≤ k ∧ k ≤ 6) : F_X6_told m (nI c) (nI k) = some (vc v c (tF k), m) := by
  have h8 := h.1
  have hb : btw (nI k) 0 11 = true := nI_rng (lo := 0) (hi := 11) (by omega) (by omega) (by decide)
  simp only [F_X6_told, F_X6_told_27, F_X6_told_24, mi_0_11, hb, bnd_eq, bzt0, if_false, m_isCoin h, btw_c hc (by omega)]
  rw [if_neg (nI_nle (by omega) (by omega)), if_neg (show ¬ (7 : Int32) ≤ nI k from nI_ge (b := 7) (by omega) (by omega)), if_neg (nI_ne0 (by omega) (by omega))]
  by_cases h6 : k = 6
  · subst h6
    rw [if_pos (by decide), gIf_pos (vp_n (by omega) (by decide)), nI_c (by omega), h.k0 hc]; rfl
  · rw [if_neg (show ¬ (6 : Int32) ≤ nI k from nI_ge (b := 6) (by omega) (by omega)), m5, nI_ad]
    have e : nI (5 * c + k) - 1 = nI (5 * c + (k - 1)) := by rw [show 5 * c + k = (5 * c + (k - 1)) + 1 by omega, nI_pred]
    rw [e, gIf_pos (vp_n (by omega) (by decide)), nI_c (by omega), h.fld hc (by omega)]
    unfold tF; rw [if_neg h6]
theorem pm_told (a1 a2 : Int32) : PM (fun m => F_X5_told m a1 a2) (fun m => F_X6_told m a1 a2) := by
  intro m hI
  obtain ⟨v, hX, hM, hv⟩ := hI.view
  have h8 := hM.1
  cases hw : btw a2 0 11 with
  | false =>
    refine roE hI (-100000) ?_ ?_
    · have h16 : btw a2 1 6 = false := by
        cases h : btw a2 1 6 with
        | false => rfl
        | true => have := btw_iff.mp h; rw [btw_iff.mpr (by omega)] at hw; cases hw
      simp only [F_X5_told, x_isCoin hX, xi_1_6, h16, bnd_eq, bzf0, if_true]
      rw [if_neg (not_in hw (by decide))]
      cases hc : btw a1 0 ((vn v : Int) - 1) with
      | false => simp only [bzf0, if_true]
      | true =>
        obtain ⟨c, hc', rfl⟩ := coin_nat hc h8
        simp only [bzt0, if_false]
        rw [gIf_pos (hX.vp hc'), if_neg (not_in hw (by decide)), if_neg (not_in hw (by decide)), if_neg (not_in hw (by decide)), if_neg (not_in hw (by decide)), if_neg (not_in hw (by decide))]
    · simp only [F_X6_told, F_X6_told_24, mi_0_11, hw, bnd_eq, bzf0, if_true]
  | true =>
    obtain ⟨k, hk, rfl⟩ := btw_nat (hi := 11) hw (by decide)
    by_cases k0 : k = 0
    · subst k0
      refine roE hI (vd v) ?_ ?_
      · simp only [F_X5_told]; rw [if_pos (by decide), hX.2.2.2.1]
      · simp only [F_X6_told, F_X6_told_27, mi_0_11, hw, bnd_eq, bzt0, if_false]
        rw [if_pos (by decide), if_neg (by decide), if_pos (by decide), hM.2.2.1]
    · have n0 : ¬ nI k = 0 := nI_ne0 (by omega) (by omega)
      cases hc : btw a1 0 ((vn v : Int) - 1) with
      | false =>
        refine roE hI (-100000) ?_ ?_
        · simp only [F_X5_told, x_isCoin hX, hc, bnd_eq, bzf0, if_true]; rw [if_neg n0]
        · simp only [F_X6_told, F_X6_told_24, mi_0_11, hw, m_isCoin hM, hc, bnd_eq, bzf0, bzt0, if_true, if_false]; rw [if_neg (nI_nle (by omega) (by omega))]
      | true =>
        obtain ⟨c, hc', rfl⟩ := coin_nat hc h8
        by_cases k6 : k ≤ 6
        · refine roE hI (vc v c (tF k)) ?_ (m_told6 hM hc' (by omega))
          have h16 : btw (nI k) 1 6 = true := nI_rng (lo := 1) (hi := 6) (by omega) k6 (by decide)
          simp only [F_X5_told, x_isCoin hX, hc, xi_1_6, h16, bnd_eq, bzt0, if_false]
          rw [if_neg n0, gIf_pos (hX.vp hc')]
          have ne : ∀ j, 7 ≤ j → j < 1000 → ¬ nI k = nI j := fun j h1 h2 z => by have := (nI_eq (by omega) (by omega)).mp z; omega
          rw [if_neg (show ¬ nI k = 7 from ne 7 (by omega) (by omega)), if_neg (show ¬ nI k = 8 from ne 8 (by omega) (by omega)), if_neg (show ¬ nI k = 9 from ne 9 (by omega) (by omega)), if_neg (show ¬ nI k = 10 from ne 10 (by omega) (by omega)), if_neg (show ¬ nI k = 11 from ne 11 (by omega) (by omega)), nI_c (by omega), part_k m _ (by omega), bnd_eq]
          have : tF k < 6 := by unfold tF; split <;> omega
          rw [hX.fld hc' this]
        · obtain ⟨q, q1, q2⟩ := x_theRule hX
          have eX : F_X5_told m (nI c) (nI k) = if nI k = 7 then bnd (F_X4_turnsOf m q (20 + c) (vc v c 4) (vd v)) fun v15 m16 => some (v15, m16) else if nI k = 8 then bnd (F_X4_givesOf m q (20 + c) (vc v c 4) (vd v)) fun v15 m16 => some (v15, m16) else if nI k = 9 then bnd (F_X4_goesOffOf m q (20 + c) (vc v c 4) (vd v)) fun v15 m16 => some (v15, m16) else if nI k = 10 then bnd (F_X5_isWholeBehind m (20 + c) 0) fun v40 m41 => if bz v40 = 0 then some (0, m41) else some (1, m41) else if nI k = 11 then bnd (F_X5_worthBehind m (20 + c) 0) fun v46 m47 => some (v46, m47) else bnd (F_X5_isBetween m (nI k) 1 6) fun v50 m51 => if bz v50 = 0 then some (-100000, m51) else bnd (F_X0_part m51 (20 + c) (nI k)) fun v55 m56 => some (v55, m56) := by
            simp only [F_X5_told, x_isCoin hX, hc, bnd_eq, bzt0, if_false]
            rw [if_neg n0, gIf_pos (hX.vp hc'), nI_c (by omega), q1, bnd_eq, bnd_eq, bnd_eq, hX.fld hc' (by decide), hX.2.2.2.1]
          have eM : ∀ m1, RepM v m1 → F_X6_told m1 (nI c) (nI k) = if (10 : Int32) ≤ nI k then if nI k = 10 then bnd (F_X6_isWhole m1 (nI c)) fun v19 m20 => if bz v19 = 0 then some (0, m20) else some (1, m20) else bnd (F_X6_worthOf m1 (nI c)) fun v15 m16 => some (v15, m16) else if nI k = 7 then bnd (F_X6_turnsOf m1 (nI c)) fun v34 m35 => some (v34, m35) else if nI k = 8 then bnd (F_X6_givesOf m1 (nI c)) fun v30 m31 => some (v30, m31) else bnd (F_X6_spoilsOf m1 (nI c)) fun v26 m27 => some (v26, m27) := fun m1 h1 => by
            simp only [F_X6_told, F_X6_told_27, mi_0_11, hw, m_isCoin h1, hc, bnd_eq, bzt0, if_false]
            rw [if_neg (nI_nle (by omega) (by omega)), if_pos (show (7 : Int32) ≤ nI k from nI_le (a := 7) (by omega) (by omega))]
          have hs := nSt (hX.lt8 hc')
          rcases (show k = 7 ∨ k = 8 ∨ k = 9 ∨ k = 10 ∨ k = 11 by omega) with rfl | rfl | rfl | rfl | rfl
          · refine ro hI (pT (vS v) (vc v c) (vc v c 4) (vd v)) ?_ fun m1 ha => ?_
            · rw [eX, if_pos (by decide)]
              have := x_turnsOf (age := vc v c 4) (day := vd v) q2 hs
              rw [← pT_row6, hX.row hc'] at this
              exact (Ev.bd this fun _ _ => Ev.ret trivial).x
            · rw [eM m1 (hM.agX ha), if_neg (by decide), if_pos (by decide)]
              exact (Ev.bd (m_turnsOf (hM.agX ha) hc') fun _ _ => Ev.ret trivial).c
          · refine ro hI (pG (vS v) (vc v c) (vc v c 4) (vd v)) ?_ fun m1 ha => ?_
            · rw [eX, if_neg (by decide), if_pos (by decide)]
              have := x_givesOf (age := vc v c 4) (day := vd v) q2 hs
              rw [← pG_row6, hX.row hc'] at this
              exact (Ev.bd this fun _ _ => Ev.ret trivial).x
            · rw [eM m1 (hM.agX ha), if_neg (by decide), if_neg (by decide), if_pos (by decide)]
              exact (Ev.bd (m_givesOf (hM.agX ha) hc') fun _ _ => Ev.ret trivial).c
          · refine ro hI (pO (vS v) (vc v c) (vc v c 4) (vd v)) ?_ fun m1 ha => ?_
            · rw [eX, if_neg (by decide), if_neg (by decide), if_pos (by decide)]
              have := x_goesOffOf (age := vc v c 4) (day := vd v) q2 hs
              rw [← pO_row6, hX.row hc'] at this
              exact (Ev.bd this fun _ _ => Ev.ret trivial).x
            · rw [eM m1 (hM.agX ha), if_neg (by decide), if_neg (by decide), if_neg (by decide)]
              exact (Ev.bd (m_spoilsOf (hM.agX ha) hc') fun _ _ => Ev.ret trivial).c
          · refine ro hI (if bz (whole v (vc v c) 0) = 0 then 0 else 1) ?_ fun m1 ha => ?_
            · rw [eX, if_neg (by decide), if_neg (by decide), if_neg (by decide), if_pos (by decide)]
              refine (Ev.bd (R := TT) (x_isWhole hX hs (hX.row hc') 0) fun x _ => ?_).x
              by_cases hb : bz (whole v (vc v c) 0) = 0
              · rw [if_pos hb, if_pos hb]; exact Ev.ret trivial
              · rw [if_neg hb, if_neg hb]; exact Ev.ret trivial
            · rw [eM m1 (hM.agX ha), if_pos (by decide), if_pos (by decide)]
              refine (Ev.bd (R := TT) (m_isWhole (hM.agX ha) hv hc') fun x _ => ?_).c
              by_cases hb : bz (whole v (vc v c) 0) = 0
              · rw [if_pos hb, if_pos hb]; exact Ev.ret trivial
              · rw [if_neg hb, if_neg hb]; exact Ev.ret trivial
          · refine ro hI (wor v (vc v c) 0) ?_ fun m1 ha => ?_
            · rw [eX, if_neg (by decide), if_neg (by decide), if_neg (by decide), if_neg (by decide), if_pos (by decide)]
              exact (Ev.bd (x_worth hX hs (hX.row hc') 0) fun _ h => Ev.ret h).x
            · rw [eM m1 (hM.agX ha), if_pos (by decide), if_neg (by decide)]
              exact (Ev.bd (m_worthOf (hM.agX ha) hv hc') fun _ _ => Ev.ret trivial).c
theorem m_count1 {v : VW} {m : Mem} (h : RepM v m) (hv : OKv v) : Ev pSa (RepM v) (F_X6_count_19 FU m 1 0 0) m (wcnt v) := by
  unfold wcnt
  refine Ev.loop (L := fun fu m s i => F_X6_count_19 fu m 1 s i) (n := vn v) (ex := id) (RR := fun _ => RepM v) (fun fu m s h => ?_) (fun fu m s i hi h w hw => ?_) (vn v) 0 FU m 0 (by omega) (hFU (by have := h.1; omega)) h
  · show Ev pSa (RepM v) (F_X6_count_19 (fu + 1) m 1 s (nI (vn v))) m s
    unfold F_X6_count_19 F_X6_count_54
    rw [if_pos h.ex, if_neg (by decide), if_pos rfl]; exact Ev.ret h
  · show Ev pSa (RepM v) (F_X6_count_19 (fu + 1) m 1 s (nI i)) m w
    unfold F_X6_count_19 F_X6_count_46
    simp only [nI_1, nm, Int32.add_zero]
    rw [if_neg (h.hd hi), if_pos trivial]
    refine Ev.bd (h.lift (m_isWhole h hv hi)) fun m' h' => ?_
    simp only [bz0]
    cases hwh : whole v (vc v i) 0 with
    | false => simpa [hwh] using hw m' h'
    | true => simpa [hwh] using hw m' h'
theorem m_countN {m : Mem} {k : Int32} (hk : ¬ k = 1) : F_X6_count_19 FU m k 0 0 = F_X6_count_54 m k 0 := by
  show F_X6_count_19 (4999 + 1) m k 0 0 = _
  unfold F_X6_count_19
  rw [if_neg hk, ite_self]
theorem pm_count (a1 : Int32) : PM (fun m => F_X5_count m a1) (fun m => F_X6_count m a1) := by
  intro m hI
  obtain ⟨v, hX, hM, hv⟩ := hI.view
  have hI2 := hI
  obtain ⟨h1, n, tc, j, TQ, TS, hC, hT, ⟨tn, tp1, tp2, tp3, tp4⟩, -⟩ := hI2
  obtain ⟨c1, c2, c3, c4, c5, c6, c7, c8, c9, c10, c11, c12, c13⟩ := hC
  cases hw : btw a1 0 5 with
  | false =>
    refine roE hI (-2) ?_ ?_
    · simp only [F_X5_count]
      rw [if_neg (not_in hw (by decide)), if_neg (not_in hw (by decide)), if_neg (not_in hw (by decide)), if_neg (not_in hw (by decide)), if_neg (not_in hw (by decide)), if_neg (not_in hw (by decide))]
    · simp only [F_X6_count, mi_0_5, hw, bnd_eq, bzf0, if_true]
  | true =>
    obtain ⟨k, hk, rfl⟩ := btw_nat (hi := 5) hw (by decide)
    have eM : ∀ x, F_X6_count x (nI k) = F_X6_count_19 FU x (nI k) 0 0 := fun x => by
      simp only [F_X6_count, mi_0_5, hw, bnd_eq, bzt0, if_false]
    rcases (show k = 0 ∨ k = 1 ∨ k = 2 ∨ k = 3 ∨ k = 4 ∨ k = 5 by omega) with rfl | rfl | rfl | rfl | rfl | rfl
    · refine roE hI (nI n) ?_ ?_
      · simp only [F_X5_count]; rw [if_pos (by decide), c5]
      · rw [eM, m_countN (by decide)]; unfold F_X6_count_54; rw [if_pos (by decide), c6]
    · refine ro hI (wcnt v) ?_ fun m1 ha => ?_
      · simp only [F_X5_count]; rw [if_neg (by decide), if_pos (by decide)]
        exact (Ev.bd (x_wcnt hX) fun _ h => Ev.ret h).x
      · rw [eM]; exact (m_count1 (hM.agX ha) hv).c
    · refine roE hI (mD m 40 7) ?_ ?_
      · simp only [F_X5_count]; rw [if_neg (by decide), if_neg (by decide), if_pos (by decide), c7]
      · rw [eM, m_countN (by decide)]; unfold F_X6_count_54; rw [if_neg (by decide), if_neg (by decide), if_pos (by decide)]
    · refine roE hI (nI tc) ?_ ?_
      · simp only [F_X5_count]; rw [if_neg (by decide), if_neg (by decide), if_neg (by decide), if_pos (by decide), c12]
      · rw [eM, m_countN (by decide)]; unfold F_X6_count_54; rw [if_neg (by decide), if_neg (by decide), if_neg (by decide), if_pos (by decide), c13]
    · refine roE hI (nI tn) ?_ ?_
      · simp only [F_X5_count]; rw [if_neg (by decide), if_neg (by decide), if_neg (by decide), if_neg (by decide), if_pos (by decide), tp2]
      · rw [eM, m_countN (by decide)]; unfold F_X6_count_54; rw [if_neg (by decide), if_neg (by decide), if_neg (by decide), if_neg (by decide), if_pos (by decide), tp3]
    · refine roE hI (nI j) ?_ ?_
      · simp only [F_X5_count]; rw [if_neg (by decide), if_neg (by decide), if_neg (by decide), if_neg (by decide), if_neg (by decide), if_pos (by decide), c10]
      · rw [eM, m_countN (by decide)]; unfold F_X6_count_54; rw [if_neg (by decide), if_neg (by decide), if_neg (by decide), if_neg (by decide), if_neg (by decide), c11]
def unE : Nat → Int32 → Int32 → Int32 → Option Bool
  | 0, _, _, _ => none
  | r + 1, a1, a2, a3 => if (6 : Int32) ≤ a3 then some false else if a2 = -1 then some false else if a2 = a1 then some true else if a2 < 0 ∨ 6 ≤ a2.toNatClampNeg then none else unE r a1 (fUNDER a2.toNatClampNeg) (a3 + 1)
def ovr (a : Int32) : Int32 := if a = 0 then -1 else if a = 3 then 1 else if a = 4 then 2 else 0
def tkE : Nat → Int32 → Int32 → Option Int32
  | 0, _, _ => none
  | r + 1, a2, a3 => if a3 = -1 then some a3 else if a3 = a2 then some a3 else tkE r a2 (ovr a3)
theorem x_un (m : Mem) : ∀ (r fu : Nat) (a1 a2 a3 : Int32) (b : Bool), r ≤ fu → unE r a1 a2 a3 = some b → F_X5_isUnder_4 fu m a1 a2 a3 = some (b, m) := by
  intro r
  induction r with
  | zero => intro fu a1 a2 a3 b _ h; cases h
  | succ r ih =>
    intro fu a1 a2 a3 b hf h
    cases fu with
    | zero => omega
    | succ fu =>
      unfold unE at h
      unfold F_X5_isUnder_4
      by_cases h1 : (6 : Int32) ≤ a3
      · rw [if_pos h1] at h; rw [if_pos (show Int32.ofNat 6 ≤ a3 from h1)]; cases h; rfl
      · rw [if_neg h1] at h; rw [if_neg (show ¬ Int32.ofNat 6 ≤ a3 from h1)]
        by_cases h2 : a2 = -1
        · rw [if_pos h2] at h ⊢; cases h; rfl
        · rw [if_neg h2] at h ⊢
          by_cases h3 : a2 = a1
          · rw [if_pos h3] at h ⊢; cases h; rfl
          · rw [if_neg h3] at h ⊢
            by_cases h4 : a2 < 0 ∨ 6 ≤ a2.toNatClampNeg
            · rw [if_pos h4] at h; cases h
            · rw [if_neg h4] at h
              rw [gIf_pos (show vp_in a2 6 from h4)]
              exact ih fu _ _ _ _ (by omega) h
theorem m_over (m : Mem) (a : Int32) : F_X6_over m a = some (ovr a, m) := by
  unfold F_X6_over ovr; repeat' split
  all_goals rfl
theorem m_tk (m : Mem) (a1 : Int32) : ∀ (r fu : Nat) (a2 a3 x : Int32), r ≤ fu → tkE r a2 a3 = some x → F_X6_taken_33 fu m a1 a2 a3 = F_X6_taken_51 m a1 a2 x := by
  intro r
  induction r with
  | zero => intro fu a2 a3 x _ h; cases h
  | succ r ih =>
    intro fu a2 a3 x hf h
    cases fu with
    | zero => omega
    | succ fu =>
      unfold tkE at h
      unfold F_X6_taken_33
      by_cases h2 : a3 = -1
      · rw [if_pos h2] at h ⊢; cases h; rfl
      · rw [if_neg h2] at h ⊢
        by_cases h3 : a3 = a2
        · rw [if_pos h3] at h ⊢; cases h; rfl
        · rw [if_neg h3] at h ⊢
          rw [m_over, bnd_eq]
          exact ih fu _ _ _ (by omega) h
theorem tk_eq : ∀ a, a < 6 → ∀ k, k < 6 → unE 8 (nI k) (nI a) 0 = some (decide (tkE 8 (nI k) (nI a) = some (nI k))) ∧ (tkE 8 (nI k) (nI a)).isSome = true := by decide +kernel
theorem pm_taken (a1 a2 : Int32) : PM (fun m => F_X5_taken m a1 a2) (fun m => F_X6_taken m a1 a2) := by
  intro m hI
  obtain ⟨v, hX, hM, hv⟩ := hI.view
  have h8 := hM.1
  cases hk : btw a2 0 5 with
  | false => exact roE hI (-2) (by simp only [F_X5_taken, x_isKind, hk, bnd_eq, bzf0, if_true]) (by simp only [F_X6_taken, mi_0_5, hk, bnd_eq, bzf0, if_true])
  | true =>
    cases hc : btw a1 0 ((vn v : Int) - 1) with
    | false => exact roE hI (-11) (by simp only [F_X5_taken, x_isKind, x_isCoin hX, hk, hc, bnd_eq, bzf0, bzt0, if_true, if_false]) (by simp only [F_X6_taken, mi_0_5, m_isCoin hM, hk, hc, bnd_eq, bzf0, bzt0, if_true, if_false])
    | true =>
      obtain ⟨c, hc', rfl⟩ := coin_nat hc h8
      obtain ⟨k, hk', rfl⟩ := btw_nat (hi := 5) hk (by decide)
      obtain ⟨a, ha, ea⟩ := btw_nat (hi := 5) (hv c hc').1 (by decide)
      obtain ⟨t1, t2⟩ := tk_eq a (by omega) k (by omega)
      obtain ⟨x, hx⟩ := Option.isSome_iff_exists.mp t2
      rw [hx] at t1
      refine roE hI (if x = nI k then vc v c 1 else -13) ?_ ?_
      · simp only [F_X5_taken, F_X5_isUnder, x_isKind, x_isCoin hX, hk, hc, bnd_eq, bzt0, if_false]
        rw [gIf_pos (hX.vp hc'), nI_c (by omega), hX.fld hc' (by decide), ea, x_un m 8 FU _ _ _ _ (by show 8 ≤ 5000; omega) t1, bnd_eq, gIf_pos (hX.vp hc')]
        by_cases e : x = nI k
        · rw [if_pos e, if_neg (by simp [bz, e]), hX.fld hc' (by decide)]
        · rw [if_neg e, if_pos (by simp [bz, e])]
      · simp only [F_X6_taken, mi_0_5, m_isCoin hM, hk, hc, bnd_eq, bzt0, if_false]
        rw [gIf_pos (vp_n (by omega) (by decide)), nI_c (by omega), hM.k0 hc', ea]
        show F_X6_taken_33 FU m (nI c) (nI k) (nI a) = _
        rw [m_tk m (nI c) 8 FU _ _ _ (by show 8 ≤ 5000; omega) hx]
        unfold F_X6_taken_51
        rw [m5, gIf_pos (vp_n (by omega) (by decide)), nI_c (by omega), hM.k1 hc']
        by_cases e : x = nI k
        · rw [if_pos e, if_pos e]
        · rw [if_neg e, if_neg e]
