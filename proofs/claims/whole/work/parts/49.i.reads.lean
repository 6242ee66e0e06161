/-! the calls that change nothing -/
theorem not_in {x : Int32} {lo hi : Int} (h : btw x lo hi = false) {k : Int32} (h1 : btw k lo hi = true) : ¬ x = k := fun z => by
  rw [z, h1] at h; cases h
theorem pm_has (a1 a2 : Int32) : PM (fun m => F_X5_has m a1 a2) (fun m => F_X6_has m a1 a2) := by
  intro m hI
  obtain ⟨v, hX, hM, hv⟩ := hI.view
  have h8 := hM.1
  cases ho : btw a1 0 3 with
  | false =>
    refine roE hI (-100000) ?_ ?_
    · simp only [F_X5_has, x_isOwner, ho, bnd_eq, bzf0, if_true]
    · simp only [F_X6_has, m_isOwner, ho, bnd_eq, bzf0, if_true, F_X6_has_19]
  | true =>
    cases hw : btw a2 0 6 with
    | false =>
      refine roE hI (-100000) ?_ ?_
      · simp only [F_X5_has, x_isOwner, ho, bnd_eq, bzt0, if_false]
        rw [if_neg (not_in hw (by decide)), if_neg (not_in hw (by decide)), if_neg (not_in hw (by decide)), if_neg (not_in hw (by decide)), if_neg (not_in hw (by decide)), if_neg (not_in hw (by decide)), if_neg (not_in hw (by decide))]
      · simp only [F_X6_has, m_isOwner, mi_0_6, ho, hw, bnd_eq, bzt0, bzf0, if_true, if_false, F_X6_has_19]
    | true =>
      obtain ⟨k, hk, rfl⟩ := btw_nat (hi := 6) hw (by decide)
      have eX : F_X5_has m a1 (nI k) = if nI k = 0 then bnd (F_X5_richBehind m a1 0) fun v7 m8 => some (v7, m8) else if nI k = 1 then bnd (F_X5_purseBehind m a1 0) fun v12 m13 => some (v12, m13) else if nI k = 2 then bnd (F_X5_purseBehind m a1 0) fun v17 m18 => bnd (F_X5_valuesOf m18 v17) fun v21 m22 => some (v21, m22) else if nI k = 3 then bnd (F_X5_coinsOf m a1) fun v26 m27 => bnd (F_X5_purseBehind m27 a1 0) fun v30 m31 => some (v26 &&& (v30 ^^^ -1), m31) else if nI k = 4 then bnd (F_X5_toSpend m a1) fun v35 m36 => some (v35, m36) else if nI k = 5 then bnd (F_X5_goneBehind m a1) fun v40 m41 => some (v40, m41) else if nI k = 6 then bnd (F_X5_taxOf m a1) fun v45 m46 => some (v45, m46) else some (-100000, m) := by
        simp only [F_X5_has, x_isOwner, ho, bnd_eq, bzt0, if_false]
      have eM : ∀ m, F_X6_has m a1 (nI k) = if (3 : Int32) ≤ nI k then if nI k = 3 then bnd (F_X6_turnedOf m a1) fun v27 m28 => some (v27, m28) else if nI k = 4 then bnd (F_X6_spendOf m a1) fun v23 m24 => some (v23, m24) else if nI k = 5 then bnd (F_X6_goneOf m a1) fun v19 m20 => some (v19, m20) else bnd (F_X6_taxOf m a1) fun v15 m16 => some (v15, m16) else if nI k = 0 then bnd (F_X6_richOf m a1) fun v45 m46 => some (v45, m46) else if nI k = 1 then bnd (F_X6_purseOf m a1) fun v41 m42 => some (v41, m42) else bnd (F_X6_purseOf m a1) fun v33 m34 => bnd (F_X6_valuesOf m34 v33) fun v37 m38 => some (v37, m38) := fun m => by
        simp only [F_X6_has, m_isOwner, mi_0_6, ho, hw, bnd_eq, bzt0, if_false]
      rcases (show k = 0 ∨ k = 1 ∨ k = 2 ∨ k = 3 ∨ k = 4 ∨ k = 5 ∨ k = 6 by omega) with rfl | rfl | rfl | rfl | rfl | rfl | rfl
      · refine ro hI (rich v a1 0) ?_ fun m1 ha => ?_
        · rw [eX, if_pos (by decide)]; exact (Ev.bd (x_rich hX a1 0) fun _ h => Ev.ret h).x
        · have h1 := hM.agX ha
          rw [eM, if_neg (by decide), if_pos (by decide)]; exact (Ev.bd (m_rich h1 hv a1) fun _ h => Ev.ret h).c
      · refine ro hI (purse v a1 0) ?_ fun m1 ha => ?_
        · rw [eX, if_neg (by decide), if_pos (by decide)]; exact (Ev.bd (x_purse hX a1 0) fun _ h => Ev.ret h).x
        · have h1 := hM.agX ha
          rw [eM, if_neg (by decide), if_neg (by decide), if_pos (by decide)]; exact (Ev.bd (m_purse h1 hv a1) fun _ h => Ev.ret h).c
      · refine ro hI (vals v (purse v a1 0)) ?_ fun m1 ha => ?_
        · rw [eX, if_neg (by decide), if_neg (by decide), if_pos (by decide)]; exact (Ev.bd (x_purse hX a1 0) fun _ h => by rw [x_vals h, bnd_eq]; exact Ev.ret h).x
        · have h1 := hM.agX ha
          rw [eM, if_neg (by decide), if_neg (by decide), if_neg (by decide)]; exact (Ev.bd (m_purse h1 hv a1) fun _ h => by rw [m_vals h, bnd_eq]; exact Ev.ret h).c
      · refine ro hI (turned v a1) ?_ fun m1 ha => ?_
        · rw [eX, if_neg (by decide), if_neg (by decide), if_neg (by decide), if_pos (by decide), x_owns hX, bnd_eq, ← turned_eq h8]; exact (Ev.bd (x_purse hX a1 0) fun _ h => Ev.ret h).x
        · have h1 := hM.agX ha
          rw [eM, if_pos (by decide), if_pos (by decide)]; exact (Ev.bd (m_turned h1 hv a1) fun _ h => Ev.ret h).c
      · refine ro hI (spend v a1) ?_ fun m1 ha => ?_
        · rw [eX, if_neg (by decide), if_neg (by decide), if_neg (by decide), if_neg (by decide), if_pos (by decide)]; exact (Ev.bd (x_spend hX a1) fun _ h => Ev.ret h).x
        · have h1 := hM.agX ha
          rw [eM, if_pos (by decide), if_neg (by decide), if_pos (by decide)]; exact (Ev.bd (m_spend h1 hv a1) fun _ h => Ev.ret h).c
      · refine ro hI (gone v a1) ?_ fun m1 ha => ?_
        · rw [eX, if_neg (by decide), if_neg (by decide), if_neg (by decide), if_neg (by decide), if_neg (by decide), if_pos (by decide)]; exact (Ev.bd (x_gone hX a1) fun _ h => Ev.ret h).x
        · have h1 := hM.agX ha
          rw [eM, if_pos (by decide), if_neg (by decide), if_neg (by decide), if_pos (by decide)]; exact (Ev.bd (m_gone h1 hv a1) fun _ h => Ev.ret h).tt
      · refine ro hI (tax v a1) ?_ fun m1 ha => ?_
        · rw [eX, if_neg (by decide), if_neg (by decide), if_neg (by decide), if_neg (by decide), if_neg (by decide), if_neg (by decide), if_pos (by decide)]; exact (Ev.bd (x_tax hX a1) fun _ h => Ev.ret h).tt
        · have h1 := hM.agX ha
          rw [eM, if_pos (by decide), if_neg (by decide), if_neg (by decide), if_neg (by decide)]; exact (Ev.bd (m_tax h1 hv a1) fun _ h => Ev.ret h).c
theorem pm_run (a1 a2 a3 : Int32) : PM (fun m => F_X5_run m a1 a2 a3) (fun m => F_X6_run m a1 a2 a3) := by
  intro m hI
  obtain ⟨v, hX, hM, hv⟩ := hI.view
  cases ho : btw a1 0 3 with
  | false => exact roE hI (-100000) (by simp only [F_X5_run, F_X5_run_27, x_isOwner, ho, bnd_eq, bzf0, if_true]) (by simp only [F_X6_run, F_X6_run_29, m_isOwner, ho, bnd_eq, bzf0, if_true])
  | true =>
    cases hn : btw a2 0 40 with
    | false => exact roE hI (-100000) (by simp only [F_X5_run, F_X5_run_27, x_isOwner, xi_0_40, ho, hn, bnd_eq, bzf0, bzt0, if_true, if_false]) (by simp only [F_X6_run, F_X6_run_29, m_isOwner, mi_0_40, ho, hn, bnd_eq, bzf0, bzt0, if_true, if_false])
    | true =>
      cases hw : btw a3 0 1 with
      | false => exact roE hI (-100000) (by simp only [F_X5_run, F_X5_run_27, x_isOwner, xi_0_40, xi_0_1, ho, hn, hw, bnd_eq, bzf0, bzt0, if_true, if_false]) (by simp only [F_X6_run, F_X6_run_29, m_isOwner, mi_0_40, mi_0_1, ho, hn, hw, bnd_eq, bzf0, bzt0, if_true, if_false])
      | true =>
        obtain ⟨n, hn', rfl⟩ := btw_nat (hi := 40) hn (by decide)
        refine ro hI (if a3 = 0 then rich v a1 (nI n) else bc (purse v a1 (nI n))) ?_ fun m1 ha => ?_
        · simp only [F_X5_run, x_isOwner, xi_0_40, xi_0_1, ho, hn, hw, bnd_eq, bzt0, if_false]
          by_cases h0 : a3 = 0
          · rw [if_pos h0, if_pos h0]; exact (Ev.bd (x_rich hX a1 (nI n)) fun _ h => Ev.ret h).x
          · rw [if_neg h0, if_neg h0]; exact (Ev.bd (x_purse hX a1 (nI n)) fun _ h => by rw [x_bc, bnd_eq]; exact Ev.ret h).x
        · simp only [F_X6_run, m_isOwner, mi_0_40, mi_0_1, ho, hn, hw, bnd_eq, bzt0, if_false]
          exact m_run (hM.agX ha) hv a1 a3 hn'
theorem pm_exact (a1 a2 a3 : Int32) : PM (fun m => F_X5_exact m a1 a2 a3) (fun m => F_X6_exact m a1 a2 a3) := by
  intro m hI
  obtain ⟨v, hX, hM, hv⟩ := hI.view
  have h8 := hM.1
  cases ho : btw a1 0 3 with
  | false => exact roE hI (-2) (by simp only [F_X5_exact, x_isOwner, ho, bnd_eq, bzf0, if_true]) (by simp only [F_X6_exact, m_isOwner, ho, bnd_eq, bzf0, if_true])
  | true =>
    cases hn : btw a2 0 999 with
    | false => exact roE hI (-2) (by simp only [F_X5_exact, x_isOwner, xi_0_999, ho, hn, bnd_eq, bzf0, bzt0, if_true, if_false]) (by simp only [F_X6_exact, m_isOwner, mi_0_999, ho, hn, bnd_eq, bzf0, bzt0, if_true, if_false])
    | true =>
      cases hw : btw a3 0 3 with
      | false => exact roE hI (-2) (by simp only [F_X5_exact, x_isOwner, xi_0_999, xi_0_3, ho, hn, hw, bnd_eq, bzf0, bzt0, if_true, if_false]) (by simp only [F_X6_exact, m_isOwner, mi_0_999, mi_0_3, ho, hn, hw, bnd_eq, bzf0, bzt0, if_true, if_false])
      | true =>
        obtain ⟨k, hk, rfl⟩ := btw_nat (hi := 3) hw (by decide)
        have exF : fnd (exact_ v a1 a2) := by
          rw [exact_eq h8]
          have hp := (pow8 (vn v) (by omega)).2
          exact fold_pres (I := fnd) (2 ^ vn v) 0 (-1) (fun i s _ hi hs => by
            have hi' : fnd (nI i) := Or.inr ⟨i, by omega, rfl⟩
            unfold exS; repeat' split
            all_goals first | exact hs | exact hi') (Or.inl rfl)
        have eX : ∀ x s, RepX v x → F_X5_exact_51 x (nI k) s = some (if s = -1 then -1 else if k = 1 then bc s else if k = 3 then vals v s else s, x) := fun x s hx => by
          unfold F_X5_exact_51
          rw [x_bc, x_vals hx, bnd_eq, bnd_eq]
          rcases (show k = 0 ∨ k = 1 ∨ k = 2 ∨ k = 3 by omega) with rfl | rfl | rfl | rfl <;> by_cases hs : s = -1 <;> simp +decide [hs]
        have eM : ∀ x s, RepM v x → fnd s ∨ ¬ k = 1 → F_X6_exact_54 x (nI k) s = some (if s = -1 then -1 else if k = 1 then bc s else if k = 3 then vals v s else s, x) := fun x s hx hs => by
          unfold F_X6_exact_54
          rw [m_vals hx, bnd_eq]
          by_cases h1 : s = -1
          · simp [h1]
          · rcases (show k = 0 ∨ k = 1 ∨ k = 2 ∨ k = 3 by omega) with rfl | rfl | rfl | rfl
            · simp +decide [h1]
            · rcases hs with hs | hs
              · rcases hs with hs | ⟨j, hj, rfl⟩
                · exact absurd hs h1
                · rw [m_bits x hj, bnd_eq]; simp +decide [h1]
              · exact absurd rfl hs
            · simp +decide [h1]
            · simp +decide [h1]
        by_cases h2 : (2 : Int32) ≤ nI k
        · have hk2 : 2 ≤ k := (nI_leI (a := 2) (by omega) (by omega)).mp h2
          refine ro hI (if over_ v a1 a2 = -1 then -1 else if k = 1 then bc (over_ v a1 a2) else if k = 3 then vals v (over_ v a1 a2) else over_ v a1 a2) ?_ fun m1 ha => ?_
          · simp only [F_X5_exact, x_isOwner, xi_0_999, xi_0_3, ho, hn, hw, bnd_eq, bzt0, if_false]
            rw [if_pos h2]
            exact (Ev.bd (x_over hX a1 a2) fun x hx => by rw [eX x _ hx]; exact Ev.ret hx).x
          · simp only [F_X6_exact, m_isOwner, mi_0_999, mi_0_3, ho, hn, hw, bnd_eq, bzt0, if_false]
            rw [if_pos h2, over_eq h8]
            exact (Ev.bd (m_over0 (hM.agX ha) hv a1 a2) fun x hx => by rw [eM x _ hx (Or.inr (by omega))]; exact Ev.ret hx).c
        · refine ro hI (if exact_ v a1 a2 = -1 then -1 else if k = 1 then bc (exact_ v a1 a2) else if k = 3 then vals v (exact_ v a1 a2) else exact_ v a1 a2) ?_ fun m1 ha => ?_
          · simp only [F_X5_exact, x_isOwner, xi_0_999, xi_0_3, ho, hn, hw, bnd_eq, bzt0, if_false]
            rw [if_neg h2]
            exact (Ev.bd (x_exact hX a1 a2) fun x hx => by rw [eX x _ hx]; exact Ev.ret hx).x
          · simp only [F_X6_exact, m_isOwner, mi_0_999, mi_0_3, ho, hn, hw, bnd_eq, bzt0, if_false]
            rw [exact_eq h8] at exF
            rw [if_neg h2, exact_eq h8]
            exact (Ev.bd (m_exact0 (hM.agX ha) hv a1 a2) fun x hx => by rw [eM x _ hx (Or.inl exF)]; exact Ev.ret hx).c
theorem pm_wise (a1 a2 a3 a4 : Int32) : PM (fun m => F_X5_wise m a1 a2 a3 a4) (fun m => F_X6_wise m a1 a2 a3 a4) := by
  intro m hI
  obtain ⟨v, hX, hM, hv⟩ := hI.view
  cases ho : btw a1 0 3 with
  | false => exact roE hI (-2) (by simp only [F_X5_wise, x_isOwner, ho, bnd_eq, bzf0, if_true]) (by simp only [F_X6_wise, m_isOwner, ho, bnd_eq, bzf0, if_true])
  | true =>
    cases hp : btw a2 0 999 with
    | false => exact roE hI (-2) (by simp only [F_X5_wise, x_isOwner, xi_0_999, ho, hp, bnd_eq, bzf0, bzt0, if_true, if_false]) (by simp only [F_X6_wise, m_isOwner, mi_0_999, ho, hp, bnd_eq, bzf0, bzt0, if_true, if_false])
    | true =>
      cases hn : btw a3 0 40 with
      | false => exact roE hI (-2) (by simp only [F_X5_wise, x_isOwner, xi_0_999, xi_0_40, ho, hp, hn, bnd_eq, bzf0, bzt0, if_true, if_false]) (by simp only [F_X6_wise, m_isOwner, mi_0_999, mi_0_40, ho, hp, hn, bnd_eq, bzf0, bzt0, if_true, if_false])
      | true =>
        cases hw : btw a4 0 1 with
        | false => exact roE hI (-2) (by simp only [F_X5_wise, x_isOwner, xi_0_999, xi_0_40, xi_0_1, ho, hp, hn, hw, bnd_eq, bzf0, bzt0, if_true, if_false]) (by simp only [F_X6_wise, m_isOwner, mi_0_999, mi_0_40, mi_0_1, ho, hp, hn, hw, bnd_eq, bzf0, bzt0, if_true, if_false])
        | true =>
          obtain ⟨n, hn', rfl⟩ := btw_nat (hi := 40) hn (by decide)
          refine ro hI (wiseA v (wsv v a1 (nI n)) a1 a2 a4) ?_ fun m1 ha => ?_
          · simp only [F_X5_wise, x_isOwner, xi_0_999, xi_0_40, xi_0_1, ho, hp, hn, hw, bnd_eq, bzt0, if_false]
            unfold wiseA
            refine (Ev.bdM (P := pX) (R := TT) (x_layW hX a1 (nI n)) (fun k i hp => by rcases hp with hp | hp; exact pSt.x hp; exact Or.inr (Or.inr (Or.inl hp))) fun x1 _ hx1 => Ev.bdM (x_wise hx1.1 hx1.2 a1 a2) (fun _ _ hp => pSt.x hp) fun x2 _ hx2 => ?_)
            by_cases h0 : a4 = 0
            · rw [if_pos h0, if_pos h0]; exact Ev.ret trivial
            · rw [if_neg h0, if_neg h0]
              by_cases h1 : wise_ v (wsv v a1 (nI n)) a1 a2 = -1
              · rw [if_pos h1, if_pos h1]; exact Ev.ret trivial
              · rw [if_neg h1, if_neg h1, x_without hx2.1 hx2.2, bnd_eq]; exact Ev.ret trivial
          · simp only [F_X6_wise, m_isOwner, mi_0_999, mi_0_40, mi_0_1, ho, hp, hn, hw, bnd_eq, bzt0, if_false]
            exact m_wise (hM.agX ha) hv a1 a2 a4 hn'
theorem pm_change (a1 a2 a3 : Int32) : PM (fun m => F_X5_change m a1 a2 a3) (fun m => F_X6_change m a1 a2 a3) := by
  intro m hI
  obtain ⟨v, hX, hM, hv⟩ := hI.view
  cases ho : btw a1 0 3 with
  | false => exact roE hI (-100000) (by simp only [F_X5_change, F_X5_change_17, x_two, ho, Bool.false_and, bnd_eq, bzf0, if_true]) (by simp only [F_X6_change, F_X6_change_29, m_isOwner, ho, bnd_eq, bzf0, if_true])
  | true =>
    cases hp : btw a2 0 3 with
    | false => exact roE hI (-100000) (by simp only [F_X5_change, F_X5_change_17, x_two, ho, hp, Bool.and_false, Bool.false_and, bnd_eq, bzf0, if_true]) (by simp only [F_X6_change, F_X6_change_29, m_isOwner, ho, hp, bnd_eq, bzf0, bzt0, if_true, if_false])
    | true =>
      by_cases he : a1 = a2
      · exact roE hI (-100000) (by simp only [F_X5_change, F_X5_change_17, x_two, ho, hp, he, not_true_eq_false, decide_false, Bool.and_false, bnd_eq, bzf0, if_true]) (by simp only [F_X6_change, F_X6_change_29, m_isOwner, ho, hp, bnd_eq, bzt0, if_false]; rw [if_pos he])
      · cases hw : btw a3 0 1 with
        | false => exact roE hI (-100000) (by simp only [F_X5_change, F_X5_change_17, x_two, xi_0_1, ho, hp, hw, he, not_false_eq_true, decide_true, Bool.and_true, bnd_eq, bzf0, bzt0, if_true, if_false]) (by simp only [F_X6_change, F_X6_change_29, m_isOwner, mi_0_1, ho, hp, hw, bnd_eq, bzf0, bzt0, if_true, if_false]; rw [if_neg he])
        | true =>
          refine ro hI (chgA v a1 a2 a3) ?_ fun m1 ha => ?_
          · simp only [F_X5_change, x_two, xi_0_1, ho, hp, hw, he, not_false_eq_true, decide_true, Bool.and_true, bnd_eq, bzt0, if_false]
            exact (x_change0 hX a1 a2 a3).tt
          · simp only [F_X6_change, m_isOwner, mi_0_1, ho, hp, hw, bnd_eq, bzt0, if_false]
            rw [if_neg he, ← chg_eq hM.1 hv ho hp he a3]
            exact m_change0 (hM.agX ha) hv ho hp a3
theorem pm_drawn (a1 a2 : Int32) : PM (fun m => F_X5_drawn m a1 a2) (fun m => F_X6_drawn m a1 a2) := by
  intro m hI
  obtain ⟨v, hX, hM, hv⟩ := hI.view
  cases ho : btw a2 0 3 with
  | false => exact roE hI (-100000) (by simp only [F_X5_drawn, x_isOwner, ho, bnd_eq, bzf0, if_true]) (by simp only [F_X6_drawn, m_isOwner, ho, bnd_eq, bzf0, if_true])
  | true =>
    refine ro hI (rich (dr v a1) a2 0) ?_ fun m1 ha => ?_
    · simp only [F_X5_drawn, x_isOwner, ho, bnd_eq, bzt0, if_false]
      exact (x_drawnL hX hv a1 a2).x
    · simp only [F_X6_drawn, m_isOwner, ho, bnd_eq, bzt0, if_false]
      exact m_drawn0 (hM.agX ha) hv a1 a2
theorem pm_chance (a1 a2 a3 a4 a5 : Int32) : PM (fun m => F_X5_chance m a1 a2 a3 a4 a5) (fun m => F_X6_chance m a1 a2 a3 a4 a5) := by
  intro m hI
  obtain ⟨v, hX, hM, hv⟩ := hI.view
  cases hn : btw a2 1 20 with
  | false => exact roE hI (-4611686018427387904) (by simp only [F_X5_chance, F_X5_chance_39, xi_1_20, hn, bnd_eq, bzf0, if_true]) (by simp only [F_X6_chance, F_X6_chance_43, mi_1_20, hn, bnd_eq, bzf0, if_true])
  | true =>
    cases ho : btw a3 0 3 with
    | false => exact roE hI (-4611686018427387904) (by simp only [F_X5_chance, F_X5_chance_39, xi_1_20, x_isOwner, hn, ho, bnd_eq, bzf0, bzt0, if_true, if_false]) (by simp only [F_X6_chance, F_X6_chance_43, mi_1_20, m_isOwner, hn, ho, bnd_eq, bzf0, bzt0, if_true, if_false])
    | true =>
      cases hk : btw a4 0 8 with
      | false => exact roE hI (-4611686018427387904) (by simp only [F_X5_chance, F_X5_chance_39, xi_1_20, xi_0_8, x_isOwner, hn, ho, hk, bnd_eq, bzf0, bzt0, if_true, if_false]) (by simp only [F_X6_chance, F_X6_chance_43, mi_1_20, mi_0_8, m_isOwner, hn, ho, hk, bnd_eq, bzf0, bzt0, if_true, if_false])
      | true =>
        cases hp : btw a5 0 1 with
        | false => exact roE hI (-4611686018427387904) (by simp only [F_X5_chance, F_X5_chance_39, xi_1_20, xi_0_8, xi_0_1, x_isOwner, hn, ho, hk, hp, bnd_eq, bzf0, bzt0, if_true, if_false]) (by simp only [F_X6_chance, F_X6_chance_43, mi_1_20, mi_0_8, mi_0_1, m_isOwner, hn, ho, hk, hp, bnd_eq, bzf0, bzt0, if_true, if_false])
        | true =>
          have hn' := btw_iff.mp hn
          obtain ⟨q, hq, rfl⟩ : ∃ q, q = a2.toInt.toNat ∧ a2 = nI q := ⟨_, rfl, toNatI (by omega)⟩
          have q20 : q < 21 := by omega
          have q1 : 1 ≤ q := by omega
          obtain ⟨p, hp', rfl⟩ := btw_nat (hi := 1) hp (by decide)
          have hc := cn_le (hit v a3 a1 a4) q
          obtain ⟨e0, e1, s0, s1⟩ := ch_eq q q20 q1 (cn (hit v a3 a1 a4) q) (by omega)
          have hpp : nI p = 0 ∨ nI p = 1 := by rcases (show p = 0 ∨ p = 1 by omega) with rfl | rfl; exact Or.inl rfl; exact Or.inr rfl
          have eX : chX (cn (hit v a3 a1 a4) q) q (nI p) = chM (cn (hit v a3 a1 a4) q) q (nI p) := by rcases hpp with e | e <;> rw [e] <;> assumption
          have eS : (chX (cn (hit v a3 a1 a4) q) q (nI p)).isSome = true := by rcases hpp with e | e <;> rw [e] <;> assumption
          obtain ⟨w, hw⟩ := Option.isSome_iff_exists.mp eS
          refine ro hI w ?_ fun m1 ha => ?_
          · simp only [F_X5_chance, xi_1_20, xi_0_8, xi_0_1, x_isOwner, hn, ho, hk, hp, bnd_eq, bzt0, if_false]
            exact (x_chance0 hX hv a1 a3 a4 (nI p) q20 hpp w hw).x
          · simp only [F_X6_chance, mi_1_20, mi_0_8, mi_0_1, m_isOwner, hn, ho, hk, hp, bnd_eq, bzt0, if_false]
            exact m_chance0 (hM.agX ha) hv a1 a3 a4 (nI p) q20 q1 hpp w (eX ▸ hw)
