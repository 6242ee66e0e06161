/-! THE LAW HOLDS -/
theorem lgcE (a : Int64) : lg_cmp a a = 0 := by
  unfold lg_cmp
  rw [if_neg (show ¬ a > a from Int64.lt_irrefl), if_pos rfl]
theorem law_end {L k : Nat} (hL : L ≤ 3072) (hk : k ≤ 1000) : (Int32.ofNat L - 6 < nI (6 * k)) ↔ L < 6 * k + 6 := by
  rw [Int32.lt_iff_toInt_lt, Int32.toInt_sub, show (Int32.ofNat L).toInt = (L : Int) from nI_toInt (by omega), show (6 : Int32).toInt = 6 from rfl, bm32 (by omega) (by omega), nI_toInt (by omega)]
  omega
set_option maxHeartbeats 4000000 in
set_option maxRecDepth 100000 in
theorem law_loop (L : Nat) (xs : Nat → Int32) (hL : L ≤ 3072) : ∀ (r k fu : Nat) (m : Mem), k + r ≤ 1000 → L ≤ 6 * (k + r) + 5 → r < fu → Inv m → ∃ mE, F_L_law_18 L xs fu m (nI (6 * k)) = some (true, mE) ∧ Inv mE := by
  intro r
  induction r with
  | zero =>
    intro k fu m hk0 hk hf hI
    cases fu with
    | zero => omega
    | succ fu =>
      unfold F_L_law_18
      exact ⟨m, by rw [if_pos ((law_end hL (by omega)).mpr (by omega))], hI⟩
  | succ r ih =>
    intro k fu m hk0 hk hf hI
    cases fu with
    | zero => omega
    | succ fu =>
      by_cases hend : L < 6 * k + 6
      · unfold F_L_law_18
        exact ⟨m, by rw [if_pos ((law_end hL (by omega)).mpr hend)], hI⟩
      have g0 : vp_in (nI (6 * k)) L := vp_in_nI (by omega) (by omega)
      have g1 : vp_in (nI (6 * k) + 1) L := by rw [nI_1]; exact vp_in_nI (by omega) (by omega)
      have g2 : vp_in (nI (6 * k) + 2) L := by rw [nI_2]; exact vp_in_nI (by omega) (by omega)
      have g3 : vp_in (nI (6 * k) + 3) L := by rw [nI_3]; exact vp_in_nI (by omega) (by omega)
      have g4 : vp_in (nI (6 * k) + 4) L := by rw [nI_4]; exact vp_in_nI (by omega) (by omega)
      have g5 : vp_in (nI (6 * k) + 5) L := by rw [show nI (6 * k) + 5 = nI (6 * k + 5) from nI_ad _ 5]; exact vp_in_nI (by omega) (by omega)
      have nx : ∀ m', Inv m' → ∃ mE, F_L_law_1101 L xs (F_L_law_18 L xs fu) m' (nI (6 * k)) = some (true, mE) ∧ Inv mE := fun m' hI' => by
        unfold F_L_law_1101
        rw [show nI (6 * k) + 6 = nI (6 * (k + 1)) from nI_ad _ 6]
        exact ih (k + 1) fu m' (by omega) (by omega) (by omega) hI'
      unfold F_L_law_18
      rw [if_neg (fun z => hend ((law_end hL (by omega)).mp z)), gIf_pos g0]
      dsimp only [nm]
      generalize xs (nI (6 * k)).toNatClampNeg &&& 31 = x
      by_cases h0 : x = 0
      · obtain ⟨w, m1, m2, e1, e2, hI2⟩ := pm_set (xs (nI (6 * k) + 1).toNatClampNeg) (xs (nI (6 * k) + 2).toNatClampNeg) (xs (nI (6 * k) + 3).toNatClampNeg) m hI
        dsimp only at e1 e2
        rw [if_pos h0, gIf_pos g1, gIf_pos g2, gIf_pos g3, e1, bnd_eq, gIf_pos g1, gIf_pos g2, gIf_pos g3, e2, bnd_eq, if_pos rfl]
        exact nx m2 hI2
      rw [if_neg h0]
      by_cases h1 : x = 1
      · obtain ⟨w, m1, m2, e1, e2, hI2⟩ := pm_coin (xs (nI (6 * k) + 1).toNatClampNeg) (xs (nI (6 * k) + 2).toNatClampNeg) (xs (nI (6 * k) + 3).toNatClampNeg) m hI
        dsimp only at e1 e2
        rw [if_pos h1, gIf_pos g1, gIf_pos g2, gIf_pos g3, e1, bnd_eq, gIf_pos g1, gIf_pos g2, gIf_pos g3, e2, bnd_eq, if_pos rfl]
        exact nx m2 hI2
      rw [if_neg h1]
      by_cases h2 : x = 2
      · obtain ⟨w, m1, m2, e1, e2, hI2⟩ := pm_told (xs (nI (6 * k) + 1).toNatClampNeg) (xs (nI (6 * k) + 2).toNatClampNeg) m hI
        dsimp only at e1 e2
        rw [if_pos h2, gIf_pos g1, gIf_pos g2, e1, bnd_eq, gIf_pos g1, gIf_pos g2, e2, bnd_eq, if_pos rfl]
        exact nx m2 hI2
      rw [if_neg h2]
      by_cases h3 : x = 3
      · obtain ⟨w, m1, m2, e1, e2, hI2⟩ := pm_feed (xs (nI (6 * k) + 1).toNatClampNeg) m hI
        dsimp only at e1 e2
        rw [if_pos h3, gIf_pos g1, e1, bnd_eq, gIf_pos g1, e2, bnd_eq, if_pos rfl]
        exact nx m2 hI2
      rw [if_neg h3]
      by_cases h4 : x = 4
      · obtain ⟨w, m1, m2, e1, hs1, e2, hI2⟩ := pm_text m hI
        rw [if_pos h4, e1, bnd_eq, gIf_pos hs1, e2, bnd_eq, if_pos rfl]
        exact nx m2 hI2
      rw [if_neg h4]
      by_cases h5 : x = 5
      · obtain ⟨w, m1, m2, e1, e2, hI2⟩ := pm_force (xs (nI (6 * k) + 1).toNatClampNeg) m hI
        dsimp only at e1 e2
        rw [if_pos h5, gIf_pos g1, e1, bnd_eq, gIf_pos g1, e2, bnd_eq, if_pos rfl]
        exact nx m2 hI2
      rw [if_neg h5]
      by_cases h6 : x = 6
      · obtain ⟨w, m1, m2, e1, e2, hI2⟩ := pm_day m hI
        dsimp only at e1 e2
        rw [if_pos h6, e1, bnd_eq, e2, bnd_eq, if_pos rfl]
        exact nx m2 hI2
      rw [if_neg h6]
      by_cases h7 : x = 7
      · obtain ⟨w, m1, m2, e1, e2, hI2⟩ := pm_pay (xs (nI (6 * k) + 1).toNatClampNeg) (xs (nI (6 * k) + 2).toNatClampNeg) m hI
        dsimp only at e1 e2
        rw [if_pos h7, gIf_pos g1, gIf_pos g2, e1, bnd_eq, gIf_pos g1, gIf_pos g2, e2, bnd_eq, if_pos rfl]
        exact nx m2 hI2
      rw [if_neg h7]
      by_cases h8 : x = 8
      · obtain ⟨w, m1, m2, e1, e2, hI2⟩ := pm_buy (xs (nI (6 * k) + 1).toNatClampNeg) (xs (nI (6 * k) + 2).toNatClampNeg) (xs (nI (6 * k) + 3).toNatClampNeg) m hI
        dsimp only at e1 e2
        rw [if_pos h8, gIf_pos g1, gIf_pos g2, gIf_pos g3, e1, bnd_eq, gIf_pos g1, gIf_pos g2, gIf_pos g3, e2, bnd_eq, if_pos rfl]
        exact nx m2 hI2
      rw [if_neg h8]
      by_cases h9 : x = 9
      · obtain ⟨w, m1, m2, e1, e2, hI2⟩ := pm_has (xs (nI (6 * k) + 1).toNatClampNeg) (xs (nI (6 * k) + 2).toNatClampNeg) m hI
        dsimp only at e1 e2
        rw [if_pos h9, gIf_pos g1, gIf_pos g2, e1, bnd_eq, gIf_pos g1, gIf_pos g2, e2, bnd_eq, if_pos rfl]
        exact nx m2 hI2
      rw [if_neg h9]
      by_cases h10 : x = 10
      · obtain ⟨w, m1, m2, e1, e2, hI2⟩ := pm_run (xs (nI (6 * k) + 1).toNatClampNeg) (xs (nI (6 * k) + 2).toNatClampNeg) (xs (nI (6 * k) + 3).toNatClampNeg) m hI
        dsimp only at e1 e2
        rw [if_pos h10, gIf_pos g1, gIf_pos g2, gIf_pos g3, e1, bnd_eq, gIf_pos g1, gIf_pos g2, gIf_pos g3, e2, bnd_eq, if_pos rfl]
        exact nx m2 hI2
      rw [if_neg h10]
      by_cases h11 : x = 11
      · obtain ⟨w, m1, m2, e1, e2, hI2⟩ := pm_exact (xs (nI (6 * k) + 1).toNatClampNeg) (xs (nI (6 * k) + 2).toNatClampNeg) (xs (nI (6 * k) + 3).toNatClampNeg) m hI
        dsimp only at e1 e2
        rw [if_pos h11, gIf_pos g1, gIf_pos g2, gIf_pos g3, e1, bnd_eq, gIf_pos g1, gIf_pos g2, gIf_pos g3, e2, bnd_eq, if_pos rfl]
        exact nx m2 hI2
      rw [if_neg h11]
      by_cases h12 : x = 12
      · obtain ⟨w, m1, m2, e1, e2, hI2⟩ := pm_wise (xs (nI (6 * k) + 1).toNatClampNeg) (xs (nI (6 * k) + 2).toNatClampNeg) (xs (nI (6 * k) + 3).toNatClampNeg) (xs (nI (6 * k) + 4).toNatClampNeg) m hI
        dsimp only at e1 e2
        rw [if_pos h12, gIf_pos g1, gIf_pos g2, gIf_pos g3, gIf_pos g4, e1, bnd_eq, gIf_pos g1, gIf_pos g2, gIf_pos g3, gIf_pos g4, e2, bnd_eq, if_pos rfl]
        exact nx m2 hI2
      rw [if_neg h12]
      by_cases h13 : x = 13
      · obtain ⟨w, m1, m2, e1, e2, hI2⟩ := pm_change (xs (nI (6 * k) + 1).toNatClampNeg) (xs (nI (6 * k) + 2).toNatClampNeg) (xs (nI (6 * k) + 3).toNatClampNeg) m hI
        dsimp only at e1 e2
        rw [if_pos h13, gIf_pos g1, gIf_pos g2, gIf_pos g3, e1, bnd_eq, gIf_pos g1, gIf_pos g2, gIf_pos g3, e2, bnd_eq, if_pos rfl]
        exact nx m2 hI2
      rw [if_neg h13]
      by_cases h14 : x = 14
      · obtain ⟨w, m1, m2, e1, e2, hI2⟩ := pm_tells (xs (nI (6 * k) + 1).toNatClampNeg) (xs (nI (6 * k) + 2).toNatClampNeg) (xs (nI (6 * k) + 3).toNatClampNeg) m hI
        dsimp only at e1 e2
        rw [if_pos h14, gIf_pos g1, gIf_pos g2, gIf_pos g3, e1, bnd_eq, gIf_pos g1, gIf_pos g2, gIf_pos g3, e2, bnd_eq, if_pos rfl]
        exact nx m2 hI2
      rw [if_neg h14]
      by_cases h15 : x = 15
      · obtain ⟨w, m1, m2, e1, e2, hI2⟩ := pm_film (xs (nI (6 * k) + 1).toNatClampNeg) (xs (nI (6 * k) + 2).toNatClampNeg) (xs (nI (6 * k) + 3).toNatClampNeg) m hI
        dsimp only at e1 e2
        rw [if_pos h15, gIf_pos g1, gIf_pos g2, gIf_pos g3, e1, bnd_eq, gIf_pos g1, gIf_pos g2, gIf_pos g3, e2, bnd_eq, if_pos rfl]
        exact nx m2 hI2
      rw [if_neg h15]
      by_cases h16 : x = 16
      · obtain ⟨w, m1, m2, e1, e2, hI2⟩ := pm_drawn (xs (nI (6 * k) + 1).toNatClampNeg) (xs (nI (6 * k) + 2).toNatClampNeg) m hI
        dsimp only at e1 e2
        rw [if_pos h16, gIf_pos g1, gIf_pos g2, e1, bnd_eq, gIf_pos g1, gIf_pos g2, e2, bnd_eq, if_pos rfl]
        exact nx m2 hI2
      rw [if_neg h16]
      by_cases h17 : x = 17
      · obtain ⟨w, m1, m2, e1, e2, hI2⟩ := pm_chance (xs (nI (6 * k) + 1).toNatClampNeg) (xs (nI (6 * k) + 2).toNatClampNeg) (xs (nI (6 * k) + 3).toNatClampNeg) (xs (nI (6 * k) + 4).toNatClampNeg) (xs (nI (6 * k) + 5).toNatClampNeg) m hI
        dsimp only at e1 e2
        rw [if_pos h17, gIf_pos g1, gIf_pos g2, gIf_pos g3, gIf_pos g4, gIf_pos g5, e1, bnd_eq, gIf_pos g1, gIf_pos g2, gIf_pos g3, gIf_pos g4, gIf_pos g5, e2, bnd_eq, if_pos (lgcE _)]
        exact nx m2 hI2
      rw [if_neg h17]
      by_cases h18 : x = 18
      · obtain ⟨w, m1, m2, e1, e2, hI2⟩ := pm_image m hI
        dsimp only at e1 e2
        rw [if_pos h18, e1, bnd_eq, e2, bnd_eq, if_pos rfl]
        exact nx m2 hI2
      rw [if_neg h18]
      by_cases h19 : x = 19
      · obtain ⟨w, m1, m2, e1, e2, hI2⟩ := pm_back m hI
        dsimp only at e1 e2
        rw [if_pos h19, e1, bnd_eq, e2, bnd_eq, if_pos rfl]
        exact nx m2 hI2
      rw [if_neg h19]
      by_cases h20 : x = 20
      · obtain ⟨w, m1, m2, e1, e2, hI2⟩ := pm_count (xs (nI (6 * k) + 1).toNatClampNeg) m hI
        dsimp only at e1 e2
        rw [if_pos h20, gIf_pos g1, e1, bnd_eq, gIf_pos g1, e2, bnd_eq, if_pos rfl]
        exact nx m2 hI2
      rw [if_neg h20]
      by_cases h21 : x = 21
      · obtain ⟨w, m1, m2, e1, e2, hI2⟩ := pm_sheet (xs (nI (6 * k) + 1).toNatClampNeg) (xs (nI (6 * k) + 2).toNatClampNeg) (xs (nI (6 * k) + 3).toNatClampNeg) m hI
        dsimp only at e1 e2
        rw [if_pos h21, gIf_pos g1, gIf_pos g2, gIf_pos g3, e1, bnd_eq, gIf_pos g1, gIf_pos g2, gIf_pos g3, e2, bnd_eq, if_pos rfl]
        exact nx m2 hI2
      rw [if_neg h21]
      by_cases h22 : x = 22
      · obtain ⟨w, m1, m2, e1, e2, hI2⟩ := pm_cell (xs (nI (6 * k) + 1).toNatClampNeg) (xs (nI (6 * k) + 2).toNatClampNeg) (xs (nI (6 * k) + 3).toNatClampNeg) m hI
        dsimp only at e1 e2
        rw [if_pos h22, gIf_pos g1, gIf_pos g2, gIf_pos g3, e1, bnd_eq, gIf_pos g1, gIf_pos g2, gIf_pos g3, e2, bnd_eq, if_pos rfl]
        exact nx m2 hI2
      rw [if_neg h22]
      by_cases h23 : x = 23
      · obtain ⟨w, m1, m2, e1, e2, hI2⟩ := pm_copy (xs (nI (6 * k) + 1).toNatClampNeg) (xs (nI (6 * k) + 2).toNatClampNeg) (xs (nI (6 * k) + 3).toNatClampNeg) (xs (nI (6 * k) + 4).toNatClampNeg) (xs (nI (6 * k) + 5).toNatClampNeg) m hI
        dsimp only at e1 e2
        rw [if_pos h23, gIf_pos g1, gIf_pos g2, gIf_pos g3, gIf_pos g4, gIf_pos g5, e1, bnd_eq, gIf_pos g1, gIf_pos g2, gIf_pos g3, gIf_pos g4, gIf_pos g5, e2, bnd_eq, if_pos rfl]
        exact nx m2 hI2
      rw [if_neg h23]
      by_cases h24 : x = 24
      · obtain ⟨w, m1, m2, e1, e2, hI2⟩ := pm_coins (xs (nI (6 * k) + 1).toNatClampNeg) (xs (nI (6 * k) + 2).toNatClampNeg) (xs (nI (6 * k) + 3).toNatClampNeg) (xs (nI (6 * k) + 4).toNatClampNeg) m hI
        dsimp only at e1 e2
        rw [if_pos h24, gIf_pos g1, gIf_pos g2, gIf_pos g3, gIf_pos g4, e1, bnd_eq, gIf_pos g1, gIf_pos g2, gIf_pos g3, gIf_pos g4, e2, bnd_eq, if_pos rfl]
        exact nx m2 hI2
      rw [if_neg h24]
      by_cases h25 : x = 25
      · obtain ⟨w, m1, m2, e1, e2, hI2⟩ := pm_taken (xs (nI (6 * k) + 1).toNatClampNeg) (xs (nI (6 * k) + 2).toNatClampNeg) m hI
        dsimp only at e1 e2
        rw [if_pos h25, gIf_pos g1, gIf_pos g2, e1, bnd_eq, gIf_pos g1, gIf_pos g2, e2, bnd_eq, if_pos rfl]
        exact nx m2 hI2
      rw [if_neg h25]
      exact nx m hI
theorem law_true (L : Nat) (xs : Nat → Int32) (hL : L ≤ 3072) : ∃ mE, F_L_law L xs mEmpty = some (true, mE) ∧ mN mE ≤ 600000 ∧ mS mE ≤ 7302250 := by
  obtain ⟨v, m4, e1, h4⟩ := x_init2
  obtain ⟨v2, m10, e2, h10⟩ := m_init1 (m4 := m4) h4.2.1 (P := fun _ m => Inv m ∧ ShM m) (fun m S => ⟨inv0 h4 S, shM_of S⟩)
  obtain ⟨mE, e3, hE⟩ := law_loop L xs hL 600 0 FU m10 (by omega) (by omega) (by show 600 < 5000; omega) h10.1
  refine ⟨mE, ?_, ?_⟩
  · unfold F_L_law
    dsimp only [nm]
    rw [show mN mEmpty = 0 from rfl, e1, bnd_eq, h4.2.1, e2, bnd_eq, gIf_pos ⟨rfl, rfl, h10.1.1, h10.2⟩]
    exact e3
  · obtain ⟨-, n, tc, j, TQ, TS, hC, -, -, -, -, hR⟩ := hE
    have h6 : tc ≤ 6 := hC.2.2.1
    have r1 := hR.1
    have r2 := hR.2.1
    omega
