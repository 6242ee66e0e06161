/-! copy -/
theorem x_roomG (m : Mem) {q sz : Nat} (hz : mD m q 1 = nI sz) (h40 : sz ≤ 40) (a b : Int32) : F_X2_hasRoom m q a b = some (decide (0 ≤ a.toInt ∧ 0 ≤ b.toInt ∧ a.toInt + b.toInt ≤ sz), m) := by
  unfold F_X2_hasRoom
  rw [hz]
  simp only [Int32.lt_iff_toInt_lt, show (0 : Int32).toInt = 0 from rfl, nI_toInt (show sz < 2 ^ 31 by omega)]
  by_cases h1 : a.toInt < 0
  · rw [if_pos h1]; simp; omega
  · rw [if_neg h1]
    by_cases h2 : b.toInt < 0
    · rw [if_pos h2]; simp; omega
    · rw [if_neg h2]
      by_cases h3 : (sz : Int) < a.toInt
      · rw [if_pos h3]; simp; omega
      · rw [if_neg h3]
        rw [Int32.toInt_sub, nI_toInt (by omega), bm32 (by omega) (by omega)]
        by_cases h4 : (sz : Int) - a.toInt < b.toInt
        · rw [if_pos h4]; simp; omega
        · rw [if_neg h4]; simp; omega
theorem Ag.c {P : Nat → Nat → Prop} {m : Mem} {k : Nat} {g : Nat → Int32} (h : ∀ i, P k i) : Ag P m (wC m k g) := ⟨SameSh.c, fun k' i' hp => by
  rw [mD_wC]
  by_cases e : k' = k
  · rw [e] at hp; exact absurd (h i') hp
  · rw [if_neg e]⟩
def p53 (o k i : Nat) : Prop := k = 53 ∧ 40 * o ≤ i ∧ i < 40 * o + 40
def cpd (m0 : Mem) (D S N i : Nat) : Int32 := if D ≤ i ∧ i < D + N then mD m0 53 (S + (i - D)) else mD m0 53 i
theorem m_cpA {m0 : Mem} {s o I J N : Nat} (hs : s < 4) (ho : o < 4) (hI : I + N ≤ 40) (hJ : J + N ≤ 40) (hso : s = o → J ≤ I) : ∀ (r k fu : Nat) (x : Mem), k + r = N → r < fu → (∀ i, mD x 53 i = cpd m0 (40 * o + J) (40 * s + I) k i) → Ev (p53 o) (fun x' => ∀ i, mD x' 53 i = cpd m0 (40 * o + J) (40 * s + I) N i) (F_X6_copy_121 fu x (nI s) (nI I) (nI o) (nI J) (nI N) 0 (nI k)) x (nI N) := by
  intro r
  induction r with
  | zero =>
    intro k fu x hk hf h
    cases fu with
    | zero => omega
    | succ fu =>
      have : k = N := by omega
      subst this
      unfold F_X6_copy_121
      rw [if_pos (Int32.le_refl _)]; exact Ev.ret h
  | succ r ih =>
    intro k fu x hk hf h
    cases fu with
    | zero => omega
    | succ fu =>
      unfold F_X6_copy_121 F_X6_copy_145
      rw [if_neg (nI_ge (show k < N by omega) (by omega)), if_pos rfl, m40, m40, nI_ad, nI_ad, nI_ad, nI_ad, nI_1, gIf_pos (vp_n (show 40 * s + I + k < 160 by omega) (by decide)), gIf_pos (vp_n (show 40 * o + J + k < 160 by omega) (by decide)), nI_c (by omega), nI_c (by omega), h (40 * s + I + k)]
      have e : cpd m0 (40 * o + J) (40 * s + I) k (40 * s + I + k) = mD m0 53 (40 * s + I + k) := by
        unfold cpd
        by_cases es : s = o
        · have := hso es; rw [if_neg (by omega)]
        · rw [if_neg (by omega)]
      rw [e]
      refine Ev.namW ⟨rfl, by omega, by omega⟩ (ih (k + 1) fu _ (by omega) (by omega) (fun i => ?_))
      unfold cpd
      by_cases ei : i = 40 * o + J + k
      · rw [ei, mD_s, if_pos (by omega)]; congr 1; omega
      · rw [mD_i ei, h i]
        unfold cpd
        by_cases c1 : 40 * o + J ≤ i ∧ i < 40 * o + J + k
        · rw [if_pos c1, if_pos (by omega)]
        · rw [if_neg c1, if_neg (by omega)]
def cpe (m0 : Mem) (D S N k i : Nat) : Int32 := if D + (N - k) ≤ i ∧ i < D + N then mD m0 53 (S + (i - D)) else mD m0 53 i
theorem m_cpD {m0 : Mem} {s I J N : Nat} (hs : s < 4) (hI : I + N ≤ 40) (hJ : J + N ≤ 40) (hij : I < J) : ∀ (r k fu : Nat) (x : Mem), k + r = N → r < fu → (∀ i, mD x 53 i = cpe m0 (40 * s + J) (40 * s + I) N k i) → Ev (p53 s) (fun x' => ∀ i, mD x' 53 i = cpd m0 (40 * s + J) (40 * s + I) N i) (F_X6_copy_121 fu x (nI s) (nI I) (nI s) (nI J) (nI N) 1 (nI k)) x (nI N) := by
  intro r
  induction r with
  | zero =>
    intro k fu x hk hf h
    cases fu with
    | zero => omega
    | succ fu =>
      have : k = N := by omega
      subst this
      unfold F_X6_copy_121
      rw [if_pos (Int32.le_refl _)]
      refine Ev.ret (fun i => ?_)
      rw [h i]; unfold cpe cpd
      by_cases c1 : 40 * s + J ≤ i ∧ i < 40 * s + J + k
      · rw [if_pos (by omega), if_pos c1]
      · rw [if_neg (by omega), if_neg c1]
  | succ r ih =>
    intro k fu x hk hf h
    cases fu with
    | zero => omega
    | succ fu =>
      unfold F_X6_copy_121 F_X6_copy_145
      have eq1 : nI N - 1 - nI k = nI (N - 1 - k) := by
        have e1 : nI N - 1 = nI (N - 1) := by rw [show N = (N - 1) + 1 by omega, nI_pred]; rfl
        rw [e1]; exact (Int32.ofNat_sub _ _ (by omega)).symm
      rw [if_neg (nI_ge (show k < N by omega) (by omega)), if_neg (by decide), eq1, m40, nI_ad, nI_ad, nI_ad, nI_ad, nI_1, gIf_pos (vp_n (show 40 * s + I + (N - 1 - k) < 160 by omega) (by decide)), gIf_pos (vp_n (show 40 * s + J + (N - 1 - k) < 160 by omega) (by decide)), nI_c (by omega), nI_c (by omega), h (40 * s + I + (N - 1 - k))]
      have e : cpe m0 (40 * s + J) (40 * s + I) N k (40 * s + I + (N - 1 - k)) = mD m0 53 (40 * s + I + (N - 1 - k)) := by
        unfold cpe; rw [if_neg (by omega)]
      rw [e]
      refine Ev.namW ⟨rfl, by omega, by omega⟩ (ih (k + 1) fu _ (by omega) (by omega) (fun i => ?_))
      unfold cpe
      by_cases ei : i = 40 * s + J + (N - 1 - k)
      · rw [ei, mD_s, if_pos (by omega)]; congr 1; omega
      · rw [mD_i ei, h i]
        unfold cpe
        by_cases c1 : 40 * s + J + (N - k) ≤ i ∧ i < 40 * s + J + N
        · rw [if_pos c1, if_pos (by omega)]
        · rw [if_neg c1, if_neg (by omega)]
theorem pm_copy (a1 a2 a3 a4 a5 : Int32) : PM (fun m => F_X5_copy m a1 a2 a3 a4 a5) (fun m => F_X6_copy m a1 a2 a3 a4 a5) := by
  intro m hI
  obtain ⟨n, tc, j, TQ, TS, hA, -⟩ := hI.open_
  have hSt := hA.2.2.2.2.1
  cases hs : btw a1 0 3 with
  | false => exact roE hI (-2) (by simp only [F_X5_copy, x_isSheet, hs, bnd_eq, bzf0, if_true]) (by simp only [F_X6_copy, m_isSheet, hs, bnd_eq, bzf0, if_true])
  | true =>
    cases ho : btw a3 0 3 with
    | false => exact roE hI (-2) (by simp only [F_X5_copy, x_isSheet, hs, ho, bnd_eq, bzf0, bzt0, if_true, if_false]) (by simp only [F_X6_copy, m_isSheet, hs, ho, bnd_eq, bzf0, bzt0, if_true, if_false])
    | true =>
      obtain ⟨s, hs', rfl⟩ := btw_nat (hi := 3) hs (by decide)
      obtain ⟨o, ho', rfl⟩ := btw_nat (hi := 3) ho (by decide)
      have hs4 : s < 4 := by omega
      have ho4 : o < 4 := by omega
      have miss : ∀ q, q < 4 → ∀ x, F_X2_isMissing x (28 + 2 * q) = some (decide (mD x (28 + 2 * q) 0 = -1), x) := fun q _ x => by
        unfold F_X2_isMissing
        by_cases h : mD x (28 + 2 * q) 0 = -1
        · rw [if_pos h]; simp [h]
        · rw [if_neg h]; simp [h]
      have eX : F_X5_copy m (nI s) a2 (nI o) a4 a5 = if bz (decide (mD m (28 + 2 * s) 0 = -1)) = 0 then if bz (decide (mD m (28 + 2 * o) 0 = -1)) = 0 then if mD m (28 + 2 * s) 0 = mD m (28 + 2 * o) 0 then bnd (F_X2_hasRoom m (28 + 2 * s) a2 a5) fun v26 m27 => if bz v26 = 0 then some (-12, m27) else bnd (F_X2_hasRoom m27 (28 + 2 * o) a4 a5) fun v31 m32 => if bz v31 = 0 then some (-12, m32) else gIf (¬ a2 < 0 ∧ ¬ a4 < 0 ∧ ¬ a5 < 0 ∧ a2.toNatClampNeg + a5.toNatClampNeg ≤ 40 ∧ a4.toNatClampNeg + a5.toNatClampNeg ≤ 40) <| nm (wC m32 (28 + 2 * o + 1) (va_cpy (mD m32 (28 + 2 * s + 1)) (mD m32 (28 + 2 * o + 1)) a2.toNatClampNeg a4.toNatClampNeg a5.toNatClampNeg)) fun m37 => some (a5, m37) else some (-13, m) else some (-11, m) else some (-11, m) := by
        simp only [F_X5_copy, x_isSheet, hs, ho, bnd_eq, bzt0, if_false]
        rw [gIf_pos (vp_n hs4 (by decide)), gIf_pos (vp_n ho4 (by decide)), nI_c (n := s) (by omega), nI_c (n := o) (by omega), miss s hs4, bnd_eq, miss o ho4, bnd_eq]
      have eM : ∀ x, F_X6_copy x (nI s) a2 (nI o) a4 a5 = if mD x 50 s = 0 then some (-11, x) else if mD x 50 o = 0 then some (-11, x) else if mD x 51 s = mD x 51 o then if a5 < 0 then some (-12, x) else if a2 < 0 then some (-12, x) else if a4 < 0 then some (-12, x) else if mD x 52 s - a5 < a2 then some (-12, x) else if a4 ≤ mD x 52 o - a5 then if nI s = nI o then if a4 ≤ a2 then F_X6_copy_121 FU x (nI s) a2 (nI o) a4 a5 0 0 else F_X6_copy_121 FU x (nI s) a2 (nI o) a4 a5 1 0 else F_X6_copy_121 FU x (nI s) a2 (nI o) a4 a5 0 0 else some (-12, x) else some (-13, x) := fun x => by
        simp only [F_X6_copy, F_X6_copy_115, F_X6_copy_116, m_isSheet, hs, ho, bnd_eq, bzt0, if_false, gIf_pos (vp_n hs4 (by decide)), gIf_pos (vp_n ho4 (by decide)), nI_c (show s < 1000 by omega), nI_c (show o < 1000 by omega)]
      rcases hSt s hs4 with ⟨st1, st2⟩ | ⟨st1, st2, st3, sz, hz, sz1, sz2, st4⟩
      · refine roE hI (-11) ?_ ?_
        · rw [eX, st1, if_neg (by decide)]
        · rw [eM, if_pos st2]
      · have hne : ¬ mD m (28 + 2 * s) 0 = -1 := fun z => by
          rw [st2] at z; rw [z] at st3; exact absurd st3 (by decide)
        have d1 : bz (decide (mD m (28 + 2 * s) 0 = -1)) = 0 := by simp [bz, hne]
        rcases hSt o ho4 with ⟨ot1, ot2⟩ | ⟨ot1, ot2, ot3, oz, hoz, oz1, oz2, ot4⟩
        · refine roE hI (-11) ?_ ?_
          · rw [eX, if_pos d1, ot1, if_neg (by decide)]
          · rw [eM, st1, if_neg (by decide), if_pos ot2]
        · have hno : ¬ mD m (28 + 2 * o) 0 = -1 := fun z => by
            rw [ot2] at z; rw [z] at ot3; exact absurd ot3 (by decide)
          have d2 : bz (decide (mD m (28 + 2 * o) 0 = -1)) = 0 := by simp [bz, hno]
          by_cases h51 : mD m 51 s = mD m 51 o
          · by_cases hC : (0 ≤ a2.toInt ∧ 0 ≤ a5.toInt ∧ a2.toInt + a5.toInt ≤ sz) ∧ (0 ≤ a4.toInt ∧ 0 ≤ a5.toInt ∧ a4.toInt + a5.toInt ≤ oz)
            · obtain ⟨⟨q1, q2, q3⟩, q4, -, q6⟩ := hC
              obtain ⟨I, hI', rfl⟩ : ∃ I : Nat, (I : Int) = a2.toInt ∧ a2 = nI I := ⟨a2.toInt.toNat, by omega, toNatI q1⟩
              obtain ⟨J, hJ', rfl⟩ : ∃ J : Nat, (J : Int) = a4.toInt ∧ a4 = nI J := ⟨a4.toInt.toNat, by omega, toNatI q4⟩
              obtain ⟨N, hN', rfl⟩ : ∃ N : Nat, (N : Int) = a5.toInt ∧ a5 = nI N := ⟨a5.toInt.toNat, by omega, toNatI q2⟩
              have hIN : I + N ≤ sz := by omega
              have hJN : J + N ≤ oz := by omega
              have b1 : Ag (fun k _ => k = 29 + 2 * o) m (wC m (28 + 2 * o + 1) (va_cpy (mD m (28 + 2 * s + 1)) (mD m (28 + 2 * o + 1)) I J N)) := Ag.c (P := fun k _ => k = 29 + 2 * o) (fun i => by omega)
              have exX : F_X5_copy m (nI s) (nI I) (nI o) (nI J) (nI N) = some (nI N, wC m (28 + 2 * o + 1) (va_cpy (mD m (28 + 2 * s + 1)) (mD m (28 + 2 * o + 1)) I J N)) := by
                rw [eX, if_pos d1, if_pos d2, st2, ot2, if_pos h51, x_room m sz1 hz (by omega) (by omega), bnd_eq, if_neg (show ¬ bz (decide (I + N ≤ sz)) = 0 by simp [bz, hIN]), x_room m oz1 hoz (by omega) (by omega), bnd_eq, if_neg (show ¬ bz (decide (J + N ≤ oz)) = 0 by simp [bz, hJN]), nI_c (by omega), nI_c (by omega), nI_c (by omega), gIf_pos ⟨nI_pos (by omega), nI_pos (by omega), nI_pos (by omega), by omega, by omega⟩]
                rfl
              have cX : ∀ i, mD (wC m (28 + 2 * o + 1) (va_cpy (mD m (28 + 2 * s + 1)) (mD m (28 + 2 * o + 1)) I J N)) (29 + 2 * o) i = if J ≤ i ∧ i < J + N then mD m (29 + 2 * s) (I + (i - J)) else mD m (29 + 2 * o) i := fun i => by
                rw [mD_wC, if_pos (by omega)]
                unfold va_cpy
                rw [show 28 + 2 * s + 1 = 29 + 2 * s by omega, show 28 + 2 * o + 1 = 29 + 2 * o by omega]
              generalize wC m (28 + 2 * o + 1) (va_cpy (mD m (28 + 2 * s + 1)) (mD m (28 + 2 * o + 1)) I J N) = m1 at b1 exX cX
              have k1 : ∀ k i, 50 ≤ k → mD m1 k i = mD m k i := fun k i hk => b1.2 k i (by omega)
              have c53 : ∀ i, mD m1 53 i = cpd m1 (40 * o + J) (40 * s + I) 0 i := fun i => by unfold cpd; rw [if_neg (by omega)]
              have c53e : ∀ i, mD m1 53 i = cpe m1 (40 * s + J) (40 * s + I) N 0 i := fun i => by unfold cpe; rw [if_neg (by omega)]
              have exM : Ev (p53 o) (fun x' => ∀ i, mD x' 53 i = cpd m1 (40 * o + J) (40 * s + I) N i) (F_X6_copy m1 (nI s) (nI I) (nI o) (nI J) (nI N)) m1 (nI N) := by
                rw [eM, k1 50 s (by omega), st1, if_neg (by decide), k1 50 o (by omega), ot1, if_neg (by decide), k1 51 s (by omega), k1 51 o (by omega), if_pos h51, if_neg (nI_pos (by omega)), if_neg (nI_pos (by omega)), if_neg (nI_pos (by omega)), k1 52 s (by omega), sz2, k1 52 o (by omega), oz2]
                have e1 : nI sz - nI N = nI (sz - N) := (Int32.ofNat_sub _ _ (by omega)).symm
                have e2 : nI oz - nI N = nI (oz - N) := (Int32.ofNat_sub _ _ (by omega)).symm
                rw [e1, e2, if_neg (nI_nlt (by omega) (by omega)), if_pos (nI_le (by omega) (by omega))]
                by_cases es : s = o
                · rw [if_pos (by rw [es])]
                  by_cases hle : J ≤ I
                  · rw [if_pos (nI_le hle (by omega))]
                    exact m_cpA hs4 ho4 (by omega) (by omega) (fun _ => hle) N 0 FU m1 (by omega) (hFU (by omega)) c53
                  · rw [if_neg (nI_ge (by omega) (by omega))]
                    subst es
                    exact m_cpD hs4 (by omega) (by omega) (by omega) N 0 FU m1 (by omega) (hFU (by omega)) c53e
                · rw [if_neg (fun z => es ((nI_eq (by omega) (by omega)).mp z))]
                  exact m_cpA hs4 ho4 (by omega) (by omega) (fun z => absurd z es) N 0 FU m1 (by omega) (hFU (by omega)) c53
              obtain ⟨m2, e2, b2, r2⟩ := exM
              refine ⟨nI N, m1, m2, exX, e2, ?_⟩
              have b3 : St1 o m2 := by
                refine Or.inr ⟨?_, ?_, ?_, oz, hoz, ?_, ?_, fun i hi => ?_⟩
                · rw [b2.2 50 o (by unfold p53; omega), k1 50 o (by omega)]; exact ot1
                · rw [b2.2 _ 0 (by unfold p53; omega), b1.2 (28 + 2 * o) 0 (by omega), b2.2 51 o (by unfold p53; omega), k1 51 o (by omega)]; exact ot2
                · rw [b2.2 51 o (by unfold p53; omega), k1 51 o (by omega)]; exact ot3
                · rw [b2.2 _ 1 (by unfold p53; omega), b1.2 (28 + 2 * o) 1 (by omega)]; exact oz1
                · rw [b2.2 52 o (by unfold p53; omega), k1 52 o (by omega)]; exact oz2
                · rw [b2.2 _ i (by unfold p53; omega), cX i, r2]
                  unfold cpd
                  by_cases c1 : J ≤ i ∧ i < J + N
                  · rw [if_pos c1, if_pos (by omega), k1 53 _ (by omega), show 40 * s + I + (40 * o + i - (40 * o + J)) = 40 * s + (I + (i - J)) by omega]
                    exact st4 _ (by omega)
                  · rw [if_neg c1, if_neg (by omega), k1 53 _ (by omega)]; exact ot4 i hi
              exact inv_sheet ho4 hA (b1.mono fun _ _ z => Or.inr (Or.inr z)) (b2.mono fun _ _ z => Or.inr (Or.inr z)) b3
            · refine roE hI (-12) ?_ ?_
              · rw [eX, if_pos d1, if_pos d2, st2, ot2, if_pos h51, x_roomG m sz1 hz, bnd_eq]
                by_cases c1 : 0 ≤ a2.toInt ∧ 0 ≤ a5.toInt ∧ a2.toInt + a5.toInt ≤ sz
                · rw [if_neg (show ¬ bz (decide (0 ≤ a2.toInt ∧ 0 ≤ a5.toInt ∧ a2.toInt + a5.toInt ≤ sz)) = 0 by simp [bz, c1]), x_roomG m oz1 hoz, bnd_eq]
                  have c2 : ¬ (0 ≤ a4.toInt ∧ 0 ≤ a5.toInt ∧ a4.toInt + a5.toInt ≤ oz) := fun z => hC ⟨c1, z⟩
                  rw [if_pos (show bz (decide (0 ≤ a4.toInt ∧ 0 ≤ a5.toInt ∧ a4.toInt + a5.toInt ≤ oz)) = 0 by rw [decide_eq_false c2]; rfl)]
                · rw [if_pos (show bz (decide (0 ≤ a2.toInt ∧ 0 ≤ a5.toInt ∧ a2.toInt + a5.toInt ≤ sz)) = 0 by rw [decide_eq_false c1]; rfl)]
              · rw [eM, st1, if_neg (by decide), ot1, if_neg (by decide), if_pos h51, sz2, oz2]
                by_cases n5 : a5 < 0
                · rw [if_pos n5]
                · rw [if_neg n5]
                  by_cases n2 : a2 < 0
                  · rw [if_pos n2]
                  · rw [if_neg n2]
                    by_cases n4 : a4 < 0
                    · rw [if_pos n4]
                    · rw [if_neg n4]
                      rw [Int32.lt_iff_toInt_lt, show (0 : Int32).toInt = 0 from rfl] at n5 n2 n4
                      have u := a5.toInt_lt
                      have e1 : (nI sz - a5).toInt = (sz : Int) - a5.toInt := by rw [Int32.toInt_sub, nI_toInt (by omega), bm32 (by omega) (by omega)]
                      have e2 : (nI oz - a5).toInt = (oz : Int) - a5.toInt := by rw [Int32.toInt_sub, nI_toInt (by omega), bm32 (by omega) (by omega)]
                      by_cases c1 : nI sz - a5 < a2
                      · rw [if_pos c1]
                      · rw [if_neg c1, if_neg]
                        intro c2
                        rw [Int32.lt_iff_toInt_lt, e1] at c1
                        rw [Int32.le_iff_toInt_le, e2] at c2
                        exact hC ⟨⟨by omega, by omega, by omega⟩, by omega, by omega, by omega⟩
          · refine roE hI (-13) ?_ ?_
            · rw [eX, if_pos d1, if_pos d2, st2, ot2, if_neg h51]
            · rw [eM, st1, if_neg (by decide), ot1, if_neg (by decide), if_neg h51]
