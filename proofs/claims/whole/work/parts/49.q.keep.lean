/-! a text is kept: new cells -/
theorem nK (m : Mem) (t l s k : Nat) : mK (mNew m t l s) k = if k = mN m then (t, l) else mK m k := rfl
theorem nD (m : Mem) (t l s k i : Nat) : mD (mNew m t l s) k i = if k = mN m then 0 else mD m k i := rfl
theorem nR (m : Mem) (t l s k i : Nat) : mR (mNew m t l s) k i = if k = mN m then none else mR m k i := rfl
theorem nN (m : Mem) (t l s : Nat) : mN (mNew m t l s) = mN m + 1 := rfl
theorem nS (m : Mem) (t l s : Nat) : mS (mNew m t l s) = mS m + s := rfl
def KP (N0 : Nat) (m m' : Mem) : Prop := ∀ k, k < N0 → mK m' k = mK m k ∧ mD m' k = mD m k ∧ mR m' k = mR m k
theorem KP.tr {N0 : Nat} {a b c : Mem} (h : KP N0 a b) (g : KP N0 b c) : KP N0 a c := fun k hk => ⟨(g k hk).1.trans (h k hk).1, (g k hk).2.1.trans (h k hk).2.1, (g k hk).2.2.trans (h k hk).2.2⟩
theorem KP.mono {N0 N1 : Nat} {a b : Mem} (h : KP N1 a b) (hn : N0 ≤ N1) : KP N0 a b := fun k hk => h k (by omega)
theorem KP.new {N0 : Nat} {m : Mem} (t l s : Nat) (h : N0 ≤ mN m) : KP N0 m (mNew m t l s) := fun k hk => by
  have hne : ¬ k = mN m := by omega
  exact ⟨by rw [nK, if_neg hne], funext fun i => by rw [nD, if_neg hne], funext fun i => by rw [nR, if_neg hne]⟩
theorem KP.wc {N0 : Nat} {m : Mem} {k : Nat} (g : Nat → Int32) (h : N0 ≤ k) : KP N0 m (wC m k g) := fun q hq => ⟨rfl, funext fun i => by rw [mD_wC, if_neg (by omega)], rfl⟩
theorem KP.wr {N0 : Nat} {m : Mem} {k i : Nat} (v : Option Nat) (h : N0 ≤ k) : KP N0 m (wR m k i v) := fun q hq => ⟨rfl, rfl, funext fun x => by rw [mR_wR, if_neg (by omega)]⟩
theorem x_copyOf {m : Mem} {c len L : Nat} (hK : mK m c = (7, len)) (hc : c < mN m) (hL : L ≤ len) (hl : len ≤ 160) : ∃ m', F_J7_copyOf_59c91 m c (nI L) = some (mN m, m') ∧ mN m' = mN m + 1 ∧ mS m' = mS m + L ∧ KP (mN m) m m' ∧ mK m' (mN m) = (7, L) ∧ ∀ i, i < L → mD m' (mN m) i = mD m c i := by
  have hcb : componentBytes .int = 4 := rfl
  unfold F_J7_copyOf_59c91
  rw [hK, gIf_pos rfl]
  by_cases he : L = len
  · subst he
    rw [if_pos (show nI L = Int32.ofNat (7, L).2 from rfl), gIf_pos rfl]
    dsimp only [nm]
    rw [gIf_pos (show (mK (wC (mNew m 7 L L) (mN m) (mD m c)) (mN m)).1 = 7 by rw [mK_wC, nK, if_pos rfl])]
    exact ⟨_, rfl, rfl, rfl, (KP.new 7 L L (Nat.le_refl _)).tr (KP.wc _ (Nat.le_refl _)), by rw [mK_wC, nK, if_pos rfl], fun i _ => by rw [mD_wC, if_pos rfl]⟩
  · rw [if_neg (show ¬ nI L = Int32.ofNat (7, len).2 from fun z => he ((nI_eq (by omega) (by omega)).mp z)), nI_c (by omega), gIf_pos (show ¬ nI L < 0 ∧ L * componentBytes .int ≤ 536870912 from ⟨nI_pos (by omega), by rw [hcb]; omega⟩)]
    dsimp only [nm]
    have k1 : mK (mNew m 7 L L) c = (7, len) := by rw [nK, if_neg (by omega)]; exact hK
    have k2 : mK (mNew m 7 L L) (mN m) = (7, L) := by rw [nK, if_pos rfl]
    rw [k1, k2, gIf_pos (show ((7, len) : Nat × Nat).1 = 7 from rfl)]
    rw [if_pos (show nI L < Int32.ofNat ((7, len) : Nat × Nat).2 from nI_lt (show L < len by omega) (by omega)), nI_c (by omega)]
    rw [gIf_pos (show ¬ (0 : Int32) < 0 ∧ ¬ (0 : Int32) < 0 ∧ ¬ nI L < 0 ∧ (0 : Int32).toNatClampNeg + L ≤ ((7, len) : Nat × Nat).2 ∧ (0 : Int32).toNatClampNeg + L ≤ ((7, L) : Nat × Nat).2 ∧ ((7, len) : Nat × Nat).1 = 7 ∧ ((7, L) : Nat × Nat).1 = 7 from ⟨by decide, by decide, nI_pos (by omega), by rw [show (0 : Int32).toNatClampNeg = 0 from rfl]; dsimp only; omega, by rw [show (0 : Int32).toNatClampNeg = 0 from rfl]; dsimp only; omega, rfl, rfl⟩)]
    refine ⟨_, rfl, rfl, rfl, (KP.new 7 L L (Nat.le_refl _)).tr (KP.wc _ (Nat.le_refl _)), by rw [mK_wC]; exact k2, fun i hi => ?_⟩
    rw [mD_wC, if_pos rfl]
    unfold va_cpy
    rw [show (0 : Int32).toNatClampNeg = 0 from rfl, if_pos (by omega), nD, if_neg (by omega), Nat.sub_zero, Nat.zero_add]
theorem x_newText {m : Mem} {L : Nat} (hS : ShX m) (hN : 36 ≤ mN m) (h26 : mD m 2 6 = nI L) (hL : L ≤ 160) : ∃ m', F_X3_newText m 2 = some (mN m, m') ∧ mN m' = mN m + 4 ∧ mS m' = mS m + (6 + 2 * L) ∧ KP (mN m) m m' ∧ isT m' (mN m) ∧ (mK m' (mN m + 1)).2 = L ∧ (∀ i, i < L → mD m' (mN m + 1) i = mD m 4 i) ∧ ∀ i, i < 3 → mD m' (mN m + 2) i = mD m 5 i := by
  unfold F_X3_newText
  dsimp only [nm]
  have p1 := KP.new (m := m) 4 0 3 (Nat.le_refl (mN m))
  have n1 : mN (mNew m 4 0 3) = mN m + 1 := rfl
  have s1 : mS (mNew m 4 0 3) = mS m + 3 := rfl
  have q1 : mK (mNew m 4 0 3) (mN m) = (4, 0) := by rw [nK, if_pos rfl]
  generalize mNew m 4 0 3 = m1 at p1 n1 s1 q1
  obtain ⟨a2, b2, c2⟩ := p1 2 (by omega)
  obtain ⟨a4, b4, c4⟩ := p1 4 (by omega)
  obtain ⟨a5, b5, c5⟩ := p1 5 (by omega)
  have k2 : mK m1 2 = (3, 0) := by rw [a2]; exact sx_k2 hS
  rw [gIf_pos k2, gRef_some (show mR m1 2 5 = some 4 by rw [c2]; exact sx_r2_5 hS), gIf_pos k2, b2, h26]
  obtain ⟨m2, e2, n2, s2, p2, k7, d2⟩ := x_copyOf (m := m1) (c := 4) (len := 160) (L := L) (by rw [a4]; exact sx_k4 hS) (by omega) hL (by omega)
  rw [e2, bnd_eq]
  have p12 : KP (mN m) m m2 := p1.tr (p2.mono (by omega))
  obtain ⟨x2, y2, z2⟩ := p12 2 (by omega)
  obtain ⟨x5, y5, z5⟩ := p12 5 (by omega)
  have k2' : mK m2 2 = (3, 0) := by rw [x2]; exact sx_k2 hS
  have r27 : mR m2 2 7 = some 5 := by rw [z2]; exact sx_r2_7 hS
  have k5 : mK m2 5 = (7, 3) := by rw [x5]; exact sx_k5 hS
  rw [gIf_pos k2', gRef_some r27, gIf_pos k2', gRef_some r27, k5, gIf_pos rfl]
  obtain ⟨m3, e3, n3, s3, p3, k8, d3⟩ := x_copyOf (m := m2) (c := 5) (len := 3) (L := 3) k5 (by omega) (Nat.le_refl _) (by omega)
  rw [show Int32.ofNat ((7, 3) : Nat × Nat).2 = nI 3 from rfl, e3, bnd_eq]
  have p13 : KP (mN m) m m3 := p12.tr (p3.mono (by omega))
  -- the text's own cell
  have j0 : mK m3 (mN m) = (4, 0) := by rw [(p3 (mN m) (by omega)).1, (p2 (mN m) (by omega)).1]; exact q1
  have j1 : mK m3 (mN m1) = (7, L) := by rw [(p3 (mN m1) (by omega)).1]; exact k7
  unfold F_X4_init
  dsimp only [nm]
  rw [gIf_pos j0, gIf_pos (show mK (wR m3 (mN m) 0 (some (mN m1))) (mN m) = (4, 0) from j0), gIf_pos (show (mK (wR (wR m3 (mN m) 0 (some (mN m1))) (mN m) 1 (some (mN m2))) (mN m1)).1 = 7 by rw [show mK (wR (wR m3 (mN m) 0 (some (mN m1))) (mN m) 1 (some (mN m2))) (mN m1) = mK m3 (mN m1) from rfl, j1])]
  rw [show mK (wR (wR m3 (mN m) 0 (some (mN m1))) (mN m) 1 (some (mN m2))) (mN m1) = (7, L) from j1, show Int32.ofNat ((7, L) : Nat × Nat).2 = nI L from rfl, nI_c (by omega), gIf_pos (show ¬ nI L < 0 ∧ L * componentBytes .int ≤ 536870912 from ⟨nI_pos (by omega), by rw [show componentBytes .int = 4 from rfl]; omega⟩)]
  have w1 : mN (wR (wR m3 (mN m) 0 (some (mN m1))) (mN m) 1 (some (mN m2))) = mN m + 3 := by rw [mN_wR, mN_wR]; omega
  have wK : ∀ k, mK (mNew (wR (wR m3 (mN m) 0 (some (mN m1))) (mN m) 1 (some (mN m2))) 7 L L) k = if k = mN m + 3 then (7, L) else mK m3 k := fun k => by rw [nK, w1]; rfl
  have wDD : ∀ k i, ¬ k = mN m + 3 → mD (mNew (wR (wR m3 (mN m) 0 (some (mN m1))) (mN m) 1 (some (mN m2))) 7 L L) k i = mD m3 k i := fun k i h => by rw [nD, w1, if_neg h]; rfl
  have wRR : ∀ k i, ¬ k = mN m + 3 → mR (mNew (wR (wR m3 (mN m) 0 (some (mN m1))) (mN m) 1 (some (mN m2))) 7 L L) k i = mR (wR (wR m3 (mN m) 0 (some (mN m1))) (mN m) 1 (some (mN m2))) k i := fun k i h => by rw [nR, w1, if_neg h]
  have pw : KP (mN m) m3 (mNew (wR (wR m3 (mN m) 0 (some (mN m1))) (mN m) 1 (some (mN m2))) 7 L L) := ((KP.wr _ (Nat.le_refl _)).tr (KP.wr _ (Nat.le_refl _))).tr (KP.new 7 L L (by omega))
  have wn : mN (mNew (wR (wR m3 (mN m) 0 (some (mN m1))) (mN m) 1 (some (mN m2))) 7 L L) = mN m + 4 := by rw [nN, w1]
  have ws : mS (mNew (wR (wR m3 (mN m) 0 (some (mN m1))) (mN m) 1 (some (mN m2))) 7 L L) = mS m + (6 + 2 * L) := by rw [nS, mS_wR, mS_wR, s3, s2, s1]; omega
  have r0 : mR (wR (wR m3 (mN m) 0 (some (mN m1))) (mN m) 1 (some (mN m2))) (mN m) 0 = some (mN m + 1) := by rw [mR_wR, if_neg (by omega), mR_wR, if_pos ⟨rfl, rfl⟩, n1]
  have r1 : mR (wR (wR m3 (mN m) 0 (some (mN m1))) (mN m) 1 (some (mN m2))) (mN m) 1 = some (mN m + 2) := by rw [mR_wR, if_pos ⟨rfl, rfl⟩]; congr 1; omega
  rw [w1]
  generalize mNew (wR (wR m3 (mN m) 0 (some (mN m1))) (mN m) 1 (some (mN m2))) 7 L L = m4 at wK wDD wRR pw wn ws
  have j4 : mK m4 (mN m) = (4, 0) := by rw [wK, if_neg (by omega)]; exact j0
  rw [gIf_pos j4, bnd_eq]
  refine ⟨wR m4 (mN m) 2 (some (mN m + 3)), rfl, wn, ws, (p13.tr pw).tr (KP.wr _ (Nat.le_refl _)), ⟨j4, ?_, ?_, ?_, ?_, ?_, ?_⟩, ?_, fun i hi => ?_, fun i hi => ?_⟩
  · rw [mR_wR, if_neg (by omega), wRR _ _ (by omega)]; exact r0
  · rw [mR_wR, if_neg (by omega), wRR _ _ (by omega)]; exact r1
  · rw [mR_wR, if_pos ⟨rfl, rfl⟩]
  · rw [mK_wR, wK, if_neg (by omega), ← n1, j1]
  · rw [mK_wR, wK, if_neg (by omega), show mN m + 2 = mN m2 by omega]; exact k8
  · rw [mK_wR, wK, if_pos rfl, wK, if_neg (by omega), ← n1, j1]
  · rw [mK_wR, wK, if_neg (by omega), ← n1, j1]
  · rw [mD_wR, wDD _ _ (by omega), ← n1, (p3 (mN m1) (by omega)).2.1, d2 i hi, b4]
  · rw [mD_wR, wDD _ _ (by omega), show mN m + 2 = mN m2 by omega, d3 i hi, y5]
theorem x_keep {m : Mem} {tc L : Nat} (hS : ShX m) (hN : 36 ≤ mN m) (h05 : mD m 0 5 = nI tc) (htc : tc < 6) (h26 : mD m 2 6 = nI L) (hL : L ≤ 160) : ∃ m', F_X5_keepText m 0 = some ((), m') ∧ mN m' = mN m + 4 ∧ mS m' = mS m + (6 + 2 * L) ∧ (∀ k, k < mN m → mK m' k = mK m k) ∧ (∀ k i, k < mN m → ¬ (k = 0 ∧ i = 5) → ¬ (k = 2 ∧ i = 1) → mD m' k i = mD m k i) ∧ mD m' 0 5 = nI (tc + 1) ∧ mD m' 2 1 = 0 ∧ (∀ k i, k < mN m → ¬ (k = 6 ∧ i = tc) → mR m' k i = mR m k i) ∧ mR m' 6 tc = some (mN m) ∧ isT m' (mN m) ∧ (mK m' (mN m + 1)).2 = L ∧ (∀ i, i < L → mD m' (mN m + 1) i = mD m 4 i) ∧ ∀ i, i < 3 → mD m' (mN m + 2) i = mD m 5 i := by
  obtain ⟨m1, e1, n1, s1, p1, t1, l1, d1, d2⟩ := x_newText hS hN h26 hL
  unfold F_X5_keepText F_X5_keepText_38
  have k0 := sx_k0 hS
  have k6 := sx_k6 hS
  rw [gIf_pos k0, gIf_pos k0, gRef_some (sx_r0_4 hS), k6, gIf_pos rfl, h05, if_neg (show ¬ Int32.ofNat ((11, 6) : Nat × Nat).2 ≤ nI tc from nI_ge (b := 6) htc (by omega)), gIf_pos k0, gRef_some (sx_r0_4 hS), gIf_pos k0, gIf_pos k0, gRef_some (sx_r0_3 hS), gIf_pos (sx_k2 hS), e1, bnd_eq]
  have q6 : mK m1 6 = (11, 6) := by rw [(p1 6 (by omega)).1]; exact k6
  have q0 : mK m1 0 = (5, 0) := by rw [(p1 0 (by omega)).1]; exact k0
  have q2 : mK m1 2 = (3, 0) := by rw [(p1 2 (by omega)).1]; exact sx_k2 hS
  rw [q6, gIf_pos (show ((11, 6) : Nat × Nat).1 = 11 ∧ vp_in (nI tc) ((11, 6) : Nat × Nat).2 ∧ mK m1 (mN m) = (4, 0) from ⟨rfl, vp_n htc (by decide), t1.1⟩), nI_c (by omega)]
  dsimp only [nm]
  rw [gIf_pos (show mK (wR m1 6 tc (some (mN m))) 0 = (5, 0) from q0), gIf_pos (show mK (wR m1 6 tc (some (mN m))) 0 = (5, 0) from q0)]
  have e05 : mD (wR m1 6 tc (some (mN m))) 0 5 = nI tc := by rw [mD_wR, (p1 0 (by omega)).2.1]; exact h05
  rw [e05, nI_1]
  have r03 : mR (wD (wR m1 6 tc (some (mN m))) 0 5 (nI (tc + 1))) 0 3 = some 2 := by
    rw [mR_wD, mR_wR, if_neg (by omega), (p1 0 (by omega)).2.2]; exact sx_r0_3 hS
  rw [gIf_pos (show mK (wD (wR m1 6 tc (some (mN m))) 0 5 (nI (tc + 1))) 0 = (5, 0) from q0), gRef_some r03, gIf_pos (show mK (wD (wR m1 6 tc (some (mN m))) 0 5 (nI (tc + 1))) 2 = (3, 0) from q2)]
  refine ⟨_, rfl, n1, s1, fun k hk => (p1 k hk).1, fun k i hk h1 h2 => ?_, ?_, mD_s, fun k i hk h1 => ?_, ?_, ?_, l1, fun i hi => ?_, fun i hi => ?_⟩
  · rw [mD_wD, if_neg h2, mD_wD, if_neg h1, mD_wR, (p1 k hk).2.1]
  · rw [mD_k (by decide), mD_s]
  · rw [mR_wD, mR_wD, mR_wR, if_neg h1, (p1 k hk).2.2]
  · rw [mR_wD, mR_wD, mR_wR, if_pos ⟨rfl, rfl⟩]
  · obtain ⟨u1, u2, u3, u4, u5⟩ := t1
    exact ⟨u1, by rw [mR_wD, mR_wD, mR_wR, if_neg (by omega)]; exact u2, by rw [mR_wD, mR_wD, mR_wR, if_neg (by omega)]; exact u3, by rw [mR_wD, mR_wD, mR_wR, if_neg (by omega)]; exact u4, u5⟩
  · rw [mD_k (by omega), mD_k (by omega), mD_wR]; exact d1 i hi
  · rw [mD_k (by omega), mD_k (by omega), mD_wR]; exact d2 i hi
