/-! THE REFERENCE'S VALLEY -/
def mrow (m : Mem) (i : Nat) : Nat → Int32 := fun f => if f = 0 then mD m 44 i else if f < 6 then mD m 45 (5 * i + (f - 1)) else 0
def MTx (m : Mem) (t : Nat) (S : Nat → (Int32 → Int32) → Int32) : Prop := ∃ (B : Nat → Int32) (n : Nat) (c0 c1 c2 : List Int32), n ≤ 160 ∧ mD m 42 t = nI n ∧ (∀ i, i < n → mD m 41 (160 * t + i) = B i) ∧ (∀ i, i < n → (0 : Int32) ≤ B i) ∧ (pRead B n).1 = some (c0, c1, c2) ∧ ∀ E, S 0 E = (runS E c0 []).headD 0 ∧ S 1 E = (runS E c1 []).headD 0 ∧ S 2 E = (runS E c2 []).headD 0
def RepM (v : VW) (m : Mem) : Prop := vn v ≤ 8 ∧ mD m 40 10 = nI (vn v) ∧ mD m 40 7 = vd v ∧ (∀ i, i < vn v → mrow m i = vc v i) ∧ ∃ j, j < 6 ∧ mD m 40 4 = nI j ∧ MTx m j (vS v)
/-- what the reference writes while it reads; what it uses for itself alone -/
def pSa (k i : Nat) : Prop := k = 40 ∧ 11 ≤ i ∧ i ≤ 25
def pSc (k i : Nat) : Prop := (k = 40 ∧ ((11 ≤ i ∧ i ≤ 25) ∨ i = 28)) ∨ k = 46 ∨ k = 47 ∨ k = 48
theorem pSa.c {k i : Nat} (h : pSa k i) : pSc k i := Or.inl ⟨h.1, Or.inl h.2⟩
theorem pRe.a {k i : Nat} (h : pRe k i) : pSa k i := ⟨h.1, by have := h.2; omega, by have := h.2; omega⟩
theorem MTx.ag {P : Nat → Nat → Prop} {m m' : Mem} {t : Nat} {S : Nat → (Int32 → Int32) → Int32} (h : MTx m t S) (ha : Ag P m m') (h1 : ∀ i, ¬ P 41 i) (h2 : ∀ i, ¬ P 42 i) : MTx m' t S := by
  obtain ⟨B, n, c0, c1, c2, e1, e2, e3, e4, e5, e6⟩ := h
  exact ⟨B, n, c0, c1, c2, e1, by rw [ha.2 42 t (h2 t)]; exact e2, fun i hi => by rw [ha.2 41 _ (h1 _)]; exact e3 i hi, e4, e5, e6⟩
theorem mrow_ag {P : Nat → Nat → Prop} {m m' : Mem} {c : Nat} (ha : Ag P m m') (h1 : ∀ i, ¬ P 44 i) (h2 : ∀ i, ¬ P 45 i) : mrow m' c = mrow m c := by
  funext f
  unfold mrow
  rw [ha.2 44 c (h1 c), ha.2 45 _ (h2 _)]
theorem RepM.ag {v : VW} {m m' : Mem} (h : RepM v m) (ha : Ag pSc m m') : RepM v m' := by
  obtain ⟨h2, h3, h4, h5, j, e1, e2, e3⟩ := h
  refine ⟨h2, ?_, ?_, fun i hi => ?_, j, e1, ?_, e3.ag ha (fun _ => by unfold pSc; omega) (fun _ => by unfold pSc; omega)⟩
  · rw [ha.2 40 10 (by unfold pSc; omega)]; exact h3
  · rw [ha.2 40 7 (by unfold pSc; omega)]; exact h4
  · rw [mrow_ag ha (fun _ => by unfold pSc; omega) (fun _ => by unfold pSc; omega)]; exact h5 i hi
  · rw [ha.2 40 4 (by unfold pSc; omega)]; exact e2
theorem RepM.aga {v : VW} {m m' : Mem} (h : RepM v m) (ha : Ag pSa m m') : RepM v m' := h.ag (ha.mono fun _ _ hp => pSa.c hp)
def CB (r : Nat → Int32) : Prop := btw (r 0) 0 5 = true ∧ btw (r 1) 0 9 = true ∧ btw (r 2) 1 99 = true ∧ btw (r 3) 0 9 = true ∧ btw (r 4) 0 999 = true ∧ btw (r 5) 0 3 = true
def OKv (v : VW) : Prop := ∀ i, i < vn v → CB (vc v i)
theorem ag_nat {r : Nat → Int32} {a k : Nat} (h : r 4 = nI a) (ha : a ≤ 999) (hk : k < 1000) : ag r (nI k) = nI (if a + k < 999 then a + k else 999) := by
  unfold ag
  rw [h, nI_ad]
  by_cases hh : a + k < 999
  · rw [if_pos hh, if_pos (show nI (a + k) < 999 from (nI_ltI (b := 999) (by omega) (by omega)).mpr hh)]
  · rw [if_neg hh, if_neg (show ¬ nI (a + k) < 999 from fun z => hh ((nI_ltI (b := 999) (by omega) (by omega)).mp z))]; rfl
theorem CB.age {r : Nat → Int32} (h : CB r) : ∃ a, a ≤ 999 ∧ r 4 = nI a := btw_nat (hi := 999) h.2.2.2.2.1 (by decide)
theorem ag0 {r : Nat → Int32} (h : CB r) : ag r 0 = r 4 := by
  obtain ⟨a, ha, e⟩ := h.age
  rw [show (0 : Int32) = nI 0 from rfl, ag_nat e ha (by decide), e]
  congr 1
  by_cases hh : a + 0 < 999
  · rw [if_pos hh]; rfl
  · rw [if_neg hh]; omega
theorem m5 (c : Nat) : (5 : Int32) * nI c = nI (5 * c) := (Int32.ofNat_mul 5 c).symm
theorem nI_2 (a : Nat) : nI a + 2 = nI (a + 2) := nI_ad a 2
theorem nI_3 (a : Nat) : nI a + 3 = nI (a + 3) := nI_ad a 3
theorem nI_4 (a : Nat) : nI a + 4 = nI (a + 4) := nI_ad a 4
theorem mD_k {m : Mem} {k a k' i : Nat} {x : Int32} (h : ¬ k' = k) : mD (wD m k a x) k' i = mD m k' i := by rw [mD_wD, if_neg (fun z => h z.1)]
theorem mD_i {m : Mem} {k a i : Nat} {x : Int32} (h : ¬ i = a) : mD (wD m k a x) k i = mD m k i := by rw [mD_wD, if_neg (fun z => h z.2)]
theorem mD_s {m : Mem} {k a : Nat} {x : Int32} : mD (wD m k a x) k a = x := by rw [mD_wD, if_pos ⟨rfl, rfl⟩]
def set6 (m : Mem) (x1 x2 x3 x4 x5 x6 : Int32) : Mem := wD (wD (wD (wD (wD (wD m 40 11 x1) 40 12 x2) 40 13 x3) 40 14 x4) 40 15 x5) 40 16 x6
theorem set6_ag (m : Mem) (x1 x2 x3 x4 x5 x6 : Int32) : Ag pSa m (set6 m x1 x2 x3 x4 x5 x6) := (((((Ag.d ⟨rfl, by omega, by omega⟩).tr (Ag.d ⟨rfl, by omega, by omega⟩)).tr (Ag.d ⟨rfl, by omega, by omega⟩)).tr (Ag.d ⟨rfl, by omega, by omega⟩)).tr (Ag.d ⟨rfl, by omega, by omega⟩)).tr (Ag.d ⟨rfl, by omega, by omega⟩)
theorem set6_EM (m : Mem) (E : Int32 → Int32) : EM E (set6 m (E (-1)) (E (-2)) (E (-3)) (E (-4)) (E (-5)) (E (-6))) := by
  unfold set6
  refine ⟨?_, ?_, ?_, ?_, ?_, ?_⟩
  · rw [mD_i (by omega), mD_i (by omega), mD_i (by omega), mD_i (by omega), mD_i (by omega), mD_s]
  · rw [mD_i (by omega), mD_i (by omega), mD_i (by omega), mD_i (by omega), mD_s]
  · rw [mD_i (by omega), mD_i (by omega), mD_i (by omega), mD_s]
  · rw [mD_i (by omega), mD_i (by omega), mD_s]
  · rw [mD_i (by omega), mD_s]
  · rw [mD_s]
section MV
variable {v : VW} {m : Mem} {c : Nat}
theorem RepM.lift {α : Type} {f : Option (α × Mem)} {w : α} (h : RepM v m) (e : Ev pSa TT f m w) : Ev pSa (RepM v) f m w := by
  obtain ⟨m', e1, e2, -⟩ := e
  exact ⟨m', e1, e2, h.aga e2⟩
theorem RepM.k0 (h : RepM v m) (hc : c < vn v) : mD m 44 c = vc v c 0 := by rw [← h.2.2.2.1 c hc]; rfl
theorem RepM.k1 (h : RepM v m) (hc : c < vn v) : mD m 45 (5 * c) = vc v c 1 := by rw [← h.2.2.2.1 c hc]; rfl
theorem RepM.k2 (h : RepM v m) (hc : c < vn v) : mD m 45 (5 * c + 1) = vc v c 2 := by rw [← h.2.2.2.1 c hc]; rfl
theorem RepM.k3 (h : RepM v m) (hc : c < vn v) : mD m 45 (5 * c + 2) = vc v c 3 := by rw [← h.2.2.2.1 c hc]; rfl
theorem RepM.k4 (h : RepM v m) (hc : c < vn v) : mD m 45 (5 * c + 3) = vc v c 4 := by rw [← h.2.2.2.1 c hc]; rfl
theorem RepM.k5 (h : RepM v m) (hc : c < vn v) : mD m 45 (5 * c + 4) = vc v c 5 := by rw [← h.2.2.2.1 c hc]; rfl
theorem says_eq (h : RepM v m) (hc : c < vn v) (p : Int32) : F_X6_says m p (nI c) = bnd (F_X6_read (set6 m (vc v c 2) (vc v c 3) (vc v c 1) (vc v c 4) (vc v c 5) (vd v)) (mD m 40 4) p) fun v12 m13 => if p = 1 then F_X6_says_96 m13 (-99) v12 else F_X6_says_96 m13 0 v12 := by
  have h8 := h.1
  unfold F_X6_says
  simp only [m5, nI_1, nI_2, nI_3, nI_4]
  rw [gIf_pos (vp_n (show 5 * c + 1 < 40 by omega) (by decide)), nI_c (by omega), h.k2 hc]
  dsimp only [nm]
  rw [gIf_pos (vp_n (show 5 * c + 2 < 40 by omega) (by decide)), nI_c (by omega), mD_k (by decide), h.k3 hc]
  rw [gIf_pos (vp_n (show 5 * c < 40 by omega) (by decide)), nI_c (by omega), mD_k (by decide), mD_k (by decide), h.k1 hc]
  rw [gIf_pos (vp_n (show 5 * c + 3 < 40 by omega) (by decide)), nI_c (by omega), mD_k (by decide), mD_k (by decide), mD_k (by decide), h.k4 hc]
  rw [gIf_pos (vp_n (show 5 * c + 4 < 40 by omega) (by decide)), nI_c (by omega), mD_k (by decide), mD_k (by decide), mD_k (by decide), mD_k (by decide), h.k5 hc]
  rw [mD_i (by decide), mD_i (by decide), mD_i (by decide), mD_i (by decide), mD_i (by decide), h.2.2.1]
  rw [mD_i (by decide), mD_i (by decide), mD_i (by decide), mD_i (by decide), mD_i (by decide), mD_i (by decide)]
  rfl
theorem m_says (h : RepM v m) (hc : c < vn v) {p : Nat} (hp : p < 3) : Ev pSa TT (F_X6_says m (nI p) (nI c)) m (cl (vS v p (envC (vc v c) (vc v c 4) (vd v))) (if p = 1 then -99 else 0) 99) := by
  rw [says_eq h hc]
  obtain ⟨h1, h2, h3, h4, j, e1, e2, B, n, c0, c1, c2, b1, b2, b3, b4, b5, b6⟩ := h
  have ha := set6_ag m (vc v c 2) (vc v c 3) (vc v c 1) (vc v c 4) (vc v c 5) (vd v)
  have hE : EM (envC (vc v c) (vc v c 4) (vd v)) (set6 m (vc v c 2) (vc v c 3) (vc v c 1) (vc v c 4) (vc v c 5) (vd v)) := set6_EM m (envC (vc v c) (vc v c 4) (vd v))
  generalize set6 m (vc v c 2) (vc v c 3) (vc v c 1) (vc v c 4) (vc v c 5) (vd v) = m1 at ha hE
  rw [e2]
  obtain ⟨w, m2, r1, r2, r3⟩ := m_read (m := m1) (B := B) (n := n) (t := j) b1 e1 (by rw [ha.2 42 j (by unfold pSa; omega)]; exact b2) (fun i hi => by rw [ha.2 41 _ (by unfold pSa; omega)]; exact b3 i hi) b4 hE (nI p)
  rw [r1, bnd_eq]
  obtain ⟨-, r4⟩ := r3.1 c0 c1 c2 b5
  obtain ⟨s0, s1, s2⟩ := b6 (envC (vc v c) (vc v c 4) (vd v))
  rw [← s0, ← s1, ← s2] at r4
  have hw : w = vS v p (envC (vc v c) (vc v c 4) (vd v)) := by
    rw [r4]
    rcases (show p = 0 ∨ p = 1 ∨ p = 2 by omega) with rfl | rfl | rfl <;> rfl
  have hA : Ag pSa m m2 := ha.tr (r2.mono fun _ _ hp => pRe.a hp)
  unfold F_X6_says_96
  simp only [m_within, bnd_eq]
  subst hw
  rcases (show p = 0 ∨ p = 1 ∨ p = 2 by omega) with rfl | rfl | rfl
  · rw [if_neg (by decide), if_neg (by decide)]; exact ⟨m2, rfl, hA, trivial⟩
  · rw [if_pos rfl, if_pos (show nI 1 = 1 from rfl)]; exact ⟨m2, rfl, hA, trivial⟩
  · rw [if_neg (by decide), if_neg (by decide)]; exact ⟨m2, rfl, hA, trivial⟩
theorem m_turnsOf (h : RepM v m) (hc : c < vn v) : Ev pSa TT (F_X6_turnsOf m (nI c)) m (pT (vS v) (vc v c) (vc v c 4) (vd v)) := by
  have h8 := h.1
  unfold F_X6_turnsOf pT
  rw [gIf_pos (vp_n (by omega) (by decide)), nI_c (by omega), h.k0 hc]
  dsimp only [nm]
  by_cases h5 : vc v c 0 = 5
  · rw [if_pos h5, if_pos h5]; exact Ev.ret trivial
  rw [if_neg h5, if_neg h5]
  refine Ev.bdA (m_says h hc (p := 0) (by decide)) fun m' ha _ => ?_
  rw [m5, gIf_pos (vp_n (by omega) (by decide)), nI_c (by omega), (h.aga ha).k1 hc]
  unfold F_X6_turnsOf_87
  simp only [m_within, bnd_eq]
  by_cases k1 : vc v c 0 = 1
  · rw [if_pos k1, if_pos k1]; exact Ev.ret trivial
  rw [if_neg k1, if_neg k1]
  by_cases k3 : vc v c 0 = 3
  · rw [if_pos k3, if_pos k3]; exact Ev.ret trivial
  rw [if_neg k3, if_neg k3]
  by_cases k2 : vc v c 0 = 2
  · rw [if_pos k2, if_pos k2]; exact Ev.ret trivial
  rw [if_neg k2, if_neg k2]
  by_cases k4 : vc v c 0 = 4
  · rw [if_pos k4, if_pos k4]; exact Ev.ret trivial
  rw [if_neg k4, if_neg k4]; exact Ev.ret trivial
theorem m_givesOf (h : RepM v m) (hc : c < vn v) : Ev pSa TT (F_X6_givesOf m (nI c)) m (pG (vS v) (vc v c) (vc v c 4) (vd v)) := by
  have h8 := h.1
  unfold F_X6_givesOf pG
  rw [gIf_pos (vp_n (by omega) (by decide)), nI_c (by omega), h.k0 hc]
  dsimp only [nm]
  by_cases h5 : vc v c 0 = 5
  · rw [if_pos h5, if_pos h5]; exact Ev.ret trivial
  rw [if_neg h5, if_neg h5]
  refine Ev.bdA (m_says h hc (p := 1) (by decide)) fun m' ha _ => ?_
  rw [m5, nI_2, gIf_pos (vp_n (by omega) (by decide)), nI_c (by omega), (h.aga ha).k3 hc, if_pos rfl]
  unfold F_X6_givesOf_43 F_X6_givesOf_101
  simp only [m_within, bnd_eq, m5]
  have fin : ∀ d : Int32, Ev pSa TT (if vc v c 0 = 1 then some (cl d (-999) 999, m') else if vc v c 0 = 3 then gIf (vp_in (nI (5 * c)) 40) (some (cl (d + mD m' 45 (nI (5 * c)).toNatClampNeg * vc v c 3) (-999) 999, m')) else if vc v c 0 = 2 then some (cl (cl (vS v 1 (envC (vc v c) (vc v c 4) (vd v))) (-99) 99 + 3) (-999) 999, m') else if vc v c 0 = 4 then some (cl (-(cl (vS v 1 (envC (vc v c) (vc v c 4) (vd v))) (-99) 99 + 3)) (-999) 999, m') else some (cl (cl (vS v 1 (envC (vc v c) (vc v c 4) (vd v))) (-99) 99) (-999) 999, m')) m' (cl (if vc v c 0 = 1 then d else if vc v c 0 = 3 then d + vc v c 1 * vc v c 3 else if vc v c 0 = 2 then cl (vS v 1 (envC (vc v c) (vc v c 4) (vd v))) (-99) 99 + 3 else if vc v c 0 = 4 then -(cl (vS v 1 (envC (vc v c) (vc v c 4) (vd v))) (-99) 99 + 3) else cl (vS v 1 (envC (vc v c) (vc v c 4) (vd v))) (-99) 99) (-999) 999) := by
    intro d
    by_cases k1 : vc v c 0 = 1
    · rw [if_pos k1, if_pos k1]; exact Ev.ret trivial
    rw [if_neg k1, if_neg k1]
    by_cases k3 : vc v c 0 = 3
    · rw [if_pos k3, if_pos k3, gIf_pos (vp_n (by omega) (by decide)), nI_c (by omega), (h.aga ha).k1 hc]; exact Ev.ret trivial
    rw [if_neg k3, if_neg k3]
    by_cases k2 : vc v c 0 = 2
    · rw [if_pos k2, if_pos k2]; exact Ev.ret trivial
    rw [if_neg k2, if_neg k2]
    by_cases k4 : vc v c 0 = 4
    · rw [if_pos k4, if_pos k4]; exact Ev.ret trivial
    rw [if_neg k4, if_neg k4]; exact Ev.ret trivial
  by_cases hf : vc v c 3 = 0
  · rw [if_pos hf, if_pos hf]; exact fin 0
  · rw [if_neg hf, if_neg hf]; exact fin _
theorem m_spoilsOf (h : RepM v m) (hc : c < vn v) : Ev pSa TT (F_X6_spoilsOf m (nI c)) m (pO (vS v) (vc v c) (vc v c 4) (vd v)) := by
  have h8 := h.1
  unfold F_X6_spoilsOf pO
  rw [gIf_pos (vp_n (by omega) (by decide)), nI_c (by omega), h.k0 hc]
  dsimp only [nm]
  by_cases h5 : vc v c 0 = 5
  · rw [if_pos h5, if_pos h5]; exact Ev.ret trivial
  rw [if_neg h5, if_neg h5]
  unfold F_X6_spoilsOf_22
  rw [m5, nI_2, gIf_pos (vp_n (show 5 * c + 2 < 40 by omega) (by decide)), nI_c (by omega), h.k3 hc]
  have fin : Ev pSa TT (F_X6_spoilsOf_39 m (nI c) (vc v c 0)) m (cl (if vc v c 0 = 2 ∨ vc v c 0 = 4 then 2 * cl (vS v 2 (envC (vc v c) (vc v c 4) (vd v))) 0 99 else cl (vS v 2 (envC (vc v c) (vc v c 4) (vd v))) 0 99) 0 99) := by
    unfold F_X6_spoilsOf_39
    refine Ev.bdA (m_says h hc (p := 2) (by decide)) fun m' ha _ => ?_
    unfold F_X6_spoilsOf_56 F_X6_spoilsOf_63
    simp only [m_within, bnd_eq, show ¬ (2 : Nat) = 1 by decide, if_false]
    by_cases k2 : vc v c 0 = 2
    · rw [if_pos k2, if_pos (Or.inl k2)]; exact Ev.ret trivial
    rw [if_neg k2]
    by_cases k4 : vc v c 0 = 4
    · rw [if_pos k4, if_pos (Or.inr k4)]; exact Ev.ret trivial
    rw [if_neg k4, if_neg (by rintro (z | z); exact k2 z; exact k4 z)]; exact Ev.ret trivial
  by_cases hf : vc v c 3 ≤ 6
  · simp only [hf, if_true, ite_self, not_true_eq_false, and_false, if_false]
    exact fin
  · simp only [hf, if_false, not_false_eq_true, and_true]
    by_cases k1 : vc v c 0 = 1
    · rw [if_pos k1, if_pos (Or.inl k1)]; exact Ev.ret trivial
    rw [if_neg k1]
    by_cases k3 : vc v c 0 = 3
    · rw [if_pos k3, if_pos (Or.inr k3)]; exact Ev.ret trivial
    rw [if_neg k3, if_neg (by rintro (z | z); exact k1 z; exact k3 z)]; exact fin
theorem m_worthOf (h : RepM v m) (hk : OKv v) (hc : c < vn v) : Ev pSa TT (F_X6_worthOf m (nI c)) m (wor v (vc v c) 0) := by
  have h8 := h.1
  unfold F_X6_worthOf wor pW
  rw [ag0 (hk c hc), Int32.add_zero]
  dsimp only [nm]
  refine Ev.bdA (m_turnsOf h hc) fun m1 ha _ => ?_
  have h1 := h.aga ha
  rw [m5, nI_3, nI_1, gIf_pos (vp_n (show 5 * c + 3 < 40 by omega) (by decide)), nI_c (by omega), h1.k4 hc]
  by_cases ht : pT (vS v) (vc v c) (vc v c 4) (vd v) ≤ vc v c 4
  · rw [if_pos ht, if_pos ht]
    refine Ev.bdA (m_givesOf h1 hc) fun m2 ha2 _ => ?_
    have h2 := h1.aga ha2
    refine Ev.bdA (m_spoilsOf h2 hc) fun m3 ha3 _ => ?_
    by_cases hg : 0 ≤ pG (vS v) (vc v c) (vc v c 4) (vd v)
    · rw [if_pos hg, if_pos hg]
      by_cases hl : 0 ≤ pG (vS v) (vc v c) (vc v c 4) (vd v) - pO (vS v) (vc v c) (vc v c 4) (vd v) * (vc v c 4 - pT (vS v) (vc v c) (vc v c 4) (vd v))
      · rw [if_pos hl, if_pos hl]; exact Ev.ret trivial
      · rw [if_neg hl, if_neg hl]; exact Ev.ret trivial
    · rw [if_neg hg, if_neg hg]; exact Ev.ret trivial
  · rw [if_neg ht, if_neg ht, gIf_pos (vp_n (show 5 * c + 1 < 40 by omega) (by decide)), nI_c (by omega), h1.k2 hc]
    exact Ev.ret trivial
theorem m_isWhole (h : RepM v m) (hk : OKv v) (hc : c < vn v) : Ev pSa TT (F_X6_isWhole m (nI c)) m (whole v (vc v c) 0) := by
  have h8 := h.1
  unfold F_X6_isWhole whole
  rw [ag0 (hk c hc), Int32.add_zero, m5, nI_3, gIf_pos (vp_n (show 5 * c + 3 < 40 by omega) (by decide)), nI_c (by omega), h.k4 hc]
  refine Ev.bdA (m_turnsOf h hc) fun m1 ha _ => ?_
  by_cases ht : pT (vS v) (vc v c) (vc v c 4) (vd v) ≤ vc v c 4
  · rw [if_pos ht]; exact (Ev.ret trivial).eq (by simp [ht])
  · rw [if_neg ht]; exact (Ev.ret trivial).eq (by simp [ht])
end MV
