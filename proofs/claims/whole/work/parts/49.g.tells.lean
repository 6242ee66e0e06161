/-! what was told, read back -/
def dnf {σ : Type} (st : Nat → σ → σ) (lo : Nat) : Nat → σ → σ
  | 0, s => s
  | r + 1, s => dnf st lo r (st (lo + r) s)
def slA (f : Nat → Bool) : Nat → Nat → Int32 → Int32
  | 0, _, d => d
  | r + 1, k, d => if f k = true then nI k else slA f r (k + 1) d
theorem slA_snoc (f : Nat → Bool) : ∀ (r k : Nat) (d : Int32), slA f (r + 1) k d = slA f r k (if f (k + r) = true then nI (k + r) else d) := by
  intro r
  induction r with
  | zero => intro k d; rfl
  | succ r ih =>
    intro k d
    show (if f k = true then nI k else slA f (r + 1) (k + 1) d) = (if f k = true then nI k else slA f r (k + 1) (if f (k + (r + 1)) = true then nI (k + (r + 1)) else d))
    rw [ih (k + 1) d, show k + 1 + r = k + (r + 1) by omega]
theorem dnf_comm {σ : Type} {st : Nat → σ → σ} (hc : ∀ i j s, st i (st j s) = st j (st i s)) (lo : Nat) : ∀ (r k : Nat) (s : σ), dnf st lo r (st k s) = st k (dnf st lo r s) := by
  intro r
  induction r with
  | zero => intros; rfl
  | succ r ih =>
    intro k s
    show dnf st lo r (st (lo + r) (st k s)) = st k (dnf st lo r (st (lo + r) s))
    rw [hc, ih]
theorem dnf_fold {σ : Type} {st : Nat → σ → σ} (hc : ∀ i j s, st i (st j s) = st j (st i s)) (lo : Nat) : ∀ (r : Nat) (s : σ), dnf st lo r s = fold st lo r s := by
  intro r
  induction r with
  | zero => intros; rfl
  | succ r ih =>
    intro s
    show dnf st lo r (st (lo + r) s) = _
    rw [dnf_comm hc, ih, fold_snoc]
def tlS (f : Nat → Bool) (x : Nat) (s : Int32 × Int32 × Int32) : Int32 × Int32 × Int32 := if f x = true then (s.1 ||| (if 10 ≤ x then 0 else bit (nI x)), s.2.1 + 1, nI x) else s
def orS (f : Nat → Bool) (x : Nat) (s : Int32) : Int32 := if f x = true then s ||| (if 10 ≤ x then 0 else bit (nI x)) else s
def ctS (f : Nat → Bool) (x : Nat) (s : Int32) : Int32 := if f x = true then s + 1 else s
theorem orS_comm (f : Nat → Bool) (i j : Nat) (s : Int32) : orS f i (orS f j s) = orS f j (orS f i s) := by
  unfold orS
  by_cases hi : f i = true <;> by_cases hj : f j = true <;> simp only [hi, hj, if_true, if_false, Bool.false_eq_true]
  rw [Int32.or_assoc, Int32.or_assoc, Int32.or_comm (if 10 ≤ j then 0 else bit (nI j))]
theorem ctS_comm (f : Nat → Bool) (i j : Nat) (s : Int32) : ctS f i (ctS f j s) = ctS f j (ctS f i s) := by
  unfold ctS
  by_cases hi : f i = true <;> by_cases hj : f j = true <;> simp only [hi, hj, if_true, if_false, Bool.false_eq_true]
theorem tl_all (f : Nat → Bool) (lo : Nat) : ∀ (r : Nat) (s : Int32 × Int32 × Int32), dnf (tlS f) lo r s = (dnf (orS f) lo r s.1, dnf (ctS f) lo r s.2.1, slA f r lo s.2.2) := by
  intro r
  induction r with
  | zero => intros; rfl
  | succ r ih =>
    intro s
    show dnf (tlS f) lo r (tlS f (lo + r) s) = (dnf (orS f) lo r (orS f (lo + r) s.1), dnf (ctS f) lo r (ctS f (lo + r) s.2.1), slA f (r + 1) lo s.2.2)
    rw [ih, slA_snoc]
    unfold tlS orS ctS
    by_cases h : f (lo + r) = true
    · simp only [h, if_true]
    · simp only [h, if_false, Bool.false_eq_true]
def tsel (wh : Int32) (s : Int32 × Int32 × Int32) : Int32 := if wh = 4 then s.2.1 else if wh = 6 then s.2.1 else if wh = 5 then s.2.2 else if wh = 7 then s.2.2 else s.1
def tK (so : Nat) : Nat := if so = 7 then 40 else if so = 6 then 44 else 45
def tI (so c : Nat) : Nat := if so = 7 then 4 else if so = 6 then c else 5 * c + (so - 1)
def tF (so : Nat) : Nat := if so = 6 then 0 else so
def tOk (so : Nat) : Prop := so = 1 ∨ so = 2 ∨ so = 3 ∨ so = 4 ∨ so = 6 ∨ so = 7
theorem m_lays (m : Mem) {so c : Nat} (hs : tOk so) (hc : c < 8) (x : Int32) : F_X6_lays m (nI so) (nI c) x = some ((), wD m (tK so) (tI so c) x) := by
  have e45 : ∀ f, 1 ≤ f → f ≤ 4 → F_X6_lays m (nI f) (nI c) x = some ((), wD m 45 (5 * c + (f - 1)) x) := by
    intro f h1 h2
    unfold F_X6_lays
    rw [if_neg (nI_ne0 (by omega) (by omega)), if_neg (show ¬ (6 : Int32) ≤ nI f from nI_ge (b := 6) (by omega) (by omega)), m5, nI_ad]
    have e : nI (5 * c + f) - 1 = nI (5 * c + (f - 1)) := by
      rw [show 5 * c + f = (5 * c + (f - 1)) + 1 by omega, nI_pred]
    rw [e, gIf_pos (vp_n (by omega) (by decide)), nI_c (by omega)]
    rfl
  rcases hs with rfl | rfl | rfl | rfl | rfl | rfl
  · exact e45 1 (by omega) (by omega)
  · exact e45 2 (by omega) (by omega)
  · exact e45 3 (by omega) (by omega)
  · exact e45 4 (by omega) (by omega)
  · unfold F_X6_lays
    rw [if_neg (by decide), if_pos (by decide), if_pos (by decide), gIf_pos (vp_n hc (by decide)), nI_c (by omega)]
    rfl
  · unfold F_X6_lays
    rw [if_neg (by decide), if_pos (by decide), if_neg (by decide)]
    rfl
theorem so_2 {so : Nat} (hs : tOk so) : nI so = 2 ↔ so = 2 := by
  rcases hs with rfl | rfl | rfl | rfl | rfl | rfl <;> decide
theorem m_tellL {m0 : Mem} {s c so lo R : Nat} {W : Nat → Int32} {wh : Int32} (hs : tOk so) (hc : c < 8) (hlo : lo = if so = 2 then 1 else 0) (hR : lo + R ≤ 100)
    (H : ∀ x, lo ≤ x → x < lo + R → ∀ m', Ag (fun k i => pSc k i ∨ (k = tK so ∧ i = tI so c)) m0 m' → mD m' (tK so) (tI so c) = nI x → Ev pSc TT (F_X6_firstOther m' (nI s) (nI c)) m' (W x)) :
    Ev pTop (fun m' => Ag pSc m0 m') (F_X6_tells_207 FU m0 (nI s) (nI c) wh (nI so) (mD m0 (tK so) (tI so c)) 0 0 (-1) (nI (lo + R) + -1)) m0 (tsel wh (dnf (tlS (fun x => decide (W x = -1))) lo R (0, 0, -1))) := by
  have key : ∀ (r fu : Nat) (x : Mem) (t : Int32 × Int32 × Int32), r ≤ R → r < fu → Ag (fun k i => pSc k i ∨ (k = tK so ∧ i = tI so c)) m0 x → Ev pTop (fun m' => Ag pSc m0 m') (F_X6_tells_207 fu x (nI s) (nI c) wh (nI so) (mD m0 (tK so) (tI so c)) t.1 t.2.1 t.2.2 (nI (lo + r) + -1)) x (tsel wh (dnf (tlS (fun x => decide (W x = -1))) lo r t)) := by
    intro r
    induction r with
    | zero =>
      intro fu x t hr hf hA
      cases fu with
      | zero => omega
      | succ fu =>
        have fin : ∀ (l : Int32), (nI lo + -1 < l) → Ev pTop (fun m' => Ag pSc m0 m') (F_X6_tells_220 (F_X6_tells_207 fu) x (nI s) (nI c) wh (nI so) (mD m0 (tK so) (tI so c)) t.1 t.2.1 t.2.2 (nI (lo + 0) + -1) l (nI (lo + 0) + -1)) x (tsel wh t) := by
          intro l hl
          unfold F_X6_tells_220
          rw [Nat.add_zero, if_pos hl, m_lays x hs hc, bnd_eq]
          have hA' : Ag pSc m0 (wD x (tK so) (tI so c) (mD m0 (tK so) (tI so c))) := by
            refine ⟨hA.1.tr SameSh.d, fun k i hp => ?_⟩
            rw [mD_wD]
            by_cases e : k = tK so ∧ i = tI so c
            · rw [if_pos e, e.1, e.2]
            · rw [if_neg e]; exact hA.2 k i (by rintro (z | z); exact hp z; exact e z)
          refine Ev.step (m1 := wD x (tK so) (tI so c) (mD m0 (tK so) (tI so c))) (Ag.d trivial) ?_
          unfold tsel
          repeat' split
          all_goals exact Ev.ret hA'
        unfold F_X6_tells_207
        by_cases h2 : so = 2
        · rw [if_pos ((so_2 hs).mpr h2)]; rw [if_pos h2] at hlo; subst hlo; exact fin 1 (by decide)
        · rw [if_neg (fun z => h2 ((so_2 hs).mp z))]; rw [if_neg h2] at hlo; subst hlo; exact fin 0 (by decide)
    | succ r ih =>
      intro fu x t hr hf hA
      cases fu with
      | zero => omega
      | succ fu =>
        have e10 : nI (lo + (r + 1)) + -1 = nI (lo + r) := by
          rw [← Int32.sub_eq_add_neg, show lo + (r + 1) = (lo + r) + 1 by omega, nI_pred]
        rw [e10]
        have fin : ∀ (l : Int32), ¬ nI (lo + r) < l → Ev pTop (fun m' => Ag pSc m0 m') (F_X6_tells_220 (F_X6_tells_207 fu) x (nI s) (nI c) wh (nI so) (mD m0 (tK so) (tI so c)) t.1 t.2.1 t.2.2 (nI (lo + r)) l (nI (lo + r))) x (tsel wh (dnf (tlS (fun x => decide (W x = -1))) lo (r + 1) t)) := by
          intro l hl
          unfold F_X6_tells_220 F_X6_tells_259 F_X6_tells_269
          rw [if_neg hl, m_lays x hs hc, bnd_eq]
          have hA' : Ag (fun k i => pSc k i ∨ (k = tK so ∧ i = tI so c)) m0 (wD x (tK so) (tI so c) (nI (lo + r))) := hA.tr (Ag.d (Or.inr ⟨rfl, rfl⟩))
          obtain ⟨y, e1, a1, -⟩ := H (lo + r) (by omega) (by omega) _ hA' mD_s
          rw [e1, bnd_eq]
          have hy := hA'.tr (a1.mono fun _ _ hp => Or.inl hp)
          refine Ev.step (m1 := y) ⟨(SameSh.d).tr a1.1, fun _ _ z => absurd trivial z⟩ ?_
          show Ev pTop _ _ y (tsel wh (dnf (tlS (fun x => decide (W x = -1))) lo r (tlS (fun x => decide (W x = -1)) (lo + r) t)))
          dsimp only [nm]
          by_cases hw : W (lo + r) = -1
          · rw [if_pos hw]
            by_cases h10 : 10 ≤ lo + r
            · have et : tlS (fun x => decide (W x = -1)) (lo + r) t = (t.1 ||| 0, t.2.1 + 1, nI (lo + r)) := by unfold tlS; rw [if_pos (by simpa using hw), if_pos h10]
              rw [et, if_pos (show (10 : Int32) ≤ nI (lo + r) from nI_le (a := 10) h10 (by omega))]
              exact ih fu y (t.1 ||| 0, t.2.1 + 1, nI (lo + r)) (by omega) (by omega) hy
            · have et : tlS (fun x => decide (W x = -1)) (lo + r) t = (t.1 ||| bit (nI (lo + r)), t.2.1 + 1, nI (lo + r)) := by unfold tlS; rw [if_pos (by simpa using hw), if_neg h10]
              rw [et, if_neg (show ¬ (10 : Int32) ≤ nI (lo + r) from nI_ge (b := 10) (by omega) (by omega))]
              exact ih fu y (t.1 ||| bit (nI (lo + r)), t.2.1 + 1, nI (lo + r)) (by omega) (by omega) hy
          · have et : tlS (fun x => decide (W x = -1)) (lo + r) t = t := by unfold tlS; rw [if_neg (by simpa using hw)]
            rw [et, if_neg hw]
            exact ih fu y t (by omega) (by omega) hy
        unfold F_X6_tells_207
        by_cases h2 : so = 2
        · rw [if_pos ((so_2 hs).mpr h2)]; rw [if_pos h2] at hlo; exact fin 1 (show ¬ nI (lo + r) < nI 1 from nI_nlt (by omega) (by omega))
        · rw [if_neg (fun z => h2 ((so_2 hs).mp z))]; exact fin 0 (nI_pos (by omega))
  exact key R FU m0 (0, 0, -1) (Nat.le_refl _) (hFU (by omega)) Ag.rf
theorem m_likeSet {v : VW} {m : Mem} (h : RepM v m) (hv : OKv v) {s sz : Nat} (hs : s < 4) (hz : sz ≤ 40) (h52 : mD m 52 s = nI sz) : Ev pSc TT (F_X6_likeSet m (nI s)) m (fold (orS (fun i => decide (fo v (fun k => mD m 53 (40 * s + k)) sz (vc v i) = -1))) 0 (vn v) 0) := by
  have h8 := h.1
  refine Ev.im (R := fun x => Ag pSc m x) ?_ (fun _ _ => trivial)
  unfold F_X6_likeSet
  refine Ev.loop (P := pSc) (Q := fun x => Ag pSc m x) (L := fun fu x t i => F_X6_likeSet_4 fu x (nI s) t i) (n := vn v) (st := orS (fun i => decide (fo v (fun k => mD m 53 (40 * s + k)) sz (vc v i) = -1))) (ex := id) (RR := fun _ x => Ag pSc m x) (fun fu x t hx => ?_) (fun fu x t i hi hx w hw => ?_) (vn v) 0 FU m 0 (by omega) (hFU (by omega)) Ag.rf
  · show Ev pSc _ (F_X6_likeSet_4 (fu + 1) x (nI s) t (nI (vn v))) x t
    unfold F_X6_likeSet_4
    rw [if_pos (h.ag hx).ex]; exact Ev.ret hx
  · show Ev pSc _ (F_X6_likeSet_4 (fu + 1) x (nI s) t (nI i)) x w
    unfold F_X6_likeSet_4 F_X6_likeSet_28
    have hx' := h.ag hx
    have e := m_first hx' hv hs hi hz (by rw [hx.2 52 s (by unfold pSc; omega)]; exact h52)
    have e53 : (fun k => mD x 53 (40 * s + k)) = fun k => mD m 53 (40 * s + k) := funext fun k => hx.2 53 _ (by unfold pSc; omega)
    rw [e53] at e
    rw [if_neg (hx'.hd hi)]
    refine Ev.bdA e fun y ha _ => ?_
    have hw := hw y (hx.tr ha)
    simp only [nm, nI_1, sh0 i (by omega), Int32.or_zero]
    unfold orS at hw
    by_cases hf : fo v (fun k => mD m 53 (40 * s + k)) sz (vc v i) = -1
    · rw [if_pos hf]
      rw [if_pos (by simpa using hf), if_neg (by omega)] at hw
      exact hw
    · rw [if_neg hf]
      rw [if_neg (by simpa using hf)] at hw
      exact hw
/-! the class's -/
def withS (v : VW) (S : Nat → (Int32 → Int32) → Int32) : VW := (vn v, vd v, vc v, S)
section XT
variable {v : VW} {m : Mem}
theorem x_first {S : Nat → (Int32 → Int32) → Int32} {q c s sz : Nat} {r : Nat → Int32} (h : RepX v m) (hq : TX m q S) (hc : ∀ i, ¬ pSt c i) (hr : row6 (mD m c) = r) (hs : s < 4) (hz : sz ≤ 40) (h1 : mD m (28 + 2 * s) 1 = nI sz) : Ev pSt (RepX v) (F_X5_firstOtherwise m (28 + 2 * s) q c) m (fo (withS v S) (fun k => mD m (29 + 2 * s) k) sz r) := by
  have key : ∀ (l k fu : Nat) (x : Mem), k + l = sz → l < fu → Ag pSt m x → Ev pSt (RepX v) (F_X5_firstOtherwise_3 fu x (28 + 2 * s) q c (nI k)) x (foF (fun k => decide (wor (withS v S) r (nI k) = mD m (29 + 2 * s) k)) l k) := by
    intro l
    induction l with
    | zero =>
      intro k fu x hk hf hA
      cases fu with
      | zero => omega
      | succ fu =>
        unfold F_X5_firstOtherwise_3
        rw [hA.2 _ 1 (by unfold pSt; omega), h1, if_pos (nI_le (by omega) (by omega))]
        exact Ev.ret (h.ag (hA.mono fun _ _ hp => pSt.x hp))
    | succ l ih =>
      intro k fu x hk hf hA
      cases fu with
      | zero => omega
      | succ fu =>
        have hx := h.ag (hA.mono fun _ _ hp => pSt.x hp)
        have hqx := hq.ag hA (fun _ => hq.2.1.n1) (fun _ => hq.2.1.n2)
        have hrx : row6 (mD x c) = r := by rw [row6_ag hA hc]; exact hr
        unfold F_X5_firstOtherwise_3 foF
        rw [hA.2 _ 1 (by unfold pSt; omega), h1, if_neg (nI_ge (show k < sz by omega) (by omega)), x_age, bnd_eq, hx.2.2.2.1, hrx]
        refine Ev.bdA (x_worthOf hqx hc) fun y ha _ => ?_
        rw [← pW_row6, hrx, gIf_pos (vp_n (show k < 40 by omega) (by decide)), nI_c (by omega), nI_1, show 28 + 2 * s + 1 = 29 + 2 * s by omega, (hA.tr ha).2 (29 + 2 * s) k (by unfold pSt; omega)]
        show Ev pSt (RepX v) _ y (if decide (pW S r (ag r (nI k)) (vd v + nI k) = mD m (29 + 2 * s) k) = true then _ else nI k)
        by_cases he : pW S r (ag r (nI k)) (vd v + nI k) = mD m (29 + 2 * s) k
        · rw [if_pos he, if_pos (by simpa using he)]
          exact ih (k + 1) fu y (by omega) (by omega) (hA.tr ha)
        · rw [if_neg he, if_neg (by simpa using he)]
          exact Ev.ret (h.ag ((hA.tr ha).mono fun _ _ hp => pSt.x hp))
  unfold F_X5_firstOtherwise fo
  exact key sz 0 FU m (by omega) (hFU (by omega)) Ag.rf
/-- the sheet s holds these numbers -/
def ShtX (s sz : Nat) (its : Nat → Int32) (m : Mem) : Prop := mD m (28 + 2 * s) 1 = nI sz ∧ (fun k => mD m (29 + 2 * s) k) = its
theorem ShtX.ag {s sz : Nat} {its : Nat → Int32} {m m' : Mem} (hs : s < 4) (h : ShtX s sz its m) (ha : Ag pX m m') : ShtX s sz its m' := by
  refine ⟨?_, ?_⟩
  · rw [ha.2 _ 1 (by unfold pX pSt; omega)]; exact h.1
  · rw [← h.2]; funext k; exact ha.2 _ k (by unfold pX pSt; omega)
theorem x_lay (m : Mem) {so : Nat} (hs : tOk so) (h7 : ¬ so = 7) (c : Nat) (x : Int32) : F_X0_lay m c (nI so) x = some ((), wD m c (tF so) x) := by
  rcases hs with rfl | rfl | rfl | rfl | rfl | rfl
  · rfl
  · rfl
  · rfl
  · rfl
  · rfl
  · exact absurd rfl h7
theorem x_would {c s sz so : Nat} {its : Nat → Int32} (h : RepX v m) (hc : c < vn v) (hs : s < 4) (hz : sz ≤ 40) (hS : ShtX s sz its m) (ho : tOk so) (h7 : ¬ so = 7) (x : Int32) : Ev pX (RepX v) (F_X5_wouldBeSo m (28 + 2 * s) (20 + c) (nI so) x) m (decide (fo v its sz (upf (vc v c) (tF so) x) = -1)) := by
  have h8 := h.2.1
  unfold F_X5_wouldBeSo
  obtain ⟨m1, e1, a1, r1⟩ := x_become m (c0 := 18) (c1 := 20 + c) (by omega)
  rw [e1, bnd_eq, x_lay m1 ho h7, bnd_eq]
  have a2 : Ag (fun k _ => k = 18) m1 (wD m1 18 (tF so) x) := agC
  have r2 : row6 (mD (wD m1 18 (tF so) x) 18) = upf (vc v c) (tF so) x := by
    rw [row6_w (by rcases ho with rfl | rfl | rfl | rfl | rfl | rfl <;> first | decide | exact absurd rfl h7), r1, h.row hc]
  generalize wD m1 18 (tF so) x = m2 at a2 r2
  have A2 : Ag pX m m2 := (p18 a1).tr (p18 a2)
  have h2 : RepX v m2 := h.ag A2
  obtain ⟨q, q1, q2⟩ := x_theRule h2
  have S2 := hS.ag hs A2
  rw [q1, bnd_eq]
  refine Ev.step A2 (Ev.bdM (x_first h2 q2 nSt18 r2 hs hz S2.1) (fun _ _ hp => pSt.x hp) fun m3 _ h3 => ?_)
  rw [S2.2]
  show Ev pX (RepX v) (if fo v its sz (upf (vc v c) (tF so) x) = -1 then _ else _) m3 _
  by_cases hf : fo v its sz (upf (vc v c) (tF so) x) = -1
  · rw [if_pos hf]; exact (Ev.ret h3).eq (by simp [hf])
  · rw [if_neg hf]; exact (Ev.ret h3).eq (by simp [hf])
theorem x_soBits {c s sz so R : Nat} {its : Nat → Int32} (h : RepX v m) (hc : c < vn v) (hs : s < 4) (hz : sz ≤ 40) (hS : ShtX s sz its m) (ho : tOk so) (h7 : ¬ so = 7) (hl : fLEAST so = 0) (hm : fMOST so = nI R) (hR : R < 10) : Ev pX (RepX v) (F_X5_soBits m (28 + 2 * s) (20 + c) (nI so)) m (fold (orS (fun x => decide (fo v its sz (upf (vc v c) (tF so) (nI x)) = -1))) 0 (R + 1) 0) := by
  have hso : so < 7 := by rcases ho with rfl | rfl | rfl | rfl | rfl | rfl <;> first | decide | exact absurd rfl h7
  unfold F_X5_soBits
  rw [gIf_pos (vp_n hso (by decide)), nI_c (by omega), hl]
  dsimp only [nm]
  refine Ev.im (R := fun x => RepX v x ∧ ShtX s sz its x) ?_ (fun _ hx => hx.1)
  refine Ev.loop (P := pX) (Q := fun x => RepX v x ∧ ShtX s sz its x) (L := fun fu x t i => F_X5_soBits_10 fu x (28 + 2 * s) (20 + c) (nI so) t i) (n := R + 1) (st := orS (fun x => decide (fo v its sz (upf (vc v c) (tF so) (nI x)) = -1))) (ex := id) (RR := fun _ x => RepX v x ∧ ShtX s sz its x) (fun fu x t hx => ?_) (fun fu x t i hi hx w hw => ?_) (R + 1) 0 FU m 0 (by omega) (hFU (by omega)) ⟨h, hS⟩
  · show Ev pX _ (F_X5_soBits_10 (fu + 1) x (28 + 2 * s) (20 + c) (nI so) t (nI (R + 1))) x t
    unfold F_X5_soBits_10
    rw [gIf_pos (vp_n hso (by decide)), nI_c (by omega), hm, if_pos (nI_lt (by omega) (by omega))]; exact Ev.ret hx
  · show Ev pX _ (F_X5_soBits_10 (fu + 1) x (28 + 2 * s) (20 + c) (nI so) t (nI i)) x w
    unfold F_X5_soBits_10 F_X5_soBits_41
    rw [gIf_pos (vp_n hso (by decide)), nI_c (by omega), hm, if_neg (nI_nlt (by omega) (by omega))]
    refine Ev.bdA (x_would hx.1 hc hs hz hx.2 ho h7 (nI i)) fun y ha hy => ?_
    have hw := hw y ⟨hy, hx.2.ag hs ha⟩
    simp only [nm, nI_1, bz0]
    unfold orS at hw
    by_cases hf : fo v its sz (upf (vc v c) (tF so) (nI i)) = -1
    · rw [if_neg (by simpa using hf)]
      rw [if_pos (by simpa using hf), if_neg (by omega)] at hw
      exact hw
    · rw [if_pos (by simpa using hf)]
      rw [if_neg (by simpa using hf)] at hw
      exact hw
theorem fold_from {σ : Type} (st : Nat → σ → σ) (lo r : Nat) (s : σ) : fold st lo r s = fold (fun b s => st (lo + b) s) 0 r s := by
  have := fold_shift st lo r 0 s
  rwa [Nat.add_zero] at this
theorem x_soCount {c s sz so lo R : Nat} {its : Nat → Int32} (h : RepX v m) (hc : c < vn v) (hs : s < 4) (hz : sz ≤ 40) (hS : ShtX s sz its m) (ho : tOk so) (h7 : ¬ so = 7) (hl : fLEAST so = nI lo) (hR : lo + R = 100) : Ev pX (RepX v) (F_X5_soCount m (28 + 2 * s) (20 + c) (nI so) 99) m (fold (ctS (fun x => decide (fo v its sz (upf (vc v c) (tF so) (nI x)) = -1))) lo R 0) := by
  have hso : so < 7 := by rcases ho with rfl | rfl | rfl | rfl | rfl | rfl <;> first | decide | exact absurd rfl h7
  unfold F_X5_soCount
  rw [gIf_pos (vp_n hso (by decide)), nI_c (by omega), hl]
  dsimp only [nm]
  have key : ∀ (r i fu : Nat) (x : Mem) (t : Int32), i + r = 100 → r < fu → RepX v x → ShtX s sz its x → Ev pX (RepX v) (F_X5_soCount_10 fu x (28 + 2 * s) (20 + c) (nI so) 99 t (nI i)) x (fold (ctS (fun x => decide (fo v its sz (upf (vc v c) (tF so) (nI x)) = -1))) i r t) := by
    intro r
    induction r with
    | zero =>
      intro i fu x t hi hf h hS
      cases fu with
      | zero => omega
      | succ fu =>
        unfold F_X5_soCount_10
        rw [if_pos (show (99 : Int32) < nI i from nI_lt (a := 99) (by omega) (by omega))]; exact Ev.ret h
    | succ r ih =>
      intro i fu x t hi hf h hS
      cases fu with
      | zero => omega
      | succ fu =>
        unfold F_X5_soCount_10 F_X5_soCount_32
        rw [if_neg (show ¬ (99 : Int32) < nI i from nI_nlt (a := 99) (by omega) (by omega)), nI_1]
        refine Ev.bdA (x_would h hc hs hz hS ho h7 (nI i)) fun y ha hy => ?_
        have hSy := hS.ag hs ha
        show Ev pX (RepX v) _ y (fold _ (i + 1) r (ctS (fun x => decide (fo v its sz (upf (vc v c) (tF so) (nI x)) = -1)) i t))
        unfold ctS
        simp only [bz0]
        by_cases hf : fo v its sz (upf (vc v c) (tF so) (nI i)) = -1
        · simp only [hf, decide_true, Bool.true_eq_false, if_false, if_true]
          exact ih (i + 1) fu y (t + 1) (by omega) (by omega) hy hSy
        · simp only [hf, decide_false, Bool.false_eq_true, if_false, if_true]
          exact ih (i + 1) fu y t (by omega) (by omega) hy hSy
  exact key R lo FU m 0 hR (hFU (by omega)) h hS
theorem x_soLeast {c s sz so lo R : Nat} {its : Nat → Int32} (h : RepX v m) (hc : c < vn v) (hs : s < 4) (hz : sz ≤ 40) (hS : ShtX s sz its m) (ho : tOk so) (h7 : ¬ so = 7) (hl : fLEAST so = nI lo) (hR : lo + R = 100) : Ev pX (RepX v) (F_X5_soLeast m (28 + 2 * s) (20 + c) (nI so) 99) m (slA (fun x => decide (fo v its sz (upf (vc v c) (tF so) (nI x)) = -1)) R lo (-1)) := by
  have hso : so < 7 := by rcases ho with rfl | rfl | rfl | rfl | rfl | rfl <;> first | decide | exact absurd rfl h7
  unfold F_X5_soLeast
  rw [gIf_pos (vp_n hso (by decide)), nI_c (by omega), hl]
  dsimp only [nm]
  have key : ∀ (r i fu : Nat) (x : Mem), i + r = 100 → r < fu → RepX v x → ShtX s sz its x → Ev pX (RepX v) (F_X5_soLeast_7 fu x (28 + 2 * s) (20 + c) (nI so) 99 (nI i)) x (slA (fun x => decide (fo v its sz (upf (vc v c) (tF so) (nI x)) = -1)) r i (-1)) := by
    intro r
    induction r with
    | zero =>
      intro i fu x hi hf h hS
      cases fu with
      | zero => omega
      | succ fu =>
        unfold F_X5_soLeast_7
        rw [if_pos (show (99 : Int32) < nI i from nI_lt (a := 99) (by omega) (by omega))]; exact Ev.ret h
    | succ r ih =>
      intro i fu x hi hf h hS
      cases fu with
      | zero => omega
      | succ fu =>
        unfold F_X5_soLeast_7
        rw [if_neg (show ¬ (99 : Int32) < nI i from nI_nlt (a := 99) (by omega) (by omega)), nI_1]
        refine Ev.bdA (x_would h hc hs hz hS ho h7 (nI i)) fun y ha hy => ?_
        have hSy := hS.ag hs ha
        unfold slA
        simp only [bz0]
        by_cases hf : fo v its sz (upf (vc v c) (tF so) (nI i)) = -1
        · simp only [hf, decide_true, Bool.true_eq_false, if_false, if_true]
          exact Ev.ret hy
        · simp only [hf, decide_false, Bool.false_eq_true, if_false, if_true]
          exact ih (i + 1) fu y (by omega) (by omega) hy hSy
  exact key R lo FU m hR (hFU (by omega)) h hS
theorem x_soTexts {c s sz tc : Nat} {its : Nat → Int32} {TS : Nat → Nat → (Int32 → Int32) → Int32} {TQ : Nat → Nat} (h : RepX v m) (hc : c < vn v) (hs : s < 4) (hz : sz ≤ 40) (hS : ShtX s sz its m) (htc : tc ≤ 6) (h5 : mD m 0 5 = nI tc) (hT : ∀ t, t < tc → mR m 6 t = some (TQ t) ∧ TX m (TQ t) (TS t)) : Ev pX (RepX v) (F_X5_soTexts m (28 + 2 * s) (20 + c)) m (fold (orS (fun t => decide (fo (withS v (TS t)) its sz (vc v c) = -1))) 0 tc 0) := by
  have h8 := h.2.1
  unfold F_X5_soTexts
  refine Ev.im (R := fun x => Ag pX m x) ?_ (fun _ hx => h.ag hx)
  refine Ev.loop (P := pX) (Q := fun x => Ag pX m x) (L := fun fu x t i => F_X5_soTexts_5 fu x (28 + 2 * s) (20 + c) t i) (n := tc) (st := orS (fun t => decide (fo (withS v (TS t)) its sz (vc v c) = -1))) (ex := id) (RR := fun _ x => Ag pX m x) (fun fu x t hx => ?_) (fun fu x t i hi hx w hw => ?_) tc 0 FU m 0 (by omega) (hFU (by omega)) Ag.rf
  · show Ev pX _ (F_X5_soTexts_5 (fu + 1) x (28 + 2 * s) (20 + c) t (nI tc)) x t
    unfold F_X5_soTexts_5
    rw [hx.2 0 5 (by unfold pX pSt; omega), h5, if_pos (Int32.le_refl _)]; exact Ev.ret hx
  · show Ev pX _ (F_X5_soTexts_5 (fu + 1) x (28 + 2 * s) (20 + c) t (nI i)) x w
    obtain ⟨t1, t2⟩ := hT i hi
    have hxr := h.ag hx
    have hSx := hS.ag hs hx
    unfold F_X5_soTexts_5 F_X5_soTexts_38
    rw [hx.2 0 5 (by unfold pX pSt; omega), h5, if_neg (nI_ge hi (by omega)), gIf_pos (vp_n (by omega) (by decide)), nI_c (by omega), gRef_some (show mR x 6 i = some (TQ i) by rw [hx.1.2.2.2]; exact t1)]
    refine Ev.bdM (x_first hxr (t2.ag hx (fun _ => (nX_t t2.2.1).1) (fun _ => (nX_t t2.2.1).2)) (nSt (show c < 8 by omega)) (hxr.row hc) hs hz hSx.1) (fun _ _ hp => pSt.x hp) fun y ha _ => ?_
    rw [hSx.2]
    have hw := hw y (hx.tr (ha.mono fun _ _ hp => pSt.x hp))
    simp only [nm, nI_1]
    unfold orS at hw
    by_cases hf : fo (withS v (TS i)) its sz (vc v c) = -1
    · rw [if_pos hf]
      rw [if_pos (by simpa using hf), if_neg (by omega)] at hw
      exact hw
    · rw [if_neg hf]
      rw [if_neg (by simpa using hf)] at hw
      exact hw
theorem x_soCoins {s sz : Nat} {its : Nat → Int32} (h : RepX v m) (hs : s < 4) (hz : sz ≤ 40) (hS : ShtX s sz its m) : Ev pX (RepX v) (F_X5_soCoins m (28 + 2 * s)) m (fold (orS (fun i => decide (fo v its sz (vc v i) = -1))) 0 (vn v) 0) := by
  have h8 := h.2.1
  unfold F_X5_soCoins
  refine Ev.im (R := fun x => Ag pX m x) ?_ (fun _ hx => h.ag hx)
  refine Ev.loop (P := pX) (Q := fun x => Ag pX m x) (L := fun fu x t i => F_X5_soCoins_4 fu x (28 + 2 * s) t i) (n := vn v) (st := orS (fun i => decide (fo v its sz (vc v i) = -1))) (ex := id) (RR := fun _ x => Ag pX m x) (fun fu x t hx => ?_) (fun fu x t i hi hx w hw => ?_) (vn v) 0 FU m 0 (by omega) (hFU (by omega)) Ag.rf
  · show Ev pX _ (F_X5_soCoins_4 (fu + 1) x (28 + 2 * s) t (nI (vn v))) x t
    unfold F_X5_soCoins_4
    rw [if_pos (h.ag hx).ex]; exact Ev.ret hx
  · show Ev pX _ (F_X5_soCoins_4 (fu + 1) x (28 + 2 * s) t (nI i)) x w
    have hxr := h.ag hx
    have hSx := hS.ag hs hx
    obtain ⟨q, q1, q2⟩ := x_theRule hxr
    unfold F_X5_soCoins_4 F_X5_soCoins_37
    rw [if_neg (hxr.hd hi), q1, bnd_eq, gIf_pos (hxr.vp hi), nI_c (by omega)]
    refine Ev.bdM (x_first hxr q2 (nSt (hxr.lt8 hi)) (hxr.row hi) hs hz hSx.1) (fun _ _ hp => pSt.x hp) fun y ha _ => ?_
    rw [hSx.2]
    have hw := hw y (hx.tr (ha.mono fun _ _ hp => pSt.x hp))
    simp only [nm, nI_1]
    unfold orS at hw
    show Ev pX _ (if fo v its sz (vc v i) = -1 then _ else _) y w
    by_cases hf : fo v its sz (vc v i) = -1
    · rw [if_pos hf]
      rw [if_pos (by simpa using hf), if_neg (by omega)] at hw
      exact hw
    · rw [if_neg hf]
      rw [if_neg (by simpa using hf)] at hw
      exact hw
end XT
