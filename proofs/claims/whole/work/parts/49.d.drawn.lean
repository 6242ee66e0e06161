/-! ages that are drawn -/
def dz (seed : Int32) : Nat → Int32
  | 0 => seed
  | i + 1 => dz seed i * 1103515245 + 12345
def dag (z : Int32) : Int32 := ((z.toUInt32 >>> ((9 : Int32).toUInt32 &&& Int32.toUInt32 31)).toInt32) - ((z.toUInt32 >>> ((9 : Int32).toUInt32 &&& Int32.toUInt32 31)).toInt32) / (15 : Int32) * (15 : Int32)
def dr (v : VW) (seed : Int32) : VW := (vn v, vd v, (fun i => upf (vc v i) 4 (dag (dz seed (i + 1)))), vS v)
def dri (v : VW) (seed : Int32) (k : Nat) : VW := (vn v, vd v, (fun i => if i < k then upf (vc v i) 4 (dag (dz seed (i + 1))) else vc v i), vS v)
theorem shr_nat (z : Int32) : ∃ u, u < 8388608 ∧ (z.toUInt32 >>> ((9 : Int32).toUInt32 &&& Int32.toUInt32 31)).toInt32 = nI u := by
  have e : ((9 : Int32).toUInt32 &&& Int32.toUInt32 31) = 9 := by decide
  rw [e]
  have hl : z.toUInt32.toNat >>> 9 < 8388608 := by
    have := z.toUInt32.toNat_lt
    rw [Nat.shiftRight_eq_div_pow]; omega
  refine ⟨z.toUInt32.toNat >>> 9, hl, ?_⟩
  apply Int32.toBitVec_inj.mp
  apply BitVec.eq_of_toNat_eq
  show (z.toUInt32 >>> 9).toNat = (BitVec.ofNat 32 (z.toUInt32.toNat >>> 9)).toNat
  rw [UInt32.toNat_shiftRight, BitVec.toNat_ofNat]
  show z.toUInt32.toNat >>> 9 = _
  rw [Nat.mod_eq_of_lt (by omega)]
theorem dag_nat (z : Int32) : ∃ a, a < 15 ∧ dag z = nI a := by
  obtain ⟨u, hu, e⟩ := shr_nat z
  unfold dag
  rw [e, show (15 : Int32) = nI 15 from rfl, pk_div (by omega) (by decide) (by decide)]
  refine ⟨u % 15, Nat.mod_lt _ (by decide), ?_⟩
  have e1 : nI (u / 15) * nI 15 = nI (u / 15 * 15) := (Int32.ofNat_mul _ _).symm
  rw [e1]
  have e2 : nI u - nI (u / 15 * 15) = nI (u - u / 15 * 15) := (Int32.ofNat_sub _ _ (by omega)).symm
  rw [e2]
  congr 1
  omega
theorem OKv.dr {v : VW} (h : OKv v) (seed : Int32) : OKv (dr v seed) := fun i hi => by
  obtain ⟨a, ha, e⟩ := dag_nat (dz seed (i + 1))
  show CB (upf (vc v i) 4 (dag (dz seed (i + 1))))
  rw [e]; exact (h i hi).up4 (by omega)
def pDr (k i : Nat) : Prop := k = 45 ∧ i % 5 = 3 ∧ i < 40
theorem m_draws {v : VW} {m : Mem} (h : RepM v m) (seed : Int32) : Ev pDr (RepM (dr v seed)) (F_X6_draws m seed) m () := by
  have key : ∀ (r i fu : Nat) (x : Mem), i + r = vn v → r < fu → RepM (dri v seed i) x → Ev pDr (RepM (dr v seed)) (F_X6_draws_4 fu x (dz seed i) (nI i)) x () := by
    intro r
    induction r with
    | zero =>
      intro i fu x hi hf hx
      cases fu with
      | zero => omega
      | succ fu =>
        have : i = vn v := by omega
        subst this
        unfold F_X6_draws_4
        rw [if_pos (show mD x 40 10 ≤ nI (vn v) from hx.ex)]
        exact Ev.ret (hx.congr rfl rfl (fun i hi => by
          show upf (vc v i) 4 (dag (dz seed (i + 1))) = if i < vn v then upf (vc v i) 4 (dag (dz seed (i + 1))) else vc v i
          rw [if_pos (show i < vn v from hi)]) rfl)
    | succ r ih =>
      intro i fu x hi hf hx
      cases fu with
      | zero => omega
      | succ fu =>
        have hi' : i < vn v := by omega
        have h8 := h.1
        unfold F_X6_draws_4
        rw [if_neg (show ¬ mD x 40 10 ≤ nI i from hx.hd hi'), m5, nI_3, nI_1]
        refine Ev.nam ?_
        rw [gIf_pos (vp_n (show 5 * i + 3 < 40 by omega) (by decide)), nI_c (by omega)]
        refine Ev.namW ⟨rfl, by omega, by omega⟩ (ih (i + 1) fu _ (by omega) (by omega) ?_)
        refine (hx.w45 (c := i) (f := 4) (by omega) (dag (dz seed (i + 1)))).congr rfl rfl (fun c hc => ?_) rfl
        show (if c < i + 1 then upf (vc v c) 4 (dag (dz seed (c + 1))) else vc v c) = if c = i then upf (if i < i then upf (vc v i) 4 (dag (dz seed (i + 1))) else vc v i) 4 (dag (dz seed (i + 1))) else if c < i then upf (vc v c) 4 (dag (dz seed (c + 1))) else vc v c
        by_cases e : c = i
        · subst e; rw [if_pos (by omega), if_pos rfl, if_neg (by omega)]
        · rw [if_neg e]
          by_cases l : c < i
          · rw [if_pos l, if_pos (by omega)]
          · rw [if_neg l, if_neg (by omega)]
  exact key (vn v) 0 FU m (by omega) (hFU (by have := h.1; omega)) (h.congr rfl rfl (fun i _ => show (if i < 0 then upf (vc v i) 4 (dag (dz seed (i + 1))) else vc v i) = vc v i from if_neg (Nat.not_lt_zero i)) rfl)
theorem pDr.p {k i : Nat} (h : pDr k i) : pPs k i := Or.inr (Or.inl h)
theorem m_drawn0 {v : VW} {m : Mem} (h : RepM v m) (hv : OKv v) (seed p : Int32) : Ev pSc TT (bnd (F_X6_laysAside m) fun v6 m7 => bnd (F_X6_draws m7 seed) fun v10 m11 => bnd (F_X6_richOf m11 p) fun v14 m15 => bnd (F_X6_laysBack m15) fun v18 m19 => some (v14, m19)) m (rich (dr v seed) p 0) := by
  refine Ev.sc (Ev.bd (Th.beg scI h) fun x hT => ?_)
  obtain ⟨x1, e1, a1, r1⟩ := m_draws hT.2.2 seed
  rw [e1, bnd_eq]
  have hT1 := hT.ps scI (a1.mono fun _ _ hp => pDr.p hp) r1
  refine Ev.step (a1.mono fun _ _ _ => trivial) (Ev.bd (hT1.run scI (m_rich hT1.2.2 (hv.dr seed) p)) fun x2 hT2 => ?_)
  exact Ev.bd hT2.end_ fun x' hx' => Ev.ret hx'.1
/-- how often one has k or more -/
def hit (v : VW) (p seed k : Int32) (t : Nat) : Bool := !decide (bc (purse (dr v (seed + nI t)) p 0) < k)
def cdE : Nat → Int32 → Int32 → Int32 → Option Int32
  | 0, _, _, _ => none
  | r + 1, a0, a1, a2 => if a2 ≤ 1 then some 1 else if a0 - a0 / a2 * a2 = 0 then (if a1 - a1 / a2 * a2 = 0 then some a2 else cdE r a0 a1 (a2 + -1)) else cdE r a0 a1 (a2 + -1)
def gcE : Nat → Int64 → Int64 → Option Int64
  | 0, _, _ => none
  | r + 1, a8, a10 => if a10 = 0 then some a8 else gcE r a10 (a8 - a8 / a10 * a10)
theorem x_cd (m : Mem) : ∀ (r fu : Nat) (a0 a1 a2 d : Int32), r ≤ fu → cdE r a0 a1 a2 = some d → F_X5_commonDivisor_2 fu m a0 a1 a2 = some (d, m) := by
  intro r
  induction r with
  | zero => intro fu a0 a1 a2 d _ h; cases h
  | succ r ih =>
    intro fu a0 a1 a2 d hf h
    cases fu with
    | zero => omega
    | succ fu =>
      unfold cdE at h
      unfold F_X5_commonDivisor_2 F_X5_commonDivisor_21
      by_cases h1 : a2 ≤ 1
      · rw [if_pos h1] at h ⊢; cases h; rfl
      · rw [if_neg h1] at h ⊢
        have hz : ¬ a2 = 0 := fun z => h1 (by rw [z]; decide)
        rw [gIf_pos hz, gIf_pos hz]
        by_cases h2 : a0 - a0 / a2 * a2 = 0
        · rw [if_pos h2] at h ⊢
          by_cases h3 : a1 - a1 / a2 * a2 = 0
          · rw [if_pos h3] at h ⊢; cases h; rfl
          · rw [if_neg h3] at h ⊢; exact ih fu _ _ _ _ (by omega) h
        · rw [if_neg h2] at h ⊢; exact ih fu _ _ _ _ (by omega) h
theorem lgc0 (a : Int64) : (lg_cmp a 0 = 0) ↔ a = 0 := by
  unfold lg_cmp
  by_cases h1 : a > 0
  · rw [if_pos h1]
    constructor
    · intro z; exact absurd z (by decide)
    · intro z; subst z; exact absurd h1 (by decide)
  · rw [if_neg h1]
    by_cases h2 : a = 0
    · simp [h2]
    · rw [if_neg h2]
      constructor
      · intro z; exact absurd z (by decide)
      · intro z; exact absurd z h2
theorem m_gc (m : Mem) (a2 a5 : Int32) (a6 g : Int64) (hg : ¬ g = 0) : ∀ (r fu : Nat) (a8 a10 : Int64), r ≤ fu → gcE r a8 a10 = some g → F_X6_chance_112 fu m a2 a5 a6 a8 a10 = some (if a5 = 0 then a6 / g else a2.toInt64 / g, m) := by
  intro r
  induction r with
  | zero => intro fu a8 a10 _ h; cases h
  | succ r ih =>
    intro fu a8 a10 hf h
    cases fu with
    | zero => omega
    | succ fu =>
      unfold gcE at h
      unfold F_X6_chance_112
      by_cases h1 : a10 = 0
      · rw [if_pos h1] at h
        rw [if_pos ((lgc0 a10).mpr h1)]
        cases h
        by_cases h5 : a5 = 0
        · rw [if_pos h5, if_pos h5, gIf_pos hg]
        · rw [if_neg h5, if_neg h5, gIf_pos hg]
      · rw [if_neg h1] at h
        rw [if_neg (fun z => h1 ((lgc0 a10).mp z)), gIf_pos h1]
        exact ih fu _ _ (by omega) h
def chX (h q : Nat) (part : Int32) : Option Int64 := match cdE 22 (nI h) (nI q) (nI q) with
  | some d => if d = 0 then none else some ((if part = 0 then nI h / d else nI q / d).toInt64)
  | none => none
def chM (h q : Nat) (part : Int32) : Option Int64 := match gcE 30 (Int64.ofNat h) (nI q).toInt64 with
  | some g => if g = 0 then none else some (if part = 0 then Int64.ofNat h / g else (nI q).toInt64 / g)
  | none => none
set_option maxRecDepth 100000 in
theorem ch_eq : ∀ q, q < 21 → 1 ≤ q → ∀ h, h < q + 1 → (chX h q 0 = chM h q 0 ∧ chX h q 1 = chM h q 1 ∧ (chX h q 0).isSome = true ∧ (chX h q 1).isSome = true) := by decide +kernel
theorem lN_s (a : Nat) : Int64.ofNat a + 1 = Int64.ofNat (a + 1) := (Int64.ofNat_add a 1).symm
theorem m_chance0 {v : VW} {m : Mem} (h : RepM v m) (hv : OKv v) (seed p k part : Int32) {q : Nat} (hq : q < 21) (hq1 : 1 ≤ q) (hp : part = 0 ∨ part = 1) (w : Int64) (hw : chM (cn (hit v p seed k) q) q part = some w) : Ev pSc TT (bnd (F_X6_laysAside m) fun v21 m22 => F_X6_chance_57 FU m22 seed (nI q) p k part 0 0) m w := by
  have h8 := h.1
  have key : ∀ (r t fu : Nat) (x : Mem) (v' : VW), t + r = q → r < fu → Th pSc m v' x → vn v' = vn v → vd v' = vd v → vS v' = vS v → (∀ i a, i < vn v → upf (vc v' i) 4 a = upf (vc v i) 4 a) → Ev pTop (fun m' => Ag pSc m m') (F_X6_chance_57 fu x seed (nI q) p k part (Int64.ofNat (cn (hit v p seed k) t)) (nI t)) x w := by
    intro r
    induction r with
    | zero =>
      intro t fu x v' ht hf hT e1 e2 e3 e4
      cases fu with
      | zero => omega
      | succ fu =>
        have : t = q := by omega
        subst this
        unfold F_X6_chance_57
        rw [if_pos (Int32.le_refl _)]
        refine Ev.bd hT.end_ fun x' hx' => ?_
        refine Ev.nam ?_
        unfold chM at hw
        cases hg : gcE 30 (Int64.ofNat (cn (hit v p seed k) t)) (nI t).toInt64 with
        | none => rw [hg] at hw; cases hw
        | some g =>
          rw [hg] at hw
          dsimp only at hw
          by_cases g0 : g = 0
          · rw [if_pos g0] at hw; cases hw
          · rw [if_neg g0] at hw
            rw [m_gc x' (nI t) part _ g g0 30 FU _ _ (by show 30 ≤ 5000; omega) hg]
            cases hw
            exact Ev.ret hx'.1
    | succ r ih =>
      intro t fu x v' ht hf hT e1 e2 e3 e4
      cases fu with
      | zero => omega
      | succ fu =>
        unfold F_X6_chance_57 F_X6_chance_91
        rw [if_neg (nI_ge (show t < q by omega) (by omega))]
        obtain ⟨x1, f1, a1, r1⟩ := m_draws hT.2.2 (seed + nI t)
        rw [f1, bnd_eq]
        have r1' : RepM (dr v (seed + nI t)) x1 := r1.congr e1.symm e2.symm (fun i hi => (e4 i _ (by rw [← e1]; exact hi)).symm) e3.symm
        have hT1 : Th pSc m (dr v (seed + nI t)) x1 := hT.ps scI (a1.mono fun _ _ hp => pDr.p hp) r1'
        refine Ev.step (a1.mono fun _ _ _ => trivial) (Ev.bd (hT1.run scI (m_purse hT1.2.2 (hv.dr _) p)) fun x2 hT2 => ?_)
        obtain ⟨j, hj, ej⟩ := purse_nat (v := dr v (seed + nI t)) h8 p 0
        rw [ej, m_bits _ hj, bnd_eq, ← ej]
        have nx := ih (t + 1) fu x2 (dr v (seed + nI t)) (by omega) (by omega) hT2 rfl rfl rfl (fun i a _ => by
          show upf (upf (vc v i) 4 _) 4 a = _
          funext g; unfold upf; split <;> rfl)
        rw [cn_s] at nx
        simp only [nm, nI_1, Int64.add_zero, lN_s]
        unfold hit at nx ⊢
        by_cases hl : bc (purse (dr v (seed + nI t)) p 0) < k
        · rw [if_pos hl]
          rw [if_neg (by simp [hl])] at nx
          exact nx
        · rw [if_neg hl]
          rw [if_pos (by simp [hl])] at nx
          exact nx
  exact Ev.sc (Ev.bd (Th.beg scI h) fun x hT => key q 0 FU x v (by omega) (hFU (by omega)) hT rfl rfl rfl (fun _ _ _ => rfl))
section XD
variable {v : VW} {m : Mem}
theorem x_drawnL (h : RepX v m) (hv : OKv v) (seed p : Int32) : Ev pSt (RepX v) (F_X5_drawn_19 FU m p 0 seed 0) m (rich (dr v seed) p 0) := by
  have key : ∀ (r i fu : Nat) (x : Mem) (s : Int32), i + r = vn v → r < fu → RepX v x → Ev pSt (RepX v) (F_X5_drawn_19 fu x p s (dz seed i) (nI i)) x (fold (fun i s => if vc (dr v seed) i 5 = p then s + wor (dr v seed) (vc (dr v seed) i) 0 else s) i r s) := by
    intro r
    induction r with
    | zero =>
      intro i fu x s hi hf h
      cases fu with
      | zero => omega
      | succ fu =>
        have : i = vn v := by omega
        subst this
        unfold F_X5_drawn_19
        rw [if_pos h.ex]; exact Ev.ret h
    | succ r ih =>
      intro i fu x s hi hf h
      cases fu with
      | zero => omega
      | succ fu =>
        have hi' : i < vn v := by omega
        have h8 := h.lt8 hi'
        obtain ⟨q, q1, q2⟩ := x_theRule h
        unfold F_X5_drawn_19 F_X5_drawn_75 F_X5_nextDraw F_X5_drawnAge
        simp only [bnd_eq, nI_1, nm]
        rw [if_neg (h.hd hi'), gIf_pos (h.vp hi'), nI_c (by omega), h.fld hi' (by decide)]
        show Ev pSt (RepX v) _ x (fold _ (i + 1) r (if vc v i 5 = p then s + wor (dr v seed) (vc (dr v seed) i) 0 else s))
        by_cases ho : vc v i 5 = p
        · rw [if_pos ho, if_pos ho, q1, bnd_eq, gIf_pos (h.vp hi'), h.2.2.2.1]
          refine Ev.bd (h.lift (x_worthOf q2 (nSt h8))) fun x1 h1 => ?_
          rw [← pW_row6, h.row hi']
          have e : wor (dr v seed) (vc (dr v seed) i) 0 = pW (vS v) (vc v i) (dag (dz seed (i + 1))) (vd v) := by
            obtain ⟨a, ha, ea⟩ := dag_nat (dz seed (i + 1))
            show pW (vS v) (upf (vc v i) 4 (dag (dz seed (i + 1)))) (ag (upf (vc v i) 4 (dag (dz seed (i + 1)))) 0) (vd v + 0) = _
            rw [ea, ag_up0 (by omega), pW_up4, Int32.add_zero]
          rw [e]
          exact ih (i + 1) fu x1 _ (by omega) (by omega) h1
        · rw [if_neg ho, if_neg ho]
          exact ih (i + 1) fu x _ (by omega) (by omega) h
  exact key (vn v) 0 FU m 0 (by omega) (hFU (by have := h.2.1; omega)) h
theorem x_wwd (h : RepX v m) (hv : OKv v) (seed p : Int32) : Ev pSt (RepX v) (F_X5_wholeWhenDrawn m seed p) m (bc (purse (dr v seed) p 0)) := by
  have h8 := h.2.1
  have e : bc (purse (dr v seed) p 0) = fold (fun i s => if (decide (vc (dr v seed) i 5 = p) && whole (dr v seed) (vc (dr v seed) i) 0) = true then s + 1 else s) 0 (vn v) 0 := by
    rw [purse_mk (v := dr v seed) h8, mk_bc _ (show vn (dr v seed) ≤ 8 from h8), cn_fold]; rfl
  rw [e]
  have key : ∀ (r i fu : Nat) (x : Mem) (s : Int32), i + r = vn v → r < fu → RepX v x → Ev pSt (RepX v) (F_X5_wholeWhenDrawn_8 fu x p s (dz seed i) (nI i)) x (fold (fun i s => if (decide (vc (dr v seed) i 5 = p) && whole (dr v seed) (vc (dr v seed) i) 0) = true then s + 1 else s) i r s) := by
    intro r
    induction r with
    | zero =>
      intro i fu x s hi hf h
      cases fu with
      | zero => omega
      | succ fu =>
        have : i = vn v := by omega
        subst this
        unfold F_X5_wholeWhenDrawn_8
        rw [if_pos h.ex]; exact Ev.ret h
    | succ r ih =>
      intro i fu x s hi hf h
      cases fu with
      | zero => omega
      | succ fu =>
        have hi' : i < vn v := by omega
        have h8 := h.lt8 hi'
        obtain ⟨q, q1, q2⟩ := x_theRule h
        unfold F_X5_wholeWhenDrawn_8 F_X5_wholeWhenDrawn_73 F_X5_nextDraw F_X5_drawnAge
        simp only [bnd_eq, nI_1]
        rw [if_neg (h.hd hi'), gIf_pos (h.vp hi'), nI_c (by omega), h.fld hi' (by decide)]
        show Ev pSt (RepX v) _ x (fold _ (i + 1) r (if (decide (vc v i 5 = p) && whole (dr v seed) (vc (dr v seed) i) 0) = true then s + 1 else s))
        by_cases ho : vc v i 5 = p
        · rw [if_pos ho, q1, bnd_eq, gIf_pos (h.vp hi'), h.2.2.2.1]
          refine Ev.bd (h.lift (x_turnsOf q2 (nSt h8))) fun x1 h1 => ?_
          rw [← pT_row6, h.row hi']
          have e : whole (dr v seed) (vc (dr v seed) i) 0 = decide (¬ pT (vS v) (vc v i) (dag (dz seed (i + 1))) (vd v) ≤ dag (dz seed (i + 1))) := by
            obtain ⟨a, ha, ea⟩ := dag_nat (dz seed (i + 1))
            show decide (¬ pT (vS v) (upf (vc v i) 4 (dag (dz seed (i + 1)))) (ag (upf (vc v i) 4 (dag (dz seed (i + 1)))) 0) (vd v + 0) ≤ ag (upf (vc v i) 4 (dag (dz seed (i + 1)))) 0) = _
            rw [ea, ag_up0 (by omega), pT_up4, Int32.add_zero]
          rw [e]
          have nx := fun s => ih (i + 1) fu x1 s (by omega) (by omega) h1
          by_cases hl : pT (vS v) (vc v i) (dag (dz seed (i + 1))) (vd v) ≤ dag (dz seed (i + 1))
          · refine Ev.ift hl ?_
            rw [if_neg (by simp [hl])]
            exact nx s
          · refine Ev.iff hl ?_
            rw [if_pos (by simp [ho, hl])]
            exact nx (s + 1)
        · rw [if_neg ho, if_neg (by simp [ho])]
          exact ih (i + 1) fu x _ (by omega) (by omega) h
  exact key (vn v) 0 FU m 0 (by omega) (hFU (by omega)) h
theorem x_chance0 (h : RepX v m) (hv : OKv v) (seed p k part : Int32) {q : Nat} (hq : q < 21) (hp : part = 0 ∨ part = 1) (w : Int64) (hw : chX (cn (hit v p seed k) q) q part = some w) : Ev pSt (RepX v) (F_X5_chance_49 FU m seed (nI q) p k part 0 0) m w := by
  have key : ∀ (r t fu : Nat) (x : Mem), t + r = q → r < fu → RepX v x → Ev pSt (RepX v) (F_X5_chance_49 fu x seed (nI q) p k part (nI (cn (hit v p seed k) t)) (nI t)) x w := by
    intro r
    induction r with
    | zero =>
      intro t fu x ht hf h
      cases fu with
      | zero => omega
      | succ fu =>
        have : t = q := by omega
        subst this
        unfold F_X5_chance_49 F_X5_commonDivisor
        rw [if_pos (Int32.le_refl _)]
        unfold chX at hw
        cases hg : cdE 22 (nI (cn (hit v p seed k) t)) (nI t) (nI t) with
        | none => rw [hg] at hw; cases hw
        | some g =>
          rw [hg] at hw
          dsimp only at hw
          by_cases g0 : g = 0
          · rw [if_pos g0] at hw; cases hw
          · rw [if_neg g0] at hw
            rw [x_cd x 22 FU _ _ _ g (by show 22 ≤ 5000; omega) hg, bnd_eq, gIf_pos g0, gIf_pos g0]
            cases hw
            by_cases h5 : part = 0
            · rw [if_pos h5, if_pos h5]; exact Ev.ret h
            · rw [if_neg h5, if_neg h5]; exact Ev.ret h
    | succ r ih =>
      intro t fu x ht hf h
      cases fu with
      | zero => omega
      | succ fu =>
        unfold F_X5_chance_49 F_X5_chance_72
        rw [if_neg (nI_ge (show t < q by omega) (by omega)), nI_1, nI_1]
        refine Ev.bd (x_wwd h hv (seed + nI t) p) fun x1 h1 => ?_
        have nx := ih (t + 1) fu x1 (by omega) (by omega) h1
        rw [cn_s] at nx
        unfold hit at nx ⊢
        by_cases hl : bc (purse (dr v (seed + nI t)) p 0) < k
        · rw [if_pos hl]
          rw [if_neg (by simp [hl])] at nx
          exact nx
        · rw [if_neg hl]
          rw [if_pos (by simp [hl])] at nx
          exact nx
  exact key q 0 FU m (by omega) (hFU (by omega)) h
end XD
