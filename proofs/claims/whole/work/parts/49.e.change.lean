/-! coins that would be paid; who should change with whom -/
theorem row6_w {m : Mem} {c f : Nat} (hf : f < 6) (x : Int32) : row6 (mD (wD m c f x) c) = upf (row6 (mD m c)) f x := by
  funext g
  unfold row6 upf
  by_cases e : g = f
  · subst e; rw [if_pos hf, if_pos rfl, mD_s]
  · rw [if_neg e, mD_i e]
theorem row6_k {m : Mem} {c k f : Nat} (h : ¬ c = k) (x : Int32) : row6 (mD (wD m k f x) c) = row6 (mD m c) := by
  funext g
  unfold row6
  rw [mD_k h]
theorem agC {m : Mem} {c f : Nat} {x : Int32} : Ag (fun k _ => k = c) m (wD m c f x) := Ag.d (P := fun k _ => k = c) rfl
theorem x_become (m : Mem) {c0 c1 : Nat} (h : ¬ c1 = c0) : ∃ m', F_X0_become m c0 c1 = some ((), m') ∧ Ag (fun k _ => k = c0) m m' ∧ row6 (mD m' c0) = row6 (mD m c1) := by
  unfold F_X0_become
  dsimp only [nm]
  refine ⟨_, rfl, (((((agC.tr agC).tr agC).tr agC).tr agC).tr agC), ?_⟩
  rw [row6_w (by decide), row6_w (by decide), row6_w (by decide), row6_w (by decide), row6_w (by decide), row6_w (by decide)]
  simp only [mD_k h]
  funext g
  unfold upf row6
  by_cases g5 : g = 5
  · subst g5; rfl
  by_cases g4 : g = 4
  · subst g4; rfl
  by_cases g3 : g = 3
  · subst g3; rfl
  by_cases g2 : g = 2
  · subst g2; rfl
  by_cases g1 : g = 1
  · subst g1; rfl
  by_cases g0 : g = 0
  · subst g0; rfl
  rw [if_neg g5, if_neg g4, if_neg g3, if_neg g2, if_neg g1, if_neg g0, if_neg (by omega), if_neg (by omega)]
theorem x_goTo (m : Mem) (c : Nat) (to : Int32) : ∃ m', F_X0_goTo m c to = some ((), m') ∧ Ag (fun k _ => k = c) m m' ∧ row6 (mD m' c) = upf (upf (row6 (mD m c)) 5 to) 4 0 :=
  ⟨wD (wD m c 5 to) c 4 0, rfl, agC.tr agC, by rw [row6_w (by decide), row6_w (by decide)]⟩
def paid (r : Nat → Int32) (to : Int32) : Nat → Int32 := upf (upf r 5 to) 4 0
def gain (v : VW) (c : Nat) (to : Int32) : Int32 := wor v (paid (vc v c) to) 10 - wor v (vc v c) 10
theorem p18 {m m' : Mem} (h : Ag (fun k _ => k = 18) m m') : Ag pX m m' := h.mono fun _ _ e => Or.inr (Or.inl e)
theorem btw_c {c n : Nat} (h : c < n) (hn : n < 1000) : btw (nI c) 0 ((n : Int) - 1) = true := by
  rw [btw_iff, nI_toInt (by omega)]; omega
theorem nSt18 : ∀ i, ¬ pSt 18 i := fun i => by unfold pSt; omega
section XC
variable {v : VW} {m : Mem}
theorem RepX.liftX {α : Type} {f : Option (α × Mem)} {w : α} (h : RepX v m) (e : Ev pSt TT f m w) : Ev pX (RepX v) f m w := (h.lift e).mono fun _ _ hp => pSt.x hp
theorem x_gain (h : RepX v m) {c : Nat} (hc : c < vn v) (to : Int32) : Ev pX (RepX v) (F_X5_gainIfPaid m (nI c) to) m (gain v c to) := by
  have h8 := h.2.1
  unfold F_X5_gainIfPaid
  rw [x_isCoin h, bnd_eq, btw_c hc (by omega), if_neg (by decide), gIf_pos (h.vp hc), nI_c (by omega)]
  obtain ⟨m1, e1, a1, r1⟩ := x_become m (c0 := 18) (c1 := 20 + c) (by omega)
  rw [e1, bnd_eq]
  obtain ⟨m2, e2, a2, r2⟩ := x_goTo m1 18 to
  rw [e2, bnd_eq]
  have h1 : RepX v m1 := h.ag (p18 a1)
  have h2 : RepX v m2 := h1.ag (p18 a2)
  refine Ev.step ((p18 a1).tr (p18 a2)) ?_
  dsimp only [nm]
  obtain ⟨q, q1, q2⟩ := x_theRule h2
  rw [q1, bnd_eq, x_age, bnd_eq, r2, r1, h.row hc, h2.2.2.2.1]
  refine Ev.bd (h2.liftX (x_worthOf q2 nSt18)) fun m3 h3 => ?_
  obtain ⟨q', q3, q4⟩ := x_theRule h3
  rw [q3, bnd_eq, x_age, bnd_eq, h3.row hc, ← pW_row6, r2, r1, h.row hc]
  refine Ev.bd (h3.liftX (x_worthOf q4 (nSt (h.lt8 hc)))) fun m4 h4 => ?_
  rw [← pW_row6 (vS v) (mD m3 (20 + c)), h3.row hc]
  exact Ev.ret h4
def bpI (v : VW) (p q mine his : Int32) (i j : Nat) (s : Int32 × Int32) : Int32 × Int32 := if hb mine (nI i) = true then (if hb his (nI j) = true then (if gain v i q + gain v j p ≤ s.2 then s else (nI (10 * i + j), gain v i q + gain v j p)) else s) else s
def bpO (v : VW) (p q mine his : Int32) (i : Nat) (s : Int32 × Int32) : Int32 × Int32 := fold (bpI v p q mine his i) 0 (vn v) s
def bp (v : VW) (p q : Int32) : Int32 × Int32 := fold (bpO v p q (purse v p 0) (purse v q 0)) 0 (vn v) (-1, 0)
theorem m10 (c : Nat) : (10 : Int32) * nI c = nI (10 * c) := (Int32.ofNat_mul 10 c).symm
theorem x_bpI (p q mine his : Int32) {i : Nat} (hi : i < vn v) (K : Mem → Int32 → Int32 → Int32 → Int32 → Int32 → Int32 → Int32 → Option (Int32 × Mem)) (w : Int32) : ∀ (r j fu : Nat) (x : Mem) (s : Int32 × Int32), j + r = vn v → r < fu → RepX v x → (∀ x', RepX v x' → Ev pX (RepX v) (K x' p q mine his (fold (bpI v p q mine his i) j r s).1 (fold (bpI v p q mine his i) j r s).2 (nI (i + 1))) x' w) → Ev pX (RepX v) (F_X5_bestPair_36 K fu x p q mine his s.1 s.2 (nI i) (nI j)) x w := by
  intro r
  induction r with
  | zero =>
    intro j fu x s hj hf h hK
    cases fu with
    | zero => omega
    | succ fu =>
      have : j = vn v := by omega
      subst this
      unfold F_X5_bestPair_36
      rw [if_pos h.ex, nI_1]
      exact hK x h
  | succ r ih =>
    intro j fu x s hj hf h hK
    cases fu with
    | zero => omega
    | succ fu =>
      have hj' : j < vn v := by omega
      have hK' : ∀ x', RepX v x' → Ev pX (RepX v) (K x' p q mine his (fold (bpI v p q mine his i) (j + 1) r (bpI v p q mine his i j s)).1 (fold (bpI v p q mine his i) (j + 1) r (bpI v p q mine his i j s)).2 (nI (i + 1))) x' w := hK
      unfold F_X5_bestPair_36 F_X5_bestPair_102
      rw [if_neg (h.hd hj'), x_holds, bnd_eq, x_holds]
      simp only [bz0, bnd_eq, nI_1, nm, m10, nI_ad]
      unfold bpI at hK'
      cases h1 : hb mine (nI i) with
      | false =>
        rw [if_pos rfl]
        rw [if_neg (by rw [h1]; decide)] at hK'
        exact ih (j + 1) fu x s (by omega) (by omega) h hK'
      | true =>
        rw [if_neg (by decide)]
        rw [if_pos h1] at hK'
        cases h2 : hb his (nI j) with
        | false =>
          rw [if_pos rfl]
          rw [if_neg (by rw [h2]; decide)] at hK'
          exact ih (j + 1) fu x s (by omega) (by omega) h hK'
        | true =>
          rw [if_neg (by decide)]
          rw [if_pos h2] at hK'
          refine Ev.bd (x_gain h hi q) fun x1 hx1 => Ev.bd (x_gain hx1 hj' p) fun x2 hx2 => ?_
          by_cases hg : gain v i q + gain v j p ≤ s.2
          · rw [if_pos hg] at hK' ⊢
            exact ih (j + 1) fu x2 s (by omega) (by omega) hx2 hK'
          · rw [if_neg hg] at hK' ⊢
            exact ih (j + 1) fu x2 (nI (10 * i + j), gain v i q + gain v j p) (by omega) (by omega) hx2 hK'
theorem x_bestPair (h : RepX v m) (p q : Int32) : Ev pX (RepX v) (F_X5_bestPair m p q) m (bp v p q).1 := by
  unfold F_X5_bestPair
  refine Ev.bdM (x_purse h p 0) (fun _ _ hp => pSt.x hp) fun m1 _ h1 => Ev.bdM (x_purse h1 q 0) (fun _ _ hp => pSt.x hp) fun m2 _ h2 => ?_
  unfold bp
  have key : ∀ (r i fu : Nat) (x : Mem) (s : Int32 × Int32), i + r = vn v → r < fu → RepX v x → Ev pX (RepX v) (F_X5_bestPair_24 fu x p q (purse v p 0) (purse v q 0) s.1 s.2 (nI i)) x (fold (bpO v p q (purse v p 0) (purse v q 0)) i r s).1 := by
    intro r
    induction r with
    | zero =>
      intro i fu x s hi hf h
      cases fu with
      | zero => omega
      | succ fu =>
        have : i = vn v := by omega
        subst this
        unfold F_X5_bestPair_24
        rw [if_pos h.ex]; exact Ev.ret h
    | succ r ih =>
      intro i fu x s hi hf h
      cases fu with
      | zero => omega
      | succ fu =>
        have hi' : i < vn v := by omega
        unfold F_X5_bestPair_24
        rw [if_neg (h.hd hi')]
        exact x_bpI p q _ _ hi' (F_X5_bestPair_24 fu) _ (vn v) 0 FU x s (by omega) (hFU (by have := h.2.1; omega)) h fun x' hx' => ih (i + 1) fu x' _ (by omega) (by omega) hx'
  exact key (vn v) 0 FU m2 (-1, 0) (by omega) (hFU (by have := h.2.1; omega)) h2
def bpG (v : VW) (p q : Int32) (s : Int32 × Int32) : Prop := (s.1 = -1 ∧ s.2 = 0) ∨ ∃ i j, i < vn v ∧ j < vn v ∧ s = (nI (10 * i + j), gain v i q + gain v j p)
theorem fold_pres {σ : Type} {st : Nat → σ → σ} {I : σ → Prop} : ∀ (r i : Nat) (s : σ), (∀ k s, i ≤ k → k < i + r → I s → I (st k s)) → I s → I (fold st i r s) := by
  intro r
  induction r with
  | zero => intro i s _ h; exact h
  | succ r ih => intro i s hs h; exact ih (i + 1) _ (fun k s h1 h2 => hs k s (by omega) (by omega)) (hs i s (by omega) (by omega) h)
theorem bp_inv (p q : Int32) : bpG v p q (bp v p q) := by
  unfold bp
  refine fold_pres (vn v) 0 _ (fun i s _ hi hs => ?_) (Or.inl ⟨rfl, rfl⟩)
  unfold bpO
  refine fold_pres (vn v) 0 _ (fun j s _ hj hs => ?_) hs
  unfold bpI
  split
  · split
    · split
      · exact hs
      · exact Or.inr ⟨i, j, by omega, by omega, rfl⟩
    · exact hs
  · exact hs
theorem dm10 : ∀ i, i < 8 → ∀ j, j < 8 → nI (10 * i + j) / 10 = nI i ∧ nI (10 * i + j) - nI (10 * i + j) / 10 * 10 = nI j := by decide +kernel
def chgA (v : VW) (p q wh : Int32) : Int32 := if wh = 0 then (bp v p q).1 else rich v p 10 + rich v q 10 + (bp v p q).2
theorem x_change0 (h : RepX v m) (p q wh : Int32) : Ev pX (RepX v) (bnd (F_X5_bestPair m p q) fun v11 m12 => if wh = 0 then some (v11, m12) else bnd (F_X5_richBehind m12 p 10) fun v16 m17 => bnd (F_X5_richBehind m17 q 10) fun v20 m21 => nm (v16 + v20) fun x24 => if v11 = -1 then some (x24, m21) else bnd (F_X5_gainIfPaid m21 (v11 / 10) q) fun v26 m27 => bnd (F_X5_gainIfPaid m27 (v11 - v11 / 10 * 10) p) fun v30 m31 => some (x24 + v26 + v30, m31)) m (chgA v p q wh) := by
  have h8 := h.2.1
  unfold chgA
  refine Ev.bd (x_bestPair h p q) fun m1 h1 => ?_
  by_cases hw : wh = 0
  · rw [if_pos hw, if_pos hw]; exact Ev.ret h1
  · rw [if_neg hw, if_neg hw]
    refine Ev.bdM (x_rich h1 p 10) (fun _ _ hp => pSt.x hp) fun m2 _ h2 => Ev.bdM (x_rich h2 q 10) (fun _ _ hp => pSt.x hp) fun m3 _ h3 => ?_
    dsimp only [nm]
    rcases bp_inv (v := v) p q with ⟨e1, e2⟩ | ⟨i, j, hi, hj, e⟩
    · rw [if_pos e1, e2, Int32.add_zero]; exact Ev.ret h3
    · rw [e]
      dsimp only
      rw [if_neg (nI_nm1 (by omega)), (dm10 i (by omega) j (by omega)).2, (dm10 i (by omega) j (by omega)).1]
      refine Ev.bd (x_gain h3 hi q) fun m4 h4 => Ev.bd (x_gain h4 hj p) fun m5 h5 => ?_
      rw [← Int32.add_assoc]
      exact Ev.ret h5
end XC
/-! the reference's -/
def pay1 (v : VW) (c : Nat) (to : Int32) : VW := upC v c (paid (vc v c) to)
section MC
variable {v : VW} {m : Mem}
theorem CB.paid {r : Nat → Int32} (h : CB r) {to : Int32} (ht : btw to 0 3 = true) : CB (paid r to) := ⟨h.1, h.2.1, h.2.2.1, h.2.2.2.1, (by decide : btw 0 0 999 = true), ht⟩
theorem OKv.pay1 (h : OKv v) {to : Int32} (ht : btw to 0 3 = true) (c : Nat) (hc : c < vn v) : OKv (pay1 v c to) := fun i hi => by
  show CB (if i = c then _ else vc v i)
  split
  · exact (h c hc).paid ht
  · exact h i hi
theorem m_pays (h : RepM v m) {c : Nat} (hc : c < vn v) (to : Int32) : Ev pBk (RepM (pay1 v c to)) (F_X6_pays m (nI c) to) m () := by
  have h8 := h.1
  unfold F_X6_pays
  rw [m5, nI_4, nI_3, gIf_pos (vp_n (show 5 * c + 4 < 40 by omega) (by decide)), nI_c (n := 5 * c + 4) (by omega)]
  refine Ev.namW (Or.inl ⟨rfl, by omega, by omega⟩) ?_
  rw [gIf_pos (vp_n (show 5 * c + 3 < 40 by omega) (by decide)), nI_c (by omega)]
  refine Ev.namW (Or.inl ⟨rfl, by omega, by omega⟩) (Ev.ret ?_)
  refine ((h.w45 (c := c) (f := 5) (by omega) to).w45 (c := c) (f := 4) (by omega) 0).congr rfl rfl (fun i hi => ?_) rfl
  show (if i = c then paid (vc v c) to else vc v i) = if i = c then upf (if c = c then upf (vc v c) 5 to else vc v c) 4 0 else if i = c then upf (vc v c) 5 to else vc v i
  by_cases e : i = c
  · rw [if_pos e, if_pos e, if_pos rfl]; rfl
  · rw [if_neg e, if_neg e, if_neg e]
theorem Th.bk {Q : Nat → Nat → Prop} {m0 m m' : Mem} {v v' : VW} (h : Th Q m0 v m) (ha : Ag pBk m m') (hr : RepM v' m') : Th Q m0 v' m' := ⟨h.1.tr (ha.mono fun _ _ hp => Or.inr hp), h.2.1.bk ha, hr⟩
theorem m_bothB {m0 : Mem} (hT : Th pSc m0 v m) (hv : OKv v) (p q : Int32) : Ev pTop (Th pSc m0 (nx v 10)) (F_X6_bothBehind m p q) m (rich v p 10 + rich v q 10) := by
  have key : ∀ (r k fu : Nat) (x : Mem), k + r = 10 → r < fu → Th pSc m0 (nx v k) x → Ev pTop (Th pSc m0 (nx v 10)) (F_X6_bothBehind_2 fu x p q (nI k)) x (rich v p 10 + rich v q 10) := by
    intro r
    induction r with
    | zero =>
      intro k fu x hk hf hT
      cases fu with
      | zero => omega
      | succ fu =>
        have : k = 10 := by omega
        subst this
        unfold F_X6_bothBehind_2
        rw [if_pos (by decide)]
        refine Ev.bd (hT.run scI (m_rich hT.2.2 (hv.nx (by omega)) p)) fun x1 hT1 => Ev.bd (hT1.run scI (m_rich hT1.2.2 (hv.nx (by omega)) q)) fun x2 hT2 => ?_
        rw [nx_rich hv (by omega), nx_rich hv (by omega)]
        exact Ev.ret hT2
    | succ r ih =>
      intro k fu x hk hf hT
      cases fu with
      | zero => omega
      | succ fu =>
        unfold F_X6_bothBehind_2
        rw [if_neg (show ¬ (10 : Int32) ≤ nI k from nI_ge (b := 10) (by omega) (by omega)), nI_1]
        obtain ⟨w, hw⟩ := hT.pass scI hv (by omega)
        exact Ev.bd hw fun x2 hT2 => ih (k + 1) fu x2 (by omega) (by omega) hT2
  exact key 10 0 FU m (by omega) (hFU (by omega)) ⟨hT.1, hT.2.1, rm_nx0 hv hT.2.2⟩
def vtwo (v : VW) (p q : Int32) (a b : Nat) : VW := pay1 (pay1 v a q) b p
def cmS (v : VW) (p q : Int32) (k : Nat) (s : Int32 × Int32) : Int32 × Int32 := if hb (purse v p 0) (nI (k / 8)) = true then (if hb (purse v q 0) (nI (k % 8)) = true then (if rich (vtwo v p q (k / 8) (k % 8)) p 10 + rich (vtwo v p q (k / 8) (k % 8)) q 10 ≤ s.2 then s else (nI (10 * (k / 8) + k % 8), rich (vtwo v p q (k / 8) (k % 8)) p 10 + rich (vtwo v p q (k / 8) (k % 8)) q 10)) else s) else s
theorem dm8 : ∀ k, k < 64 → nI k / 8 = nI (k / 8) ∧ nI k - nI k / 8 * 8 = nI (k % 8) := by decide +kernel
theorem purse_hb (hn : vn v ≤ 8) (p : Int32) {i : Nat} (hi : i < 8) : hb (purse v p 0) (nI i) = (decide (i < vn v) && (decide (vc v i 5 = p) && whole v (vc v i) 0)) := by
  rw [purse_mk hn, mk_hb _ hn hi]
theorem m_change0 (h : RepM v m) (hv : OKv v) {p q : Int32} (hp : btw p 0 3 = true) (hq : btw q 0 3 = true) (wh : Int32) : Ev pSc TT (bnd (F_X6_purseOf m p) fun v17 m18 => bnd (F_X6_purseOf m18 q) fun v21 m22 => bnd (F_X6_laysAside m22) fun v25 m26 => bnd (F_X6_bothBehind m26 p q) fun v29 m30 => bnd (F_X6_laysBack m30) fun v33 m34 => F_X6_change_68 FU m34 p q wh v17 v21 (-1) v29 0) m (if wh = 0 then (fold (cmS v p q) 0 64 (-1, rich v p 10 + rich v q 10)).1 else (fold (cmS v p q) 0 64 (-1, rich v p 10 + rich v q 10)).2) := by
  have h8 := h.1
  refine Ev.bdM (m_purse h hv p) (fun _ _ hp => pSa.c hp) fun m _ h => Ev.bdM (m_purse h hv q) (fun _ _ hp => pSa.c hp) fun m _ h => ?_
  refine Ev.sc (Ev.bd (Th.beg scI h) fun x hT => Ev.bd (m_bothB hT hv p q) fun x1 hT1 => Ev.bd hT1.end_ fun x2 hx2 => ?_)
  refine Ev.loop (P := pTop) (Q := fun m' => Ag pSc m m') (σ := Int32 × Int32) (L := fun fu x s i => F_X6_change_68 fu x p q wh (purse v p 0) (purse v q 0) s.1 s.2 i) (n := 64) (st := cmS v p q) (ex := fun s => if wh = 0 then s.1 else s.2) (RR := fun _ x => Ag pSc m x ∧ Asd m x) (fun fu x s hx => ?_) (fun fu x s k hk hx w hw => ?_) 64 0 FU x2 (-1, rich v p 10 + rich v q 10) (by omega) (hFU (by omega)) ⟨hx2.1, hx2.2.1⟩
  · show Ev pTop _ (F_X6_change_68 (fu + 1) x p q wh (purse v p 0) (purse v q 0) s.1 s.2 (nI 64)) x (if wh = 0 then s.1 else s.2)
    unfold F_X6_change_68
    rw [if_pos (by decide)]
    by_cases hw : wh = 0
    · rw [if_pos hw, if_pos hw]; exact Ev.ret hx.1
    · rw [if_neg hw, if_neg hw]; exact Ev.ret hx.1
  · show Ev pTop _ (F_X6_change_68 (fu + 1) x p q wh (purse v p 0) (purse v q 0) s.1 s.2 (nI k)) x w
    unfold F_X6_change_68 F_X6_change_158
    rw [if_neg (show ¬ (64 : Int32) ≤ nI k from nI_ge (b := 64) hk (by omega))]
    simp only [nm, (dm8 k hk).2, hb_iff, nI_1]
    rw [(dm8 k hk).1]
    unfold cmS at hw
    by_cases b1 : hb (purse v p 0) (nI (k / 8)) = true
    · rw [if_pos b1] at hw ⊢
      by_cases b2 : hb (purse v q 0) (nI (k % 8)) = true
      · rw [if_pos b2] at hw ⊢
        have ha : k / 8 < vn v := by
          rw [purse_hb h8 p (by omega)] at b1; simp at b1; exact b1.1
        have hb : k % 8 < vn v := by
          rw [purse_hb h8 q (by omega)] at b2; simp at b2; exact b2.1
        have hx0 : Th pSc m v x := ⟨hx.1.mono fun _ _ hp => Or.inl hp, hx.2, h.ag hx.1⟩
        obtain ⟨y1, e1, a1, r1⟩ := m_pays hx0.2.2 ha q
        have T1 := hx0.bk a1 r1
        obtain ⟨y2, e2, a2, r2⟩ := m_pays (v := pay1 v (k / 8) q) r1 hb p
        have T2 := T1.bk a2 r2
        rw [e1, bnd_eq, e2, bnd_eq]
        refine Ev.step ((a1.tr a2).mono fun _ _ _ => trivial) (Ev.bd (m_bothB T2 ((hv.pay1 hq _ ha).pay1 hp _ hb) p q) fun y3 T3 => Ev.bd T3.end_ fun y4 hy4 => ?_)
        have hw := hw y4 ⟨hy4.1, hy4.2.1⟩
        unfold vtwo at hw
        rw [m10, nI_ad]
        by_cases hc : rich (pay1 (pay1 v (k / 8) q) (k % 8) p) p 10 + rich (pay1 (pay1 v (k / 8) q) (k % 8) p) q 10 ≤ s.2
        · rw [if_pos hc] at hw ⊢; exact hw
        · rw [if_neg hc] at hw ⊢; exact hw
      · rw [if_neg b2] at hw ⊢; exact hw x hx
    · rw [if_neg b1] at hw ⊢; exact hw x hx
end MC
