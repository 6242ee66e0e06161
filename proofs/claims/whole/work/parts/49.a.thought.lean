/-! days in thought -/
def upf (r : Nat → Int32) (f : Nat) (x : Int32) : Nat → Int32 := fun g => if g = f then x else r g
def upC (v : VW) (c : Nat) (r : Nat → Int32) : VW := (vn v, vd v, (fun i => if i = c then r else vc v i), vS v)
def nx (v : VW) (k : Nat) : VW := (vn v, vd v + nI k, (fun i => upf (vc v i) 4 (ag (vc v i) (nI k))), vS v)
theorem envC_up4 (r : Nat → Int32) (a age day : Int32) : envC (upf r 4 a) age day = envC r age day := rfl
theorem pT_up4 (S : Nat → (Int32 → Int32) → Int32) (r : Nat → Int32) (a age day : Int32) : pT S (upf r 4 a) age day = pT S r age day := by
  unfold pT; rw [envC_up4]; rfl
theorem pG_up4 (S : Nat → (Int32 → Int32) → Int32) (r : Nat → Int32) (a age day : Int32) : pG S (upf r 4 a) age day = pG S r age day := by
  unfold pG; rw [envC_up4]; rfl
theorem pO_up4 (S : Nat → (Int32 → Int32) → Int32) (r : Nat → Int32) (a age day : Int32) : pO S (upf r 4 a) age day = pO S r age day := by
  unfold pO; rw [envC_up4]; rfl
theorem pW_up4 (S : Nat → (Int32 → Int32) → Int32) (r : Nat → Int32) (a age day : Int32) : pW S (upf r 4 a) age day = pW S r age day := by
  unfold pW; rw [pT_up4, pG_up4, pO_up4]; rfl
theorem ag_rng {r : Nat → Int32} (h : CB r) {k : Nat} (hk : k < 1000) : ∃ a, a ≤ 999 ∧ ag r (nI k) = nI a := by
  obtain ⟨a, ha, e⟩ := h.age
  rw [ag_nat e ha hk]
  refine ⟨_, ?_, rfl⟩
  split <;> omega
theorem ag_up0 {r : Nat → Int32} {a : Nat} (ha : a ≤ 999) : ag (upf r 4 (nI a)) 0 = nI a := by
  have e : (upf r 4 (nI a)) 4 = nI a := rfl
  rw [show (0 : Int32) = nI 0 from rfl, ag_nat e ha (by decide)]
  congr 1
  split <;> omega
theorem ag_up1 {r : Nat → Int32} (h : CB r) {k : Nat} (hk : k < 900) : ag (upf r 4 (ag r (nI k))) (nI 1) = ag r (nI (k + 1)) := by
  obtain ⟨a, ha, e⟩ := h.age
  rw [ag_nat e ha (by omega), ag_nat e ha (by omega)]
  generalize hx : (if a + k < 999 then a + k else 999) = x
  have hx9 : x ≤ 999 := by rw [← hx]; split <;> omega
  have e2 : (upf r 4 (nI x)) 4 = nI x := rfl
  rw [ag_nat e2 hx9 (by decide)]
  congr 1
  rw [← hx]
  split <;> split <;> (try split) <;> omega
theorem nI_rng {a lo hi : Nat} (h1 : lo ≤ a) (h2 : a ≤ hi) (h3 : hi < 1000) : btw (nI a) lo hi = true := by
  rw [btw_iff, nI_toInt (by omega)]; omega
theorem CB.up4 {r : Nat → Int32} (h : CB r) {a : Nat} (ha : a ≤ 999) : CB (upf r 4 (nI a)) :=
  ⟨h.1, h.2.1, h.2.2.1, h.2.2.2.1, nI_rng (lo := 0) (hi := 999) (by omega) ha (by decide), h.2.2.2.2.2⟩
theorem OKv.nx {v : VW} (h : OKv v) {k : Nat} (hk : k < 1000) : OKv (nx v k) := fun i hi => by
  obtain ⟨a, ha, e⟩ := ag_rng (h i hi) hk
  show CB (upf (vc v i) 4 (ag (vc v i) (nI k)))
  rw [e]; exact (h i hi).up4 ha
theorem nx_whole {v : VW} {i k : Nat} (h : CB (vc v i)) (hk : k < 1000) : whole (nx v k) (vc (nx v k) i) 0 = whole v (vc v i) (nI k) := by
  obtain ⟨a, ha, e⟩ := ag_rng h hk
  show decide (¬ pT (vS v) (upf (vc v i) 4 (ag (vc v i) (nI k))) (ag (upf (vc v i) 4 (ag (vc v i) (nI k))) 0) (vd v + nI k + 0) ≤ ag (upf (vc v i) 4 (ag (vc v i) (nI k))) 0) = _
  rw [e, ag_up0 ha, pT_up4, Int32.add_zero]
  unfold whole
  rw [e]
theorem nx_wor {v : VW} {i k : Nat} (h : CB (vc v i)) (hk : k < 1000) : wor (nx v k) (vc (nx v k) i) 0 = wor v (vc v i) (nI k) := by
  obtain ⟨a, ha, e⟩ := ag_rng h hk
  show pW (vS v) (upf (vc v i) 4 (ag (vc v i) (nI k))) (ag (upf (vc v i) 4 (ag (vc v i) (nI k))) 0) (vd v + nI k + 0) = _
  rw [e, ag_up0 ha, pW_up4, Int32.add_zero]
  unfold wor
  rw [e]
theorem nx_purse {v : VW} (h : OKv v) {k : Nat} (hk : k < 1000) (p : Int32) : purse (nx v k) p 0 = purse v p (nI k) := by
  unfold purse
  refine fold_congr (n := vn v) (fun i s hi => ?_) (vn v) 0 0 (by omega)
  rw [nx_whole (h i hi) hk]; rfl
theorem nx_rich {v : VW} (h : OKv v) {k : Nat} (hk : k < 1000) (p : Int32) : rich (nx v k) p 0 = rich v p (nI k) := by
  unfold rich
  refine fold_congr (n := vn v) (fun i s hi => ?_) (vn v) 0 0 (by omega)
  rw [nx_wor (h i hi) hk]; rfl
theorem RepM.congr {v v' : VW} {m : Mem} (h : RepM v m) (h1 : vn v' = vn v) (h2 : vd v' = vd v) (h3 : ∀ i, i < vn v → vc v' i = vc v i) (h4 : vS v' = vS v) : RepM v' m := by
  obtain ⟨a, b, c, d, j, e1, e2, e3⟩ := h
  exact ⟨by rw [h1]; exact a, by rw [h1]; exact b, by rw [h2]; exact c, fun i hi => by rw [h3 i (by rw [← h1]; exact hi)]; exact d i (by rw [← h1]; exact hi), j, e1, e2, by rw [h4]; exact e3⟩
theorem rm_nx1 {v : VW} {m : Mem} {k : Nat} (hv : OKv v) (hk : k < 900) (h : RepM (nx (nx v k) 1) m) : RepM (nx v (k + 1)) m :=
  h.congr rfl (by show vd v + nI (k + 1) = vd v + nI k + nI 1; rw [Int32.add_assoc, nI_ad]) (fun i hi => by
    show upf (vc v i) 4 (ag (vc v i) (nI (k + 1))) = upf (upf (vc v i) 4 (ag (vc v i) (nI k))) 4 (ag (upf (vc v i) 4 (ag (vc v i) (nI k))) (nI 1))
    rw [ag_up1 (hv i hi) hk]
    funext g
    unfold upf
    split <;> rfl) rfl
theorem rm_nx0 {v : VW} {m : Mem} (hv : OKv v) (h : RepM v m) : RepM (nx v 0) m :=
  h.congr rfl (Int32.add_zero _) (fun i hi => by
    show upf (vc v i) 4 (ag (vc v i) (nI 0)) = vc v i
    rw [show ag (vc v i) (nI 0) = vc v i 4 from ag0 (hv i hi)]
    funext g
    unfold upf
    split
    · rename_i e; rw [e]
    · rfl) rfl
/-- a coin of the reference is laid anew -/
theorem RepM.w45 {v : VW} {m : Mem} (h : RepM v m) {c f : Nat} (hf : 1 ≤ f ∧ f ≤ 5) (x : Int32) : RepM (upC v c (upf (vc v c) f x)) (wD m 45 (5 * c + (f - 1)) x) := by
  obtain ⟨a, b, cc, d, j, e1, e2, e3⟩ := h
  refine ⟨a, by rw [mD_k (by decide)]; exact b, by rw [mD_k (by decide)]; exact cc, fun i hi => ?_, j, e1, by rw [mD_k (by decide)]; exact e2, e3.ag (Ag.d (P := fun k _ => k = 45) rfl) (fun _ => by decide) (fun _ => by decide)⟩
  have hd := d i hi
  show _ = if i = c then upf (vc v c) f x else vc v i
  funext g
  by_cases ei : i = c
  · subst ei
    rw [if_pos rfl, ← hd]
    unfold upf mrow
    rw [mD_k (by decide)]
    by_cases eg : g = f
    · subst eg
      rw [if_pos rfl, if_neg (by omega), if_pos (by omega), mD_s]
    · rw [if_neg eg]
      by_cases g0 : g = 0
      · rw [if_pos g0, if_pos g0]
      · rw [if_neg g0, if_neg g0, mD_i (by omega)]
  · rw [if_neg ei, ← hd]
    unfold mrow
    rw [mD_k (by decide)]
    by_cases g6 : g < 6
    · rw [mD_i (by omega)]
    · rw [if_neg g6, if_neg g6]
theorem RepM.w44 {v : VW} {m : Mem} (h : RepM v m) {c : Nat} (x : Int32) : RepM (upC v c (upf (vc v c) 0 x)) (wD m 44 c x) := by
  obtain ⟨a, b, cc, d, j, e1, e2, e3⟩ := h
  refine ⟨a, by rw [mD_k (by decide)]; exact b, by rw [mD_k (by decide)]; exact cc, fun i hi => ?_, j, e1, by rw [mD_k (by decide)]; exact e2, e3.ag (Ag.d (P := fun k _ => k = 44) rfl) (fun _ => by decide) (fun _ => by decide)⟩
  have hd := d i hi
  show _ = if i = c then upf (vc v c) 0 x else vc v i
  funext g
  by_cases ei : i = c
  · subst ei
    rw [if_pos rfl, ← hd]
    unfold upf mrow
    rw [mD_k (k' := 45) (by decide)]
    by_cases g0 : g = 0
    · rw [if_pos g0, if_pos g0, mD_s]
    · rw [if_neg g0, if_neg g0, if_neg g0]
  · rw [if_neg ei, ← hd]
    unfold mrow
    rw [mD_k (k' := 45) (by decide), mD_i (by omega)]
theorem RepM.w7 {v : VW} {m : Mem} (h : RepM v m) (x : Int32) : RepM (vn v, x, vc v, vS v) (wD m 40 7 x) := by
  obtain ⟨a, b, cc, d, j, e1, e2, e3⟩ := h
  exact ⟨a, by rw [mD_i (by decide)]; exact b, mD_s, fun i hi => by rw [mrow_ag (Ag.d (P := fun k _ => k = 40) rfl) (fun _ => by decide) (fun _ => by decide)]; exact d i hi, j, e1, by rw [mD_i (by decide)]; exact e2, e3.ag (Ag.d (P := fun k _ => k = 40) rfl) (fun _ => by decide) (fun _ => by decide)⟩
def tcnt (v : VW) : Int32 := fold (fun i s => if whole v (vc v i) 0 = true ∧ ¬ whole v (vc v i) 1 = true then s + 1 else s) 0 (vn v) 0
def pPs (k i : Nat) : Prop := pSa k i ∨ (k = 45 ∧ i % 5 = 3 ∧ i < 40) ∨ (k = 40 ∧ i = 7)
theorem pSa.p {k i : Nat} (h : pSa k i) : pPs k i := Or.inl h
theorem and_bit : ∀ i, i < 8 → ∀ k, k < 256 → nI k &&& (bit (nI i) ^^^ -1) = nI (k &&& (255 - 2 ^ i)) := by decide +kernel
theorem mask_bit : ∀ i, i < 8 → ∀ j, j < 8 → Nat.testBit (255 - 2 ^ i) j = !decide (i = j) := by decide
theorem mk_and (b a : Nat → Bool) {n : Nat} (hn : n ≤ 8) : ∀ r, r ≤ n → fold (fun i s => if a i = true then s &&& (bit (nI i) ^^^ -1) else s) 0 r (nI (mk b n)) = nI (mk (fun i => b i && !(decide (i < r) && a i)) n)
  | 0, _ => by
    show nI (mk b n) = _
    congr 1
    exact mk_congr n (fun i _ => by simp)
  | r + 1, h => by
    rw [fold_snoc, mk_and b a hn r (by omega), Nat.zero_add]
    by_cases ha : a r = true
    · rw [if_pos ha, and_bit r (by omega) _ (mk_256 _ hn)]
      congr 1
      apply Nat.eq_of_testBit_eq
      intro j
      rw [Nat.testBit_and, mk_bit, mk_bit]
      by_cases hj : j < n
      · rw [mask_bit r (by omega) j (by omega)]
        by_cases e : r = j
        · subst e; simp [ha]
        · have e2 : (decide (j < r + 1)) = decide (j < r) := by simp; omega
          rw [e2]; simp [e]
      · simp [hj]
    · rw [if_neg ha]
      congr 1
      apply mk_congr
      intro i _
      by_cases e : i = r
      · subst e; simp [ha]
      · have e2 : (decide (i < r + 1)) = decide (i < r) := by simp; omega
        rw [e2]
section TH
variable {v : VW} {m : Mem}
theorem m_ps93 (h : RepM v m) (hk : OKv v) (s0 : Nat) (hs0 : s0 < 256) (w : Int32) (hw : ∃ j, j < 256 ∧ fold (fun i s => if whole v (vc v i) 0 = true then s &&& (bit (nI i) ^^^ -1) else s) 0 (vn v) (nI s0) = nI j ∧ bc (nI j) = w) : Ev pSa (RepM v) (F_X6_passes_93 FU m (nI s0) 0) m w := by
  obtain ⟨j, hj, e1, e2⟩ := hw
  subst e2
  have key2 : ∀ (r i fu : Nat) (m : Mem) (s : Int32), i + r = vn v → r < fu → RepM v m → (fold (fun i s => if whole v (vc v i) 0 = true then s &&& (bit (nI i) ^^^ -1) else s) i r s = nI j) → Ev pSa (RepM v) (F_X6_passes_93 fu m s (nI i)) m (bc (nI j)) := by

    intro r
    induction r with
    | zero =>
      intro i fu m s hi hf h hs
      cases fu with
      | zero => omega
      | succ fu =>
        have : i = vn v := by omega
        subst this
        have hs' : s = nI j := hs
        subst hs'
        unfold F_X6_passes_93
        rw [if_pos h.ex, m_bits m hj, bnd_eq]
        exact Ev.ret h
    | succ r ih =>
      intro i fu m s hi hf h hs
      cases fu with
      | zero => omega
      | succ fu =>
        have hi' : i < vn v := by omega
        unfold F_X6_passes_93 F_X6_passes_119
        simp only [nI_1, nm, Int32.and_neg_one]
        rw [if_neg (h.hd hi')]
        refine Ev.bd (h.lift (m_isWhole h hk hi')) fun m' h' => ?_
        simp only [bz0]
        have hs2 : fold (fun i s => if whole v (vc v i) 0 = true then s &&& (bit (nI i) ^^^ -1) else s) (i + 1) r (if whole v (vc v i) 0 = true then s &&& (bit (nI i) ^^^ -1) else s) = nI j := hs
        cases hwh : whole v (vc v i) 0 with
        | false =>
          rw [hwh] at hs2
          rw [if_pos rfl]
          exact ih (i + 1) fu m' _ (by omega) (by omega) h' hs2
        | true =>
          rw [hwh] at hs2
          rw [if_neg (by decide)]
          exact ih (i + 1) fu m' _ (by omega) (by omega) h' hs2
  exact key2 (vn v) 0 FU m (nI s0) (by omega) (hFU (by have := h.1; omega)) h e1
def nxi (v : VW) (k : Nat) : VW := (vn v, vd v, (fun i => if i < k then upf (vc v i) 4 (ag (vc v i) (nI 1)) else vc v i), vS v)
theorem cl_age {a : Nat} (ha : a ≤ 999) : cl (nI a + 1) 0 999 = nI (if a + 1 < 999 then a + 1 else 999) := by
  rw [nI_1]
  unfold cl
  rw [if_neg (nI_pos (by omega))]
  by_cases h : a + 1 < 999
  · rw [if_pos h, if_neg (show ¬ (999 : Int32) < nI (a + 1) from nI_nlt (a := 999) (by omega) (by omega))]
  · rw [if_neg h]
    by_cases h2 : a = 999
    · subst h2; rfl
    · have : a = 998 := by omega
      subst this; rfl
theorem m_ps38 (h : RepM v m) (hk : OKv v) (s0 : Nat) (hs0 : s0 < 256) (w : Int32) (hw : ∃ j, j < 256 ∧ fold (fun i s => if whole (nx v 1) (vc (nx v 1) i) 0 = true then s &&& (bit (nI i) ^^^ -1) else s) 0 (vn v) (nI s0) = nI j ∧ bc (nI j) = w) : Ev pPs (RepM (nx v 1)) (F_X6_passes_38 FU m (nI s0) 0) m w := by
  have key : ∀ (r i fu : Nat) (m : Mem), i + r = vn v → r < fu → RepM (nxi v i) m → Ev pPs (RepM (nx v 1)) (F_X6_passes_38 fu m (nI s0) (nI i)) m w := by
    intro r
    induction r with
    | zero =>
      intro i fu m hi hf h
      cases fu with
      | zero => omega
      | succ fu =>
        have : i = vn v := by omega
        subst this
        unfold F_X6_passes_38
        rw [if_pos (show mD m 40 10 ≤ nI (vn v) from h.ex)]
        refine Ev.namW (Or.inr (Or.inr ⟨rfl, rfl⟩)) ?_
        rw [h.2.2.1]
        have h2 : RepM (nx v 1) (wD m 40 7 (vd v + 1)) := (h.w7 (vd v + 1)).congr rfl rfl (fun i hi => by
          show upf (vc v i) 4 (ag (vc v i) (nI 1)) = if i < vn v then upf (vc v i) 4 (ag (vc v i) (nI 1)) else vc v i
          rw [if_pos (show i < vn v from hi)]) rfl
        exact (m_ps93 h2 (hk.nx (by decide)) s0 hs0 w hw).mono (fun _ _ hp => pSa.p hp)
    | succ r ih =>
      intro i fu m hi hf h
      cases fu with
      | zero => omega
      | succ fu =>
        have hi' : i < vn v := by omega
        have h8 := h.1
        have h8' : vn v ≤ 8 := h8
        unfold F_X6_passes_38
        have hr : vc (nxi v i) i = vc v i := by show (if i < i then _ else vc v i) = _; rw [if_neg (by omega)]
        obtain ⟨a, ha, ea⟩ := (hk i hi').age
        rw [if_neg (h.hd hi'), m5, nI_3, gIf_pos (vp_n (show 5 * i + 3 < 40 by omega) (by decide)), nI_c (by omega), h.k4 hi', hr, ea, m_within, bnd_eq, cl_age ha, gIf_pos (vp_n (show 5 * i + 3 < 40 by omega) (by decide)), nI_1]
        refine Ev.namW (Or.inr (Or.inl ⟨rfl, by omega, by omega⟩)) ?_
        refine ih (i + 1) fu _ (by omega) (by omega) ?_
        refine (h.w45 (c := i) (f := 4) (by omega) (nI (if a + 1 < 999 then a + 1 else 999))).congr rfl rfl (fun c hc => ?_) rfl
        show (if c < i + 1 then upf (vc v c) 4 (ag (vc v c) (nI 1)) else vc v c) = if c = i then upf (vc (nxi v i) i) 4 (nI (if a + 1 < 999 then a + 1 else 999)) else vc (nxi v i) c
        by_cases e : c = i
        · subst e
          rw [if_pos (by omega), if_pos rfl, hr, ag_nat ea ha (by decide)]
        · rw [if_neg e]
          show _ = if c < i then _ else _
          by_cases l : c < i
          · rw [if_pos l, if_pos (by omega)]
          · rw [if_neg l, if_neg (by omega)]
  exact key (vn v) 0 FU m (by omega) (hFU (by have := h.1; omega)) (h.congr rfl rfl (fun i _ => show (if i < 0 then upf (vc v i) 4 (ag (vc v i) (nI 1)) else vc v i) = vc v i from if_neg (Nat.not_lt_zero i)) rfl)
theorem m_passes (h : RepM v m) (hk : OKv v) : Ev pPs (RepM (nx v 1)) (F_X6_passes m) m (tcnt v) := by
  have h8 := h.1
  have fin : ∃ j, j < 256 ∧ fold (fun i s => if whole (nx v 1) (vc (nx v 1) i) 0 = true then s &&& (bit (nI i) ^^^ -1) else s) 0 (vn v) (nI (mk (fun i => whole v (vc v i) 0) (vn v))) = nI j ∧ bc (nI j) = tcnt v := by
    refine ⟨_, mk_256 (fun i => whole v (vc v i) 0 && !(decide (i < vn v) && whole (nx v 1) (vc (nx v 1) i) 0)) h8, mk_and (fun i => whole v (vc v i) 0) (fun i => whole (nx v 1) (vc (nx v 1) i) 0) h8 (vn v) (Nat.le_refl _), ?_⟩
    rw [mk_bc _ h8, ← cn_fold]
    unfold tcnt
    refine fold_congr (n := vn v) (fun i s hi => ?_) (vn v) 0 0 (by omega)
    rw [nx_whole (hk i hi) (by decide), show (nI 1) = 1 from rfl]
    simp [hi]
  unfold F_X6_passes
  have key : ∀ (r i fu : Nat) (m : Mem) (s : Int32), i + r = vn v → r < fu → RepM v m → fold (fun i s => if whole v (vc v i) 0 = true then s + bit (nI i) else s) i r s = nI (mk (fun i => whole v (vc v i) 0) (vn v)) → Ev pPs (RepM (nx v 1)) (F_X6_passes_4 fu m s (nI i)) m (tcnt v) := by
    intro r
    induction r with
    | zero =>
      intro i fu m s hi hf h hs
      cases fu with
      | zero => omega
      | succ fu =>
        have : i = vn v := by omega
        subst this
        have hs' : s = nI (mk (fun i => whole v (vc v i) 0) (vn v)) := hs
        subst hs'
        unfold F_X6_passes_4
        rw [if_pos h.ex]
        exact m_ps38 h hk _ (mk_256 _ h8) _ fin
    | succ r ih =>
      intro i fu m s hi hf h hs
      cases fu with
      | zero => omega
      | succ fu =>
        have hi' : i < vn v := by omega
        unfold F_X6_passes_4 F_X6_passes_28
        simp only [nI_1, nm, Int32.add_zero]
        rw [if_neg (h.hd hi')]
        refine Ev.bdM (h.lift (m_isWhole h hk hi')) (fun _ _ hp => pSa.p hp) fun m' _ h' => ?_
        simp only [bz0]
        have hs2 : fold (fun i s => if whole v (vc v i) 0 = true then s + bit (nI i) else s) (i + 1) r (if whole v (vc v i) 0 = true then s + bit (nI i) else s) = nI (mk (fun i => whole v (vc v i) 0) (vn v)) := hs
        cases hwh : whole v (vc v i) 0 with
        | false =>
          rw [hwh] at hs2
          rw [if_pos rfl]
          exact ih (i + 1) fu m' _ (by omega) (by omega) h' hs2
        | true =>
          rw [hwh] at hs2
          rw [if_neg (by decide)]
          exact ih (i + 1) fu m' _ (by omega) (by omega) h' hs2
  exact key (vn v) 0 FU m 0 (by omega) (hFU (by omega)) h (mk_add _ _ h8)
end TH
