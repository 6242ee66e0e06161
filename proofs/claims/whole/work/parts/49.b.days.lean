/-! what is laid aside and back -/
def pTop (_ _ : Nat) : Prop := True
def pAs (k i : Nat) : Prop := k = 46 ∨ k = 47 ∨ (k = 40 ∧ i = 28)
def pBk (k i : Nat) : Prop := (k = 45 ∧ (i % 5 = 3 ∨ i % 5 = 4) ∧ i < 40) ∨ (k = 40 ∧ i = 7)
def Asd (m0 m : Mem) : Prop := (∀ c, c < 8 → mD m 46 c = mD m0 45 (5 * c + 3) ∧ mD m 47 c = mD m0 45 (5 * c + 4)) ∧ mD m 40 28 = mD m0 40 7
def Bk (m0 m : Mem) : Prop := (∀ c, c < 8 → mD m 45 (5 * c + 3) = mD m0 45 (5 * c + 3) ∧ mD m 45 (5 * c + 4) = mD m0 45 (5 * c + 4)) ∧ mD m 40 7 = mD m0 40 7
theorem Ev.top {α : Type} {P : Nat → Nat → Prop} {R : Mem → Prop} {f : Option (α × Mem)} {m : Mem} {w : α} (h : Ev P R f m w) : Ev pTop R f m w := h.mono fun _ _ _ => trivial
theorem m_aside (m : Mem) : Ev pAs (Asd m) (F_X6_laysAside m) m () := by
  unfold F_X6_laysAside
  refine Ev.loop (σ := Unit) (P := pAs) (Q := Asd m) (L := fun fu m _ i => F_X6_laysAside_2 fu m i) (n := 8) (st := fun _ s => s) (ex := id) (RR := fun i x => (∀ c, c < i → mD x 46 c = mD m 45 (5 * c + 3) ∧ mD x 47 c = mD m 45 (5 * c + 4)) ∧ (∀ j, mD x 45 j = mD m 45 j) ∧ mD x 40 7 = mD m 40 7) (fun fu x s h => ?_) (fun fu x s i hi h w hw => ?_) 8 0 FU m () (by omega) (hFU (by omega)) ⟨fun c hc => absurd hc (Nat.not_lt_zero c), fun _ => rfl, rfl⟩
  · show Ev pAs (Asd m) (F_X6_laysAside_2 (fu + 1) x (nI 8)) x ()
    unfold F_X6_laysAside_2
    rw [if_pos (by decide)]
    refine Ev.namW (Or.inr (Or.inr ⟨rfl, rfl⟩)) (Ev.ret ⟨fun c hc => ?_, ?_⟩)
    · rw [mD_k (by decide), mD_k (by decide)]; exact h.1 c hc
    · rw [mD_s]; exact h.2.2
  · show Ev pAs (Asd m) (F_X6_laysAside_2 (fu + 1) x (nI i)) x w
    unfold F_X6_laysAside_2
    rw [if_neg (show ¬ (8 : Int32) ≤ nI i from nI_ge (b := 8) hi (by omega)), m5, nI_3, nI_4, nI_1, gIf_pos (vp_n (show 5 * i + 3 < 40 by omega) (by decide)), gIf_pos (vp_n hi (by decide)), nI_c (n := i) (by omega), nI_c (n := 5 * i + 3) (by omega)]
    refine Ev.namW (Or.inl rfl) ?_
    rw [gIf_pos (vp_n (show 5 * i + 4 < 40 by omega) (by decide)), gIf_pos (vp_n hi (by decide)), nI_c (n := 5 * i + 4) (by omega), mD_k (by decide), h.2.1, h.2.1]
    refine Ev.namW (Or.inr (Or.inl rfl)) (hw _ ⟨fun c hc => ?_, fun j => ?_, ?_⟩)
    · by_cases e : c = i
      · subst e; rw [mD_k (by decide), mD_s, mD_s]; exact ⟨rfl, rfl⟩
      · rw [mD_k (by decide), mD_i e, mD_i e, mD_k (by decide)]; exact h.1 c (by omega)
    · rw [mD_k (by decide), mD_k (by decide)]; exact h.2.1 j
    · rw [mD_k (by decide), mD_k (by decide)]; exact h.2.2
theorem Asd.bk {m0 m m' : Mem} (h : Asd m0 m) (ha : Ag pBk m m') : Asd m0 m' := by
  refine ⟨fun c hc => ?_, ?_⟩
  · rw [ha.2 46 c (by unfold pBk; omega), ha.2 47 c (by unfold pBk; omega)]; exact h.1 c hc
  · rw [ha.2 40 28 (by unfold pBk; omega)]; exact h.2
theorem m_back {m0 m : Mem} (h : Asd m0 m) : Ev pBk (Bk m0) (F_X6_laysBack m) m () := by
  unfold F_X6_laysBack
  refine Ev.loop (σ := Unit) (P := pBk) (Q := Bk m0) (L := fun fu m _ i => F_X6_laysBack_2 fu m i) (n := 8) (st := fun _ s => s) (ex := id) (RR := fun i x => Asd m0 x ∧ ∀ c, c < i → mD x 45 (5 * c + 3) = mD m0 45 (5 * c + 3) ∧ mD x 45 (5 * c + 4) = mD m0 45 (5 * c + 4)) (fun fu x s h => ?_) (fun fu x s i hi h w hw => ?_) 8 0 FU m () (by omega) (hFU (by omega)) ⟨h, fun c hc => absurd hc (Nat.not_lt_zero c)⟩
  · show Ev pBk (Bk m0) (F_X6_laysBack_2 (fu + 1) x (nI 8)) x ()
    unfold F_X6_laysBack_2
    rw [if_pos (by decide), h.1.2]
    refine Ev.namW (Or.inr ⟨rfl, rfl⟩) (Ev.ret ⟨fun c hc => ?_, mD_s⟩)
    rw [mD_k (by decide), mD_k (by decide)]; exact h.2 c hc
  · show Ev pBk (Bk m0) (F_X6_laysBack_2 (fu + 1) x (nI i)) x w
    unfold F_X6_laysBack_2
    rw [if_neg (show ¬ (8 : Int32) ≤ nI i from nI_ge (b := 8) hi (by omega)), m5, nI_3, nI_4, nI_1, gIf_pos (vp_n hi (by decide)), gIf_pos (vp_n (show 5 * i + 3 < 40 by omega) (by decide)), nI_c (n := i) (by omega), nI_c (n := 5 * i + 3) (by omega), (h.1.1 i hi).1]
    have q1 : pBk 45 (5 * i + 3) := Or.inl ⟨rfl, by omega, by omega⟩
    have q2 : pBk 45 (5 * i + 4) := Or.inl ⟨rfl, by omega, by omega⟩
    refine Ev.namW q1 ?_
    rw [gIf_pos (vp_n hi (by decide)), gIf_pos (vp_n (show 5 * i + 4 < 40 by omega) (by decide)), nI_c (n := 5 * i + 4) (by omega), mD_k (by decide), (h.1.1 i hi).2]
    refine Ev.namW q2 (hw _ ⟨(h.1.bk (Ag.d q1)).bk (Ag.d q2), fun c hc => ?_⟩)
    by_cases e : c = i
    · subst e; rw [mD_i (by omega), mD_s, mD_s]; exact ⟨rfl, rfl⟩
    · rw [mD_i (by omega), mD_i (by omega), mD_i (by omega), mD_i (by omega)]; exact h.2 c (by omega)
theorem Bk.ag {Q : Nat → Nat → Prop} {m0 m m' : Mem} (h : Ag (fun k i => Q k i ∨ pBk k i) m0 m) (h2 : Ag pBk m m') (h3 : Bk m0 m') : Ag Q m0 m' := by
  refine ⟨h.1.tr h2.1, fun k i hq => ?_⟩
  by_cases hb : pBk k i
  · rcases hb with ⟨rfl, h4, h5⟩ | ⟨rfl, rfl⟩
    · rcases h4 with h4 | h4
      · have := (h3.1 (i / 5) (by omega)).1
        rw [show 5 * (i / 5) + 3 = i by omega] at this; exact this
      · have := (h3.1 (i / 5) (by omega)).2
        rw [show 5 * (i / 5) + 4 = i by omega] at this; exact this
    · exact h3.2
  · rw [h2.2 k i hb, h.2 k i (by rintro (z | z); exact hq z; exact hb z)]
/-- in thought: what was, what is written since, the valley as it would be; Q: what else may be written -/
def Th (Q : Nat → Nat → Prop) (m0 : Mem) (v : VW) (m : Mem) : Prop := Ag (fun k i => Q k i ∨ pBk k i) m0 m ∧ Asd m0 m ∧ RepM v m
theorem pAs.c {k i : Nat} (h : pAs k i) : pSc k i := by
  rcases h with h | h | h
  · exact Or.inr (Or.inl h)
  · exact Or.inr (Or.inr (Or.inl h))
  · exact Or.inl ⟨h.1, Or.inr h.2⟩
section TB
variable {Q : Nat → Nat → Prop} {m0 m m' : Mem} {v v' : VW}
theorem Th.sa (hq : ∀ k i, pSc k i → Q k i) (h : Th Q m0 v m) (ha : Ag pSa m m') : Th Q m0 v m' := by
  obtain ⟨h1, h2, h3⟩ := h
  refine ⟨h1.tr (ha.mono fun k i hp => Or.inl (hq k i (pSa.c hp))), ⟨fun c hc => ?_, ?_⟩, h3.aga ha⟩
  · rw [ha.2 46 c (by unfold pSa; omega), ha.2 47 c (by unfold pSa; omega)]; exact h2.1 c hc
  · rw [ha.2 40 28 (by unfold pSa; omega)]; exact h2.2
theorem Th.ps (hq : ∀ k i, pSc k i → Q k i) (h : Th Q m0 v m) (ha : Ag pPs m m') (hr : RepM v' m') : Th Q m0 v' m' := by
  obtain ⟨h1, h2, h3⟩ := h
  refine ⟨h1.tr (ha.mono fun k i hp => ?_), ⟨fun c hc => ?_, ?_⟩, hr⟩
  · rcases hp with hp | ⟨e1, e2, e3⟩ | hp
    · exact Or.inl (hq k i (pSa.c hp))
    · exact Or.inr (Or.inl ⟨e1, Or.inl e2, e3⟩)
    · exact Or.inr (Or.inr hp)
  · rw [ha.2 46 c (by unfold pPs pSa; omega), ha.2 47 c (by unfold pPs pSa; omega)]; exact h2.1 c hc
  · rw [ha.2 40 28 (by unfold pPs pSa; omega)]; exact h2.2
theorem Th.beg (hq : ∀ k i, pSc k i → Q k i) (h : RepM v m0) : Ev pTop (Th Q m0 v) (F_X6_laysAside m0) m0 () := by
  obtain ⟨m', e, ha, hA⟩ := m_aside m0
  exact ⟨m', e, ha.mono fun _ _ _ => trivial, ha.mono fun k i hp => Or.inl (hq k i (pAs.c hp)), hA, h.ag (ha.mono fun _ _ hp => pAs.c hp)⟩
theorem Th.end_ (h : Th Q m0 v m) : Ev pTop (fun m' => Ag Q m0 m' ∧ Asd m0 m' ∧ Ag pBk m m') (F_X6_laysBack m) m () := by
  obtain ⟨m', e, ha, hb⟩ := m_back h.2.1
  exact ⟨m', e, ha.mono fun _ _ _ => trivial, Bk.ag h.1 ha hb, h.2.1.bk ha, ha⟩
theorem Th.pass (hq : ∀ k i, pSc k i → Q k i) (hv : OKv v) {k : Nat} (hk : k < 900) (h : Th Q m0 (nx v k) m) : ∃ w, Ev pTop (Th Q m0 (nx v (k + 1))) (F_X6_passes m) m w := by
  obtain ⟨m', e, ha, hr⟩ := m_passes h.2.2 (hv.nx (by omega))
  exact ⟨_, m', e, ha.mono fun _ _ _ => trivial, h.ps hq ha (rm_nx1 hv hk hr)⟩
theorem Th.run {α : Type} {f : Option (α × Mem)} {w : α} (hq : ∀ k i, pSc k i → Q k i) (h : Th Q m0 v m) (e : Ev pSa (RepM v) f m w) : Ev pTop (Th Q m0 v) f m w := by
  obtain ⟨m', e1, ha, hr⟩ := e
  exact ⟨m', e1, ha.mono fun _ _ _ => trivial, h.sa hq ha⟩
theorem Ev.sc {α : Type} {f : Option (α × Mem)} {w : α} (h : Ev pTop (fun m' => Ag Q m m') f m w) : Ev Q TT f m w := by
  obtain ⟨m', e, -, h2⟩ := h
  exact ⟨m', e, h2, trivial⟩
end TB
theorem scI : ∀ k i, pSc k i → pSc k i := fun _ _ h => h
section TG
variable {v : VW} {m : Mem}
theorem m_gone (h : RepM v m) (hv : OKv v) (p : Int32) : Ev pSc TT (F_X6_goneOf m p) m (gone v p) := by
  have key : ∀ (r k fu : Nat) (x : Mem), k + r = 41 → r < fu → Th pSc m (nx v k) x → Ev pTop (fun m' => Ag pSc m m') (F_X6_goneOf_6 fu x p (nI k)) x (goneF v p r k) := by
    intro r
    induction r with
    | zero =>
      intro k fu x hk hf hT
      cases fu with
      | zero => omega
      | succ fu =>
        have : k = 41 := by omega
        subst this
        unfold F_X6_goneOf_6 F_X6_goneOf_31 goneF
        rw [if_pos (by decide)]
        refine Ev.bd hT.end_ fun x' hx' => ?_
        rw [if_neg (by decide)]; exact Ev.ret hx'.1
    | succ r ih =>
      intro k fu x hk hf hT
      cases fu with
      | zero => omega
      | succ fu =>
        unfold F_X6_goneOf_6 F_X6_goneOf_31 goneF
        rw [if_neg (show ¬ (40 : Int32) < nI k from nI_nlt (a := 40) (by omega) (by omega))]
        refine Ev.bd (hT.run scI (m_purse hT.2.2 (hv.nx (by omega)) p)) fun x1 hT1 => ?_
        rw [nx_purse hv (by omega)]
        by_cases h0 : purse v p (nI k) = 0
        · rw [if_pos h0, if_pos h0]
          refine Ev.bd hT1.end_ fun x' hx' => ?_
          rw [if_pos (show nI k ≤ 40 from nI_le (b := 40) (by omega) (by omega))]; exact Ev.ret hx'.1
        · rw [if_neg h0, if_neg h0]
          obtain ⟨w, hw⟩ := hT1.pass scI hv (by omega)
          refine Ev.bd hw fun x2 hT2 => ?_
          rw [nI_1]
          exact ih (k + 1) fu x2 (by omega) (by omega) hT2
  unfold F_X6_goneOf
  exact Ev.sc (Ev.bd (Th.beg scI h) fun x hT => key 41 0 FU x (by omega) (hFU (by omega)) ⟨hT.1, hT.2.1, rm_nx0 hv hT.2.2⟩)
theorem m_run (h : RepM v m) (hv : OKv v) (p wh : Int32) {n : Nat} (hn : n ≤ 40) : Ev pSc TT (bnd (F_X6_laysAside m) fun _ m17 => F_X6_run_39 FU m17 p (nI n) wh 0) m (if wh = 0 then rich v p (nI n) else bc (purse v p (nI n))) := by
  have h8 := h.1
  have key : ∀ (r k fu : Nat) (x : Mem), k + r = n → r < fu → Th pSc m (nx v k) x → Ev pTop (fun m' => Ag pSc m m') (F_X6_run_39 fu x p (nI n) wh (nI k)) x (if wh = 0 then rich v p (nI n) else bc (purse v p (nI n))) := by
    intro r
    induction r with
    | zero =>
      intro k fu x hk hf hT
      cases fu with
      | zero => omega
      | succ fu =>
        have : k = n := by omega
        subst this
        unfold F_X6_run_39 F_X6_run_76
        rw [if_pos (Int32.le_refl _)]
        by_cases hw : wh = 0
        · rw [if_pos hw, if_pos hw]
          refine Ev.bd (hT.run scI (m_rich hT.2.2 (hv.nx (by omega)) p)) fun x1 hT1 => ?_
          rw [nx_rich hv (by omega)]
          exact Ev.bd hT1.end_ fun x' hx' => Ev.ret hx'.1
        · rw [if_neg hw, if_neg hw]
          refine Ev.bd (hT.run scI (m_purse hT.2.2 (hv.nx (by omega)) p)) fun x1 hT1 => ?_
          rw [nx_purse hv (by omega)]
          obtain ⟨j, hj, ej⟩ := purse_nat h8 p (nI k)
          rw [ej, m_bits _ hj, bnd_eq]
          exact Ev.bd hT1.end_ fun x' hx' => Ev.ret hx'.1
    | succ r ih =>
      intro k fu x hk hf hT
      cases fu with
      | zero => omega
      | succ fu =>
        unfold F_X6_run_39
        rw [if_neg (nI_ge (show k < n by omega) (by omega)), nI_1]
        obtain ⟨w, hw⟩ := hT.pass scI hv (by omega)
        exact Ev.bd hw fun x2 hT2 => ih (k + 1) fu x2 (by omega) (by omega) hT2
  exact Ev.sc (Ev.bd (Th.beg scI h) fun x hT => key n 0 FU x (by omega) (hFU (by omega)) ⟨hT.1, hT.2.1, rm_nx0 hv hT.2.2⟩)
/-- the first that is otherwise -/
def foF (f : Nat → Bool) : Nat → Nat → Int32
  | 0, _ => -1
  | r + 1, k => if f k = true then foF f r (k + 1) else nI k
def fo (v : VW) (its : Nat → Int32) (sz : Nat) (r : Nat → Int32) : Int32 := foF (fun k => decide (wor v r (nI k) = its k)) sz 0
theorem m40 (c : Nat) : (40 : Int32) * nI c = nI (40 * c) := (Int32.ofNat_mul 40 c).symm
theorem nI_nm1 {k : Nat} (hk : k < 1000) : ¬ nI k = -1 := fun z => by
  have := congrArg Int32.toInt z
  rw [nI_toInt (by omega), show (-1 : Int32).toInt = -1 from rfl] at this; omega
theorem m_first (h : RepM v m) (hv : OKv v) {s c sz : Nat} (hs : s < 4) (hc : c < vn v) (hz : sz ≤ 40) (h52 : mD m 52 s = nI sz) : Ev pSc TT (F_X6_firstOther m (nI s) (nI c)) m (fo v (fun k => mD m 53 (40 * s + k)) sz (vc v c)) := by
  have h8 := h.1
  have e52 : ∀ x k, Th pSc m (nx v k) x → mD x 52 s = nI sz ∧ ∀ i, mD x 53 i = mD m 53 i := fun x k hT => ⟨by rw [hT.1.2 52 s (by unfold pSc pBk; omega)]; exact h52, fun i => hT.1.2 53 i (by unfold pSc pBk; omega)⟩
  have fin : ∀ (x : Mem) (k : Nat) (w : Int32), Th pSc m (nx v k) x → Ev pTop (fun m' => Ag pSc m m') (F_X6_firstOther_63 x w) x w := fun x k w hT => by
    unfold F_X6_firstOther_63
    exact Ev.bd hT.end_ fun x' hx' => Ev.ret hx'.1
  have key : ∀ (r k fu : Nat) (x : Mem), k + r = sz → r + 1 < fu → Th pSc m (nx v k) x → Ev pTop (fun m' => Ag pSc m m') (F_X6_firstOther_9 fu x (nI s) (nI c) (-1) (nI k)) x (foF (fun k => decide (wor v (vc v c) (nI k) = mD m 53 (40 * s + k))) r k) := by
    intro r
    induction r with
    | zero =>
      intro k fu x hk hf hT
      cases fu with
      | zero => omega
      | succ fu =>
        unfold F_X6_firstOther_9
        rw [gIf_pos (vp_n hs (by decide)), nI_c (by omega), (e52 x k hT).1, if_pos (nI_le (by omega) (by omega))]
        exact fin x k _ hT
    | succ r ih =>
      intro k fu x hk hf hT
      cases fu with
      | zero => omega
      | succ fu =>
        unfold F_X6_firstOther_9 F_X6_firstOther_51 foF
        rw [gIf_pos (vp_n hs (by decide)), nI_c (by omega), (e52 x k hT).1, if_neg (nI_ge (show k < sz by omega) (by omega)), if_pos rfl]
        refine Ev.bd (hT.run scI (hT.2.2.lift (m_worthOf hT.2.2 (hv.nx (by omega)) hc))) fun x1 hT1 => ?_
        rw [nx_wor (hv c hc) (by omega), m40, nI_ad, gIf_pos (vp_n (show 40 * s + k < 160 by omega) (by decide)), nI_c (n := 40 * s + k) (by omega), (e52 x1 k hT1).2, nI_1]
        obtain ⟨w, hw⟩ := hT1.pass scI hv (by omega)
        by_cases he : wor v (vc v c) (nI k) = mD m 53 (40 * s + k)
        · rw [if_pos he, if_pos (by simpa using he)]
          exact Ev.bd hw fun x2 hT2 => ih (k + 1) fu x2 (by omega) (by omega) hT2
        · rw [if_neg he, if_neg (by simpa using he)]
          refine Ev.bd hw fun x2 hT2 => ?_
          cases fu with
          | zero => omega
          | succ fu =>
            unfold F_X6_firstOther_9
            rw [gIf_pos (vp_n hs (by decide)), nI_c (by omega), (e52 x2 (k + 1) hT2).1, if_neg (nI_nm1 (by omega)), ite_self]
            exact fin x2 (k + 1) _ hT2
  unfold F_X6_firstOther fo
  exact Ev.sc (Ev.bd (Th.beg scI h) fun x hT => key sz 0 FU x (by omega) (by show sz + 1 < 5000; omega) ⟨hT.1, hT.2.1, rm_nx0 hv hT.2.2⟩)
end TG
