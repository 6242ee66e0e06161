/-! BOTH IN ONE MEMORY -/
def krow (m : Mem) (i : Nat) : Nat → Int32 := fun f => if f = 0 then mD m 44 i else if f < 6 then mD m 49 (5 * i + (f - 1)) else 0
def Co (n tc j : Nat) (m : Mem) : Prop := n ≤ 8 ∧ 1 ≤ tc ∧ tc ≤ 6 ∧ j < tc ∧ mD m 0 2 = nI n ∧ mD m 40 10 = nI n ∧ mD m 0 0 = mD m 40 7 ∧ btw (mD m 40 7) 0 999 = true ∧ (∀ i, i < n → row6 (mD m (20 + i)) = mrow m i ∧ CB (mrow m i)) ∧ mD m 0 6 = nI j ∧ mD m 40 4 = nI j ∧ mD m 0 5 = nI tc ∧ mD m 40 3 = nI tc
def Tx (tc : Nat) (TQ : Nat → Nat) (TS : Nat → Nat → (Int32 → Int32) → Int32) (m : Mem) : Prop := ∀ t, t < tc → mR m 6 t = some (TQ t) ∧ TX m (TQ t) (TS t) ∧ MTx m t (TS t)
def Tp (m : Mem) : Prop := ∃ tn, tn ≤ 160 ∧ mD m 2 1 = nI tn ∧ mD m 40 6 = nI tn ∧ ∀ i, i < tn → mD m 3 i = mD m 43 i ∧ btw (mD m 43 i) 0 255 = true
def St1 (s : Nat) (m : Mem) : Prop := (mD m (28 + 2 * s) 0 = -1 ∧ mD m 50 s = 0) ∨ (mD m 50 s = 1 ∧ mD m (28 + 2 * s) 0 = mD m 51 s ∧ btw (mD m 51 s) 0 2 = true ∧ ∃ sz, sz ≤ 40 ∧ mD m (28 + 2 * s) 1 = nI sz ∧ mD m 52 s = nI sz ∧ ∀ i, i < sz → mD m (29 + 2 * s) i = mD m 53 (40 * s + i))
def St (m : Mem) : Prop := ∀ s, s < 4 → St1 s m
def Im (n tc : Nat) (m : Mem) : Prop := (mD m 8 0 = 0 ∧ mD m 40 31 = -1) ∨ (mD m 8 0 = 1 ∧ ∃ kn jk, kn ≤ n ∧ jk < tc ∧ mD m 8 3 = nI kn ∧ mD m 40 31 = nI kn ∧ mD m 8 1 = mD m 40 32 ∧ btw (mD m 40 32) 0 999 = true ∧ mD m 8 2 = nI jk ∧ mD m 40 33 = nI jk ∧ ∀ i, i < kn → row6 (mD m (10 + i)) = krow m i ∧ CB (krow m i))
def Rm (tc : Nat) (m : Mem) : Prop := mN m = 50 + 4 * tc ∧ mS m ≤ 4000 + 700 * tc ∧ (∀ t k, mR m 6 t = some k → t < tc ∧ k + 3 < mN m) ∧ ShM m
def plCo (k i : Nat) : Prop := (k = 0 ∧ (i = 0 ∨ i = 2 ∨ i = 5 ∨ i = 6)) ∨ (k = 40 ∧ (i = 3 ∨ i = 4 ∨ i = 7 ∨ i = 10)) ∨ (20 ≤ k ∧ k ≤ 27) ∨ k = 44 ∨ k = 45
def plTx (k _ : Nat) : Prop := k = 41 ∨ k = 42 ∨ k = 37 ∨ k = 38 ∨ (54 ≤ k ∧ (k % 4 = 3 ∨ k % 4 = 0))
def plTp (k i : Nat) : Prop := (k = 2 ∧ i = 1) ∨ k = 3 ∨ (k = 40 ∧ i = 6) ∨ k = 43
def plSt (k _ : Nat) : Prop := (28 ≤ k ∧ k ≤ 35) ∨ k = 50 ∨ k = 51 ∨ k = 52 ∨ k = 53
def plIm (k i : Nat) : Prop := k = 8 ∨ (10 ≤ k ∧ k ≤ 17) ∨ (k = 40 ∧ 31 ≤ i ∧ i ≤ 33) ∨ k = 49 ∨ k = 44
section AGS
variable {P : Nat → Nat → Prop} {m m' : Mem} {n tc j : Nat}
theorem Co.ag (h : Co n tc j m) (ha : Ag P m m') (hP : ∀ k i, P k i → ¬ plCo k i) : Co n tc j m' := by
  have e : ∀ k i, plCo k i → mD m' k i = mD m k i := fun k i hk => ha.2 k i fun z => hP k i z hk
  obtain ⟨h1, h2, h3, h4, h5, h6, h7, h8, h9, h10, h11, h12, h13⟩ := h
  refine ⟨h1, h2, h3, h4, ?_, ?_, ?_, ?_, fun i hi => ?_, ?_, ?_, ?_, ?_⟩
  · rw [e 0 2 (by unfold plCo; omega)]; exact h5
  · rw [e 40 10 (by unfold plCo; omega)]; exact h6
  · rw [e 0 0 (by unfold plCo; omega), e 40 7 (by unfold plCo; omega)]; exact h7
  · rw [e 40 7 (by unfold plCo; omega)]; exact h8
  · have e1 : mD m' (20 + i) = mD m (20 + i) := funext fun f => e _ _ (by unfold plCo; omega)
    have e2 : mrow m' i = mrow m i := by
      funext f; unfold mrow; rw [e 44 i (by unfold plCo; omega), e 45 _ (by unfold plCo; omega)]
    rw [e1, e2]; exact h9 i hi
  · rw [e 0 6 (by unfold plCo; omega)]; exact h10
  · rw [e 40 4 (by unfold plCo; omega)]; exact h11
  · rw [e 0 5 (by unfold plCo; omega)]; exact h12
  · rw [e 40 3 (by unfold plCo; omega)]; exact h13
theorem Tx.ag {TQ : Nat → Nat} {TS : Nat → Nat → (Int32 → Int32) → Int32} (h : Tx tc TQ TS m) (ha : Ag P m m') (hP : ∀ k i, P k i → ¬ plTx k i) : Tx tc TQ TS m' := fun t ht => by
  obtain ⟨h1, h2, h3⟩ := h t ht
  have hq := h2.2.1
  unfold isTc at hq
  exact ⟨by rw [ha.1.2.2.2]; exact h1, h2.ag ha (fun i z => hP _ i z (by unfold plTx; omega)) (fun i z => hP _ i z (by unfold plTx; omega)), h3.ag ha (fun i z => hP _ i z (by unfold plTx; omega)) (fun i z => hP _ i z (by unfold plTx; omega))⟩
theorem Tp.ag (h : Tp m) (ha : Ag P m m') (hP : ∀ k i, P k i → ¬ plTp k i) : Tp m' := by
  have e : ∀ k i, plTp k i → mD m' k i = mD m k i := fun k i hk => ha.2 k i fun z => hP k i z hk
  obtain ⟨tn, h1, h2, h3, h4⟩ := h
  refine ⟨tn, h1, ?_, ?_, fun i hi => ?_⟩
  · rw [e 2 1 (by unfold plTp; omega)]; exact h2
  · rw [e 40 6 (by unfold plTp; omega)]; exact h3
  · rw [e 3 i (by unfold plTp; omega), e 43 i (by unfold plTp; omega)]; exact h4 i hi
theorem St1.ag {s : Nat} (hs : s < 4) (h : St1 s m) (ha : Ag P m m') (hP : ∀ k i, P k i → ¬ ((k = 28 + 2 * s ∨ k = 29 + 2 * s) ∨ ((k = 50 ∨ k = 51 ∨ k = 52) ∧ i = s) ∨ (k = 53 ∧ 40 * s ≤ i ∧ i < 40 * s + 40))) : St1 s m' := by
  have e : ∀ k i, ((k = 28 + 2 * s ∨ k = 29 + 2 * s) ∨ ((k = 50 ∨ k = 51 ∨ k = 52) ∧ i = s) ∨ (k = 53 ∧ 40 * s ≤ i ∧ i < 40 * s + 40)) → mD m' k i = mD m k i := fun k i hk => ha.2 k i fun z => hP k i z hk
  unfold St1 at h ⊢
  rw [e (28 + 2 * s) 0 (by omega), e 50 s (by omega), e 51 s (by omega), e 52 s (by omega), e (28 + 2 * s) 1 (by omega)]
  rcases h with h | ⟨h1, h2, h3, sz, h4, h5, h6, h7⟩
  · exact Or.inl h
  · exact Or.inr ⟨h1, h2, h3, sz, h4, h5, h6, fun i hi => by rw [e (29 + 2 * s) i (by omega), e 53 _ (by omega)]; exact h7 i hi⟩
theorem St.ag (h : St m) (ha : Ag P m m') (hP : ∀ k i, P k i → ¬ plSt k i) : St m' := fun s hs => (h s hs).ag hs ha (fun k i z => by have := hP k i z; unfold plSt at this; omega)
theorem Im.ag (h : Im n tc m) (ha : Ag P m m') (hn : n ≤ 8) (hP : ∀ k i, P k i → ¬ plIm k i) : Im n tc m' := by
  have e : ∀ k i, plIm k i → mD m' k i = mD m k i := fun k i hk => ha.2 k i fun z => hP k i z hk
  unfold Im at h ⊢
  rw [e 8 0 (by unfold plIm; omega), e 40 31 (by unfold plIm; omega), e 8 3 (by unfold plIm; omega), e 8 1 (by unfold plIm; omega), e 40 32 (by unfold plIm; omega), e 8 2 (by unfold plIm; omega), e 40 33 (by unfold plIm; omega)]
  rcases h with h | ⟨h1, kn, jk, h2, h3, h4, h5, h6, h7, h8, h9, h10⟩
  · exact Or.inl h
  · refine Or.inr ⟨h1, kn, jk, h2, h3, h4, h5, h6, h7, h8, h9, fun i hi => ?_⟩
    have e1 : mD m' (10 + i) = mD m (10 + i) := funext fun f => e _ _ (by unfold plIm; omega)
    have e2 : krow m' i = krow m i := by
      funext f; unfold krow; rw [e 44 i (by unfold plIm; omega), e 49 _ (by unfold plIm; omega)]
    rw [e1, e2]; exact h10 i hi
theorem Rm.sh (h : Rm tc m) (hs : SameSh m m') : Rm tc m' := ⟨by rw [hs.1]; exact h.1, by rw [hs.2.1]; exact h.2.1, by rw [hs.1, hs.2.2.2]; exact h.2.2.1, h.2.2.2.sh hs⟩
end AGS
def Inv (m : Mem) : Prop := ShX m ∧ ∃ n tc j TQ TS, Co n tc j m ∧ Tx tc TQ TS m ∧ Tp m ∧ St m ∧ Im n tc m ∧ Rm tc m
def pA (k i : Nat) : Prop := pX k i ∨ pSc k i
theorem Inv.ag {m m' : Mem} (h : Inv m) (ha : Ag pA m m') : Inv m' := by
  obtain ⟨h1, n, tc, j, TQ, TS, h2, h3, h4, h5, h6, h7⟩ := h
  exact ⟨h1.sh ha.1, n, tc, j, TQ, TS, h2.ag ha (fun k i z => by unfold pA pX pSt pSc at z; unfold plCo; omega), h3.ag ha (fun k i z => by unfold pA pX pSt pSc at z; unfold plTx; omega), h4.ag ha (fun k i z => by unfold pA pX pSt pSc at z; unfold plTp; omega), h5.ag ha (fun k i z => by unfold pA pX pSt pSc at z; unfold plSt; omega), h6.ag ha h2.1 (fun k i z => by unfold pA pX pSt pSc at z; unfold plIm; omega), h7.sh ha.1⟩
theorem RepM.agX {v : VW} {m m' : Mem} (h : RepM v m) (ha : Ag pX m m') : RepM v m' := by
  obtain ⟨h2, h3, h4, h5, j, e1, e2, e3⟩ := h
  refine ⟨h2, ?_, ?_, fun i hi => ?_, j, e1, ?_, e3.ag ha (fun _ => by unfold pX pSt; omega) (fun _ => by unfold pX pSt; omega)⟩
  · rw [ha.2 40 10 (by unfold pX pSt; omega)]; exact h3
  · rw [ha.2 40 7 (by unfold pX pSt; omega)]; exact h4
  · rw [mrow_ag ha (fun _ => by unfold pX pSt; omega) (fun _ => by unfold pX pSt; omega)]; exact h5 i hi
  · rw [ha.2 40 4 (by unfold pX pSt; omega)]; exact e2
/-- the valley of both -/
def vw (n : Nat) (S : Nat → (Int32 → Int32) → Int32) (m : Mem) : VW := (n, mD m 40 7, mrow m, S)
theorem mk_view {m : Mem} {n tc j : Nat} {TQ : Nat → Nat} {TS : Nat → Nat → (Int32 → Int32) → Int32} (h1 : ShX m) (h2 : Co n tc j m) (h3 : Tx tc TQ TS m) : RepX (vw n (TS j) m) m ∧ RepM (vw n (TS j) m) m ∧ OKv (vw n (TS j) m) := by
  obtain ⟨c1, c2, c3, c4, c5, c6, c7, c8, c9, c10, c11, c12, c13⟩ := h2
  obtain ⟨t1, t2, t3⟩ := h3 j c4
  exact ⟨⟨h1, c1, c5, c7, fun i hi => (c9 i hi).1, j, TQ j, by omega, c10, t1, t2⟩, ⟨c1, c6, rfl, fun i _ => rfl, j, by omega, c11, t3⟩, fun i hi => (c9 i hi).2⟩
theorem Inv.view {m : Mem} (h : Inv m) : ∃ v, RepX v m ∧ RepM v m ∧ OKv v := by
  obtain ⟨h1, n, tc, j, TQ, TS, h2, h3, -⟩ := h
  exact ⟨_, mk_view h1 h2 h3⟩
/-- both answer alike -/
def PA {α : Type} (fX fM : Mem → Option (α × Mem)) (m : Mem) : Prop := ∃ w m1 m2, fX m = some (w, m1) ∧ fM m1 = some (w, m2) ∧ Inv m2
def PM {α : Type} (fX fM : Mem → Option (α × Mem)) : Prop := ∀ m, Inv m → PA fX fM m
theorem ro {α : Type} {fX fM : Mem → Option (α × Mem)} {m : Mem} (hI : Inv m) (w : α) (hx : Ev pX TT (fX m) m w) (hm : ∀ m1, Ag pX m m1 → Ev pSc TT (fM m1) m1 w) : PA fX fM m := by
  obtain ⟨m1, e1, a1, -⟩ := hx
  obtain ⟨m2, e2, a2, -⟩ := hm m1 a1
  exact ⟨w, m1, m2, e1, e2, hI.ag ((a1.mono fun _ _ hp => Or.inl hp).tr (a2.mono fun _ _ hp => Or.inr hp))⟩
theorem roE {α : Type} {fX fM : Mem → Option (α × Mem)} {m : Mem} (hI : Inv m) (w : α) (hx : fX m = some (w, m)) (hm : fM m = some (w, m)) : PA fX fM m := ⟨w, m, m, hx, hm, hI⟩
theorem Ev.tt {α : Type} {P : Nat → Nat → Prop} {R : Mem → Prop} {f : Option (α × Mem)} {m : Mem} {w : α} (h : Ev P R f m w) : Ev P TT f m w := h.im fun _ _ => trivial
theorem Ev.x {α : Type} {R : Mem → Prop} {f : Option (α × Mem)} {m : Mem} {w : α} (h : Ev pSt R f m w) : Ev pX TT f m w := h.tt.mono fun _ _ hp => pSt.x hp
theorem Ev.c {α : Type} {R : Mem → Prop} {f : Option (α × Mem)} {m : Mem} {w : α} (h : Ev pSa R f m w) : Ev pSc TT f m w := h.tt.mono fun _ _ hp => pSa.c hp
theorem m_inB (m : Mem) (x : Int32) (lo hi : Int64) : F_X6_in m x.toInt64 lo hi = some (btw x lo.toInt hi.toInt, m) := by
  rw [m_in, Int32.toInt_toInt64]; rfl
theorem m_isOwner (m : Mem) (x : Int32) : F_X6_isOwner m x = some (btw x 0 3, m) := by
  unfold F_X6_isOwner; rw [m_inB, bnd_eq]; rfl
theorem m_isSheet (m : Mem) (x : Int32) : F_X6_isSheet m x = some (btw x 0 3, m) := by
  unfold F_X6_isSheet; rw [m_inB, bnd_eq]; rfl
theorem pred_toInt {n : Nat} (h : n < 1000) : (nI n - 1).toInt = (n : Int) - 1 := by
  rw [Int32.toInt_sub, nI_toInt (by omega), show (1 : Int32).toInt = 1 from rfl, bm32 (by omega) (by omega)]
theorem m_isCoin {v : VW} {m : Mem} (h : RepM v m) (x : Int32) : F_X6_isCoin m x = some (btw x 0 ((vn v : Int) - 1), m) := by
  have h8 := h.1
  unfold F_X6_isCoin
  rw [m_inB, bnd_eq, h.2.1, Int32.toInt_toInt64, pred_toInt (by omega)]; rfl
theorem coin_nat {x : Int32} {n : Nat} (h : btw x 0 ((n : Int) - 1) = true) (hn : n ≤ 8) : ∃ c, c < n ∧ x = nI c := by
  have := btw_iff.mp h
  refine ⟨x.toInt.toNat, by omega, toNatI (by omega)⟩
theorem bzt0 : (bz true = 0) = False := by simp [bz]
theorem bzf0 : (bz false = 0) = True := by simp [bz]
theorem mi_0_11 (m : Mem) (x : Int32) : F_X6_in m x.toInt64 (0) (11) = some (btw x (0) (11), m) := m_inB m x (0) (11)
theorem mi_0_5 (m : Mem) (x : Int32) : F_X6_in m x.toInt64 (0) (5) = some (btw x (0) (5), m) := m_inB m x (0) (5)
theorem mi_0_9 (m : Mem) (x : Int32) : F_X6_in m x.toInt64 (0) (9) = some (btw x (0) (9), m) := m_inB m x (0) (9)
theorem mi_1_99 (m : Mem) (x : Int32) : F_X6_in m x.toInt64 (1) (99) = some (btw x (1) (99), m) := m_inB m x (1) (99)
theorem mi_0_255 (m : Mem) (x : Int32) : F_X6_in m x.toInt64 (0) (255) = some (btw x (0) (255), m) := m_inB m x (0) (255)
theorem mi_0_999 (m : Mem) (x : Int32) : F_X6_in m x.toInt64 (0) (999) = some (btw x (0) (999), m) := m_inB m x (0) (999)
theorem mi_0_6 (m : Mem) (x : Int32) : F_X6_in m x.toInt64 (0) (6) = some (btw x (0) (6), m) := m_inB m x (0) (6)
theorem mi_0_40 (m : Mem) (x : Int32) : F_X6_in m x.toInt64 (0) (40) = some (btw x (0) (40), m) := m_inB m x (0) (40)
theorem mi_0_1 (m : Mem) (x : Int32) : F_X6_in m x.toInt64 (0) (1) = some (btw x (0) (1), m) := m_inB m x (0) (1)
theorem mi_0_3 (m : Mem) (x : Int32) : F_X6_in m x.toInt64 (0) (3) = some (btw x (0) (3), m) := m_inB m x (0) (3)
theorem mi_n1_2 (m : Mem) (x : Int32) : F_X6_in m x.toInt64 (-1) (2) = some (btw x (-1) (2), m) := m_inB m x (-1) (2)
theorem mi_1_20 (m : Mem) (x : Int32) : F_X6_in m x.toInt64 (1) (20) = some (btw x (1) (20), m) := m_inB m x (1) (20)
theorem mi_0_8 (m : Mem) (x : Int32) : F_X6_in m x.toInt64 (0) (8) = some (btw x (0) (8), m) := m_inB m x (0) (8)
theorem mi_0_2 (m : Mem) (x : Int32) : F_X6_in m x.toInt64 (0) (2) = some (btw x (0) (2), m) := m_inB m x (0) (2)
theorem xi_0_5 (m : Mem) (x : Int32) : F_X5_isBetween m x (0) (5) = some (btw x (0) (5), m) := x_isBetween m x (0) (5)
theorem xi_1_6 (m : Mem) (x : Int32) : F_X5_isBetween m x (1) (6) = some (btw x (1) (6), m) := x_isBetween m x (1) (6)
theorem xi_0_255 (m : Mem) (x : Int32) : F_X5_isBetween m x (0) (255) = some (btw x (0) (255), m) := x_isBetween m x (0) (255)
theorem xi_0_999 (m : Mem) (x : Int32) : F_X5_isBetween m x (0) (999) = some (btw x (0) (999), m) := x_isBetween m x (0) (999)
theorem xi_0_40 (m : Mem) (x : Int32) : F_X5_isBetween m x (0) (40) = some (btw x (0) (40), m) := x_isBetween m x (0) (40)
theorem xi_0_1 (m : Mem) (x : Int32) : F_X5_isBetween m x (0) (1) = some (btw x (0) (1), m) := x_isBetween m x (0) (1)
theorem xi_0_3 (m : Mem) (x : Int32) : F_X5_isBetween m x (0) (3) = some (btw x (0) (3), m) := x_isBetween m x (0) (3)
theorem xi_n1_2 (m : Mem) (x : Int32) : F_X5_isBetween m x (-1) (2) = some (btw x (-1) (2), m) := x_isBetween m x (-1) (2)
theorem xi_1_20 (m : Mem) (x : Int32) : F_X5_isBetween m x (1) (20) = some (btw x (1) (20), m) := x_isBetween m x (1) (20)
theorem xi_0_8 (m : Mem) (x : Int32) : F_X5_isBetween m x (0) (8) = some (btw x (0) (8), m) := x_isBetween m x (0) (8)
theorem xi_0_2 (m : Mem) (x : Int32) : F_X5_isBetween m x (0) (2) = some (btw x (0) (2), m) := x_isBetween m x (0) (2)
theorem xi_0_9 (m : Mem) (x : Int32) : F_X5_isBetween m x (0) (9) = some (btw x (0) (9), m) := x_isBetween m x (0) (9)
