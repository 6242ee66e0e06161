/-! a text, as the reference reads it -/
def pRe (k i : Nat) : Prop := k = 40 ∧ 17 ≤ i ∧ i ≤ 25
theorem pMp.r {k i : Nat} (h : pMp k i) : pRe k i := ⟨h.1, by have := h.2; omega, by have := h.2; omega⟩
def sel (p x0 x1 x2 : Int32) : Int32 := if p = 0 then x0 else if p = 1 then x1 else x2
def MRd (B : Nat → Int32) (n : Nat) (E : Int32 → Int32) (p v : Int32) (m : Mem) : Prop := (∀ c0 c1 c2, (pRead B n).1 = some (c0, c1, c2) → mD m 40 24 = 0 ∧ v = sel p ((runS E c0 []).headD 0) ((runS E c1 []).headD 0) ((runS E c2 []).headD 0)) ∧ ((pRead B n).1 = none → mD m 40 24 = 1 ∧ mD m 40 25 = nI (pRead B n).2.2.1)
section MRDS
variable {B : Nat → Int32} {n t : Nat} {E : Int32 → Int32} {m : Mem}
theorem m_147 (m : Mem) (p a b c : Int32) : F_X6_read_147 m p a b c = some (sel p a b c, m) := by
  unfold F_X6_read_147 sel; repeat' split
  all_goals rfl
theorem MT.end_ {s : PS} (h : MT B n s m) : (mD m 40 20 = 0) ↔ s.1 = -22 := by
  rcases h.2 with ⟨e, k⟩ | ⟨_, k, v, hv, e, _⟩ | ⟨_, k, x, hx, e, hL⟩ | ⟨_, k, e, _⟩ | ⟨k, e⟩
  · simp [e, k]
  · rw [k, e]
    constructor
    · intro z; exact absurd z (by decide)
    · intro z
      have := congrArg Int32.toInt z
      rw [nI_toInt (by omega), show (-22 : Int32).toInt = -22 from rfl] at this; omega
  · rw [k, e]
    constructor
    · intro z; exact absurd z (by decide)
    · intro z; exact absurd z (sgn_off hx).1
  · rw [k, e]
    constructor
    · intro z; exact absurd z (by decide)
    · intro z
      rcases wrd_rng (B := B) s.2.1 s.2.2 with hw | ⟨j, hj, hw⟩
      · rw [hw] at z; exact absurd z (by decide)
      · rw [hw] at z
        have : ∀ j, j < 12 → ¬ (-1 : Int32) - nI j = -22 := by decide
        exact absurd z (this j hj)
  · rw [k, e]; decide
theorem b_127 {s : PS} (h : Bad s m) (p a b c : Int32) : F_X6_read_127 m p a b c = some (sel p a b c, m) := by
  unfold F_X6_read_127; rw [h.1, if_neg (by decide), m_147]
theorem b_92 {s : PS} (h : Bad s m) (p a b : Int32) : F_X6_read_92 m p a b = some (sel p a b 0, m) := by
  unfold F_X6_read_92; rw [h.1, if_neg (by decide), b_127 h]
theorem w_turns {s : PS} (h : MS B n t 0 s m) : F_X6_isWord m 116 117 114 110 115 0 0 0 = some (decide (s.1 = -7), m) := m_isWord h (k := 6) (by decide)
theorem w_gives {s : PS} (h : MS B n t 0 s m) : F_X6_isWord m 103 105 118 101 115 0 0 0 = some (decide (s.1 = -8), m) := m_isWord h (k := 7) (by decide)
theorem w_spoils {s : PS} (h : MS B n t 0 s m) : F_X6_isWord m 115 112 111 105 108 115 0 0 = some (decide (s.1 = -9), m) := m_isWord h (k := 8) (by decide)
theorem m160 (t : Nat) : (160 : Int32) * nI t = nI (160 * t) := (Int32.ofNat_mul 160 t).symm
def set5 (m : Mem) (a b : Int32) : Mem := wD (wD (wD (wD (wD m 40 17 a) 40 18 b) 40 19 0) 40 23 0) 40 24 0
noncomputable def readK (p : Int32) (m6 : Mem) : Option (Int32 × Mem) := bnd (F_X6_next m6) fun v7 m8 => bnd (F_X6_isWord m8 116 117 114 110 115 0 0 0) fun v11 m12 => bnd (F_X6_part m12 (bz v11)) fun v15 m16 => if mD m16 40 24 = 0 then bnd (F_X6_isWord m16 103 105 118 101 115 0 0 0) fun v20 m21 => bnd (F_X6_part m21 (bz v20)) fun v24 m25 => F_X6_read_92 m25 p v15 v24 else F_X6_read_92 m16 p v15 0
theorem read_eq (ht : t < 6) (h42 : mD m 42 t = nI n) (p : Int32) : F_X6_read m (nI t) p = readK p (set5 m (nI (160 * t)) (nI n)) := by
  have e : F_X6_read m (nI t) p = gIf (vp_in (nI t) 6) (readK p (set5 m ((160 : Int32) * nI t) (mD (wD m 40 17 ((160 : Int32) * nI t)) 42 (nI t).toNatClampNeg))) := rfl
  rw [e, gIf_pos (vp_n ht (by decide)), nI_c (by omega), mD_wD, if_neg (by omega), h42, m160]
theorem set5_ag (m : Mem) (a b : Int32) : Ag pRe m (set5 m a b) := ((((Ag.d ⟨rfl, by omega, by omega⟩).tr (Ag.d ⟨rfl, by omega, by omega⟩)).tr (Ag.d ⟨rfl, by omega, by omega⟩)).tr (Ag.d ⟨rfl, by omega, by omega⟩)).tr (Ag.d ⟨rfl, by omega, by omega⟩)
theorem set5_17 (m : Mem) (a b : Int32) : mD (set5 m a b) 40 17 = a := by
  unfold set5; rw [mD_wD, if_neg (by omega), mD_wD, if_neg (by omega), mD_wD, if_neg (by omega), mD_wD, if_neg (by omega), mD_wD, if_pos ⟨rfl, rfl⟩]
theorem set5_18 (m : Mem) (a b : Int32) : mD (set5 m a b) 40 18 = b := by
  unfold set5; rw [mD_wD, if_neg (by omega), mD_wD, if_neg (by omega), mD_wD, if_neg (by omega), mD_wD, if_pos ⟨rfl, rfl⟩]
theorem set5_19 (m : Mem) (a b : Int32) : mD (set5 m a b) 40 19 = 0 := by
  unfold set5; rw [mD_wD, if_neg (by omega), mD_wD, if_neg (by omega), mD_wD, if_pos ⟨rfl, rfl⟩]
theorem set5_23 (m : Mem) (a b : Int32) : mD (set5 m a b) 40 23 = 0 := by
  unfold set5; rw [mD_wD, if_neg (by omega), mD_wD, if_pos ⟨rfl, rfl⟩]
theorem set5_24 (m : Mem) (a b : Int32) : mD (set5 m a b) 40 24 = 0 := by
  unfold set5; rw [mD_wD, if_pos ⟨rfl, rfl⟩]
theorem m_set (hn : n ≤ 160) (ht : t < 6) (h42 : mD m 42 t = nI n) (h41 : ∀ i, i < n → mD m 41 (160 * t + i) = B i) (h0 : ∀ i, i < n → (0 : Int32) ≤ B i) (hE : EM E m) : ∃ m6, (∀ p, F_X6_read m (nI t) p = readK p m6) ∧ Ag pRe m m6 ∧ LM B n t m6 ∧ EM E m6 ∧ mD m6 40 19 = nI 0 ∧ mD m6 40 23 = nI 0 ∧ mD m6 40 24 = 0 := by
  have ha := set5_ag m (nI (160 * t)) (nI n)
  refine ⟨set5 m (nI (160 * t)) (nI n), read_eq ht h42, ha, ⟨hn, ht, set5_17 _ _ _, set5_18 _ _ _, fun i hi => ?_, h0⟩, ?_, (set5_19 _ _ _).trans nI_0.symm, (set5_23 _ _ _).trans nI_0.symm, set5_24 _ _ _⟩
  · rw [ha.2 41 _ (by unfold pRe; omega)]; exact h41 i hi
  · obtain ⟨f1, f2, f3, f4, f5, f6⟩ := hE
    refine ⟨?_, ?_, ?_, ?_, ?_, ?_⟩
    · rw [ha.2 40 11 (by unfold pRe; omega)]; exact f1
    · rw [ha.2 40 12 (by unfold pRe; omega)]; exact f2
    · rw [ha.2 40 13 (by unfold pRe; omega)]; exact f3
    · rw [ha.2 40 14 (by unfold pRe; omega)]; exact f4
    · rw [ha.2 40 15 (by unfold pRe; omega)]; exact f5
    · rw [ha.2 40 16 (by unfold pRe; omega)]; exact f6
theorem m_read (hn : n ≤ 160) (ht : t < 6) (h42 : mD m 42 t = nI n) (h41 : ∀ i, i < n → mD m 41 (160 * t + i) = B i) (h0 : ∀ i, i < n → (0 : Int32) ≤ B i) (hE : EM E m) (p : Int32) : ∃ v, Ev pRe (MRd B n E p v) (F_X6_read m (nI t) p) m v := by
  obtain ⟨m6, e6, ha6, hL6, hE6, h19, h23, h24⟩ := m_set hn ht h42 h41 h0 hE
  rw [e6 p]
  unfold readK
  obtain ⟨m7, e7, q7, k7⟩ := m_next hL6 (Nat.zero_le n) h19
  have q7' : Ag pMp m6 m7 := q7.mono fun k i hp => pNx.m hp
  have M7 : ME B n t E 0 (tok B n 0) m7 := ⟨⟨hL6.ag q7, k7, by rw [q7.2 40 23 (by unfold pNx; omega)]; exact h23, by rw [q7.2 40 24 (by unfold pNx; omega)]; exact h24⟩, hE6.ag q7'⟩
  have o7 : okS n (tok B n 0) := (tok_ok (Nat.zero_le n)).1
  rw [e7, bnd_eq, w_turns M7.1, bnd_eq]
  obtain ⟨v0, m8, e8, q8, k8⟩ := m_part (w := -7) (by decide) M7 o7
  obtain ⟨g8, _, _⟩ := pPart_gd (B := B) (n := n) (w := -7) (by decide) (tok B n 0) o7
  rw [e8, bnd_eq]
  have Q8 : Ag pRe m m8 := ha6.tr ((q7'.tr q8).mono fun k i hp => pMp.r hp)
  have bad : ∀ (s : PS) (m' : Mem) (x y z : Int32), Bad s m' → pRead B n = (none, s) → MRd B n E p (sel p x y z) m' := fun s m' x y z hb he => ⟨fun c0 c1 c2 e => (by rw [he] at e; cases e), fun _ => by rw [he]; exact hb⟩
  generalize hp1 : pPart B n (-7) (tok B n 0) = r1 at *
  obtain ⟨r1c, s1⟩ := r1
  cases r1c with
  | none =>
    have hb := k8.2 rfl
    rw [if_neg (by rw [hb.1]; decide), b_92 hb]
    exact ⟨_, m8, rfl, Q8, bad s1 m8 _ _ _ hb (by unfold pRead; rw [hp1])⟩
  | some c0 =>
    obtain ⟨M8, u0⟩ := k8.1 c0 rfl
    rw [if_pos M8.1.2.2.2, w_gives M8.1, bnd_eq]
    obtain ⟨v1, m9, e9, q9, k9⟩ := m_part (w := -8) (by decide) M8 g8
    obtain ⟨g9, _, _⟩ := pPart_gd (B := B) (n := n) (w := -8) (by decide) s1 g8
    dsimp only at e9 k9 g9 ⊢
    rw [e9, bnd_eq]
    have Q9 : Ag pRe m m9 := Q8.tr (q9.mono fun k i hp => pMp.r hp)
    generalize hp2 : pPart B n (-8) s1 = r2 at *
    obtain ⟨r2c, s2⟩ := r2
    cases r2c with
    | none =>
      have hb := k9.2 rfl
      rw [b_92 hb]
      exact ⟨_, m9, rfl, Q9, bad s2 m9 _ _ _ hb (by unfold pRead; rw [hp1]; dsimp only; rw [hp2])⟩
    | some c1 =>
      obtain ⟨M9, u1⟩ := k9.1 c1 rfl
      unfold F_X6_read_92
      rw [if_pos M9.1.2.2.2, w_spoils M9.1, bnd_eq]
      obtain ⟨v2, m10, e10, q10, k10⟩ := m_part (w := -9) (by decide) M9 g9
      dsimp only at e10 k10 ⊢
      rw [e10, bnd_eq]
      have Q10 : Ag pRe m m10 := Q9.tr (q10.mono fun k i hp => pMp.r hp)
      generalize hp3 : pPart B n (-9) s2 = r3 at *
      obtain ⟨r3c, s3⟩ := r3
      cases r3c with
      | none =>
        have hb := k10.2 rfl
        rw [b_127 hb]
        exact ⟨_, m10, rfl, Q10, bad s3 m10 _ _ _ hb (by unfold pRead; rw [hp1]; dsimp only; rw [hp2]; dsimp only; rw [hp3])⟩
      | some c2 =>
        obtain ⟨M10, u2⟩ := k10.1 c2 rfl
        unfold F_X6_read_127
        rw [if_pos M10.1.2.2.2]
        by_cases te : s3.1 = -22
        · rw [if_pos (M10.1.2.1.end_.mpr te), m_147]
          have he : pRead B n = (some (c0, c1, c2), s3) := by unfold pRead; rw [hp1]; dsimp only; rw [hp2]; dsimp only; rw [hp3]; dsimp only; rw [if_pos te]
          refine ⟨_, m10, rfl, Q10, fun a b c e => ?_, fun z => by rw [he] at z; cases z⟩
          rw [he] at e
          cases e
          exact ⟨M10.1.2.2.2, by rw [u0, u1, u2]; rfl⟩
        · rw [if_neg (fun z => te (M10.1.2.1.end_.mp z))]
          obtain ⟨m11, e11, q11, k11⟩ := m_fail (s := s3) M10.1.2.2.2 M10.1.2.1.1
          rw [e11, bnd_eq, m_147]
          exact ⟨_, m11, rfl, Q10.tr (q11.mono fun k i hp => pMp.r hp), bad s3 m11 _ _ _ k11 (by unfold pRead; rw [hp1]; dsimp only; rw [hp2]; dsimp only; rw [hp3]; dsimp only; rw [if_neg te])⟩
end MRDS
