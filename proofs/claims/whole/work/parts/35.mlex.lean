/-! the reference's tokens -/
/-- text t of the reference holds the bytes -/
def LM (B : Nat → Int32) (n t : Nat) (m : Mem) : Prop := n ≤ 160 ∧ t < 6 ∧ mD m 40 17 = nI (160 * t) ∧ mD m 40 18 = nI n ∧ (∀ i, i < n → mD m 41 (160 * t + i) = B i) ∧ ∀ i, i < n → (0 : Int32) ≤ B i
def bt (B : Nat → Int32) (n j : Nat) : Int32 := if n ≤ j then -1 else B j
def p19 (k i : Nat) : Prop := k = 40 ∧ i = 19
def pNx (k i : Nat) : Prop := k = 40 ∧ (i = 19 ∨ i = 20 ∨ i = 21)
theorem p19.n {k i : Nat} (h : p19 k i) : pNx k i := ⟨h.1, Or.inl h.2⟩
theorem LM.ag {B : Nat → Int32} {n t : Nat} {m m' : Mem} (h : LM B n t m) (ha : Ag pNx m m') : LM B n t m' := by
  obtain ⟨h1, h2, h3, h4, h5, h6⟩ := h
  refine ⟨h1, h2, ?_, ?_, fun i hi => ?_, h6⟩
  · rw [ha.2 40 17 (by unfold pNx; omega)]; exact h3
  · rw [ha.2 40 18 (by unfold pNx; omega)]; exact h4
  · rw [ha.2 41 _ (by unfold pNx; omega)]; exact h5 i hi
theorem nI_ad (a b : Nat) : nI a + nI b = nI (a + b) := (Int32.ofNat_add a b).symm
section MLX
variable {B : Nat → Int32} {n t : Nat} {m : Mem}
theorem m_byteAt (h : LM B n t m) {j : Nat} (hj : j < 1000) : F_X6_byteAt m (nI j) = some (bt B n j, m) := by
  obtain ⟨h1, h2, h3, h4, h5, h6⟩ := h
  unfold F_X6_byteAt bt
  rw [h3, h4]
  by_cases hn : n ≤ j
  · rw [if_pos (show nI n ≤ nI j by rw [nI_le' (by omega) hj]; exact hn), if_pos hn]
  · rw [if_neg (show ¬ nI n ≤ nI j by rw [nI_le' (by omega) hj]; exact hn), if_neg hn, nI_ad, gIf_pos (vp_n (by omega) (by decide)), nI_c (by omega), h5 j (by omega)]
theorem m_inL (m : Mem) (x : Int32) : F_X6_in m x.toInt64 97 122 = some (isLt x, m) := by
  rw [m_in, Int32.toInt_toInt64]
  unfold isLt
  simp only [Int32.lt_iff_toInt_lt, show (97 : Int64).toInt = 97 from rfl, show (122 : Int64).toInt = 122 from rfl, show (97 : Int32).toInt = 97 from rfl, show (122 : Int32).toInt = 122 from rfl, Int.not_lt, Bool.decide_and]
theorem m_inD (m : Mem) (x : Int32) : F_X6_in m x.toInt64 48 57 = some (isDg x, m) := by
  rw [m_in, Int32.toInt_toInt64]
  unfold isDg
  simp only [Int32.lt_iff_toInt_lt, show (48 : Int64).toInt = 48 from rfl, show (57 : Int64).toInt = 57 from rfl, show (48 : Int32).toInt = 48 from rfl, show (57 : Int32).toInt = 57 from rfl, Int.not_lt, Bool.decide_and]
theorem m_letters : ∀ (r j fu : Nat) (m : Mem), j + r = n → r < fu → LM B n t m → mD m 40 19 = nI j → Ev p19 (fun m' => mD m' 40 19 = nI (scan isLt B r j)) (F_X6_next_100 fu m) m () := by
  intro r
  induction r with
  | zero =>
    intro j fu m hj hf h h19
    have := h.1
    cases fu with
    | zero => omega
    | succ fu =>
      unfold F_X6_next_100 scan
      rw [h19, m_byteAt h (by omega), bnd_eq, m_inL, bnd_eq, bt, if_pos (show n ≤ j by omega), show isLt (-1) = false from rfl, if_pos (by decide)]
      exact Ev.ret h19
  | succ r ih =>
    intro j fu m hj hf h h19
    have := h.1
    cases fu with
    | zero => omega
    | succ fu =>
      unfold F_X6_next_100 scan
      rw [h19, m_byteAt h (by omega), bnd_eq, m_inL, bnd_eq, bt, if_neg (show ¬ n ≤ j by omega)]
      simp only [bz0]
      cases hq : isLt (B j) with
      | false => simp only [if_true, Bool.false_eq_true, if_false]; exact Ev.ret h19
      | true =>
        simp only [Bool.true_eq_false, if_false, if_true]
        rw [h19, nI_1]
        exact Ev.namW ⟨rfl, rfl⟩ (ih (j + 1) fu _ (by omega) (by omega) (h.ag (Ag.d ⟨rfl, Or.inl rfl⟩)) (by rw [mD_wD, if_pos ⟨rfl, rfl⟩]))
theorem dg64 : ∀ k, k < 10 → (nI (48 + k)).toInt64 = Int64.ofNat (48 + k) := by decide
theorem dec64 (a k : Nat) : 10 * Int64.ofNat a + Int64.ofNat (48 + k) - 48 = Int64.ofNat (10 * a + k) := by
  rw [Int64.ofNat_add 48 k, Int64.ofNat_add (10 * a) k, Int64.ofNat_mul 10 a, show Int64.ofNat 48 = 48 from rfl, show Int64.ofNat 10 = 10 from rfl, Int64.sub_eq_add_neg, Int64.add_assoc, Int64.add_comm 48 (Int64.ofNat k), Int64.add_assoc, show (48 : Int64) + -48 = 0 from rfl, Int64.add_zero]
theorem m_digits : ∀ (r j fu c w : Nat) (m : Mem), j + r = n → r < fu → c + r ≤ 160 → LM B n t m → mD m 40 19 = nI j → (c ≤ 4 → mL m 40 22 = Int64.ofNat w) → Ev pNx (fun m' => mD m' 40 19 = nI (scan isDg B r j) ∧ mD m' 40 21 = mD m 40 21 ∧ (c + (scan isDg B r j - j) ≤ 4 → mD m' 40 20 = 2 ∧ mL m' 40 22 = Int64.ofNat (fold (fun i s => 10 * s + ((B i).toNatClampNeg - 48)) j (scan isDg B r j - j) w)) ∧ (¬ c + (scan isDg B r j - j) ≤ 4 → mD m' 40 20 = 4)) (F_X6_next_160 fu m (nI c)) m () := by
  have stop : ∀ (j c w : Nat) (m : Mem), c ≤ 160 → mD m 40 19 = nI j → (c ≤ 4 → mL m 40 22 = Int64.ofNat w) → Ev pNx (fun m' => mD m' 40 19 = nI j ∧ mD m' 40 21 = mD m 40 21 ∧ (c + (j - j) ≤ 4 → mD m' 40 20 = 2 ∧ mL m' 40 22 = Int64.ofNat (fold (fun i s => 10 * s + ((B i).toNatClampNeg - 48)) j (j - j) w)) ∧ (¬ c + (j - j) ≤ 4 → mD m' 40 20 = 4)) (if (nI c) ≤ (4 : Int32) then F_X6_next_246 m 2 else F_X6_next_246 m 4) m () := by
    intro j c w m hc h19 hw
    unfold F_X6_next_246
    rw [Nat.sub_self]
    have e4 : (nI c ≤ (4 : Int32)) = (c ≤ 4) := by rw [show (4 : Int32) = nI 4 from rfl]; exact nI_le' (by omega) (by omega)
    by_cases h4 : c ≤ 4
    · refine Ev.ift (e4 ▸ h4) (Ev.namW ⟨rfl, Or.inr (Or.inl rfl)⟩ (Ev.ret ⟨?_, ?_, fun _ => ⟨?_, hw h4⟩, fun z => absurd h4 z⟩))
      · rw [mD_wD, if_neg (by omega)]; exact h19
      · rw [mD_wD, if_neg (by omega)]
      · rw [mD_wD, if_pos ⟨rfl, rfl⟩]
    · refine Ev.iff (e4 ▸ h4) (Ev.namW ⟨rfl, Or.inr (Or.inl rfl)⟩ (Ev.ret ⟨?_, ?_, fun z => absurd z h4, fun _ => ?_⟩))
      · rw [mD_wD, if_neg (by omega)]; exact h19
      · rw [mD_wD, if_neg (by omega)]
      · rw [mD_wD, if_pos ⟨rfl, rfl⟩]
  intro r
  induction r with
  | zero =>
    intro j fu c w m hj hf hc h h19 hw
    have := h.1
    cases fu with
    | zero => omega
    | succ fu =>
      unfold F_X6_next_160 scan
      rw [h19, m_byteAt h (by omega), bnd_eq, m_inD, bnd_eq, bt, if_pos (show n ≤ j by omega), show isDg (-1) = false from rfl, if_pos (by decide)]
      exact stop j c w m (by omega) h19 hw
  | succ r ih =>
    intro j fu c w m hj hf hc h h19 hw
    have := h.1
    cases fu with
    | zero => omega
    | succ fu =>
      unfold F_X6_next_160 F_X6_next_216 scan
      rw [h19, m_byteAt h (by omega), bnd_eq, m_inD, bnd_eq, bt, if_neg (show ¬ n ≤ j by omega)]
      simp only [bz0]
      cases hq : isDg (B j) with
      | false => simp only [if_true, Bool.false_eq_true, if_false]; exact stop j c w m (by omega) h19 hw
      | true =>
        simp only [Bool.true_eq_false, if_false, if_true]
        have hs := scan_le isDg B r (j + 1)
        obtain ⟨k, hk, e1, e2⟩ := dg_nat hq
        have e4 : ((4 : Int32) ≤ nI c) = (4 ≤ c) := by rw [show (4 : Int32) = nI 4 from rfl]; exact nI_le' (by omega) (by omega)
        have hA : ∀ x : Int64, LM B n t (wD (wL m 40 22 x) 40 19 (nI (j + 1))) := fun x => (h.ag Ag.l).ag (Ag.d ⟨rfl, Or.inl rfl⟩)
        have hf1 : scan isDg B r (j + 1) - j = scan isDg B r (j + 1) - (j + 1) + 1 := by omega
        have h19' : ∀ x : Int64, mD (wL m 40 22 x) 40 19 = nI j := fun x => h19
        by_cases h4 : 4 ≤ c
        · refine Ev.ift (e4 ▸ h4) (Ev.namL ?_)
          rw [h19', nI_1, nI_1]
          refine Ev.namW ⟨rfl, Or.inl rfl⟩ ((ih (j + 1) fu (c + 1) w _ (by omega) (by omega) (by omega) (hA _) (by rw [mD_wD, if_pos ⟨rfl, rfl⟩]) (fun z => by omega)).im fun m' hm' => ?_)
          obtain ⟨q1, q2, q3, q4⟩ := hm'
          refine ⟨q1, ?_, fun z => by omega, fun z => q4 (by omega)⟩
          rw [q2, mD_wD, if_neg (by omega)]; rfl
        · refine Ev.iff (e4 ▸ h4) ?_
          rw [h19, m_byteAt h (by omega), bnd_eq, bt, if_neg (show ¬ n ≤ j by omega), e1, dg64 k hk, hw (by omega), dec64]
          refine Ev.namL ?_
          rw [h19', nI_1, nI_1]
          refine Ev.namW ⟨rfl, Or.inl rfl⟩ ((ih (j + 1) fu (c + 1) (10 * w + k) _ (by omega) (by omega) (by omega) (hA _) (by rw [mD_wD, if_pos ⟨rfl, rfl⟩]) (fun z => ?_)).im fun m' hm' => ?_)
          · show (mL (wL m 40 22 (Int64.ofNat (10 * w + k))) 40 22) = _
            rw [mL_wL, if_pos ⟨rfl, rfl⟩]
          obtain ⟨q1, q2, q3, q4⟩ := hm'
          refine ⟨q1, ?_, fun z => ?_, fun z => q4 (by omega)⟩
          · rw [q2, mD_wD, if_neg (by omega)]; rfl
          · obtain ⟨u1, u2⟩ := q3 (by omega)
            refine ⟨u1, ?_⟩
            rw [u2, hf1]
            show _ = Int64.ofNat (fold (fun i s => 10 * s + ((B i).toNatClampNeg - 48)) (j + 1) _ (10 * w + ((B j).toNatClampNeg - 48)))
            rw [e2]
end MLX
