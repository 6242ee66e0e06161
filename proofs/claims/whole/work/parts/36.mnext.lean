/-- the reference stands at the token s -/
def MT (B : Nat → Int32) (n : Nat) (s : PS) (m : Mem) : Prop := mD m 40 21 = nI s.2.1 ∧ ((s.1 = -22 ∧ mD m 40 20 = 0) ∨ (mD m 40 19 = nI s.2.2 ∧ mD m 40 20 = 2 ∧ ∃ v, v < 10000 ∧ s.1 = nI v ∧ mL m 40 22 = Int64.ofNat v) ∨ (mD m 40 19 = nI s.2.2 ∧ mD m 40 20 = 3 ∧ ∃ x, ¬ sgn x = -23 ∧ s.1 = sgn x ∧ mL m 40 22 = x.toInt64) ∨ (mD m 40 19 = nI s.2.2 ∧ mD m 40 20 = 1 ∧ s.1 = wrd B s.2.1 s.2.2 ∧ s.2.1 ≤ s.2.2 ∧ s.2.2 ≤ n ∧ ∀ i, s.2.1 ≤ i → i < s.2.2 → isLt (B i) = true) ∨ (mD m 40 20 = 4 ∧ s.1 = -23))
section MNX
variable {B : Nat → Int32} {n t : Nat} {m : Mem}
theorem num_lt : ∀ (r j s : Nat), (∀ i, j ≤ i → i < j + r → isDg (B i) = true) → fold (fun i s => 10 * s + ((B i).toNatClampNeg - 48)) j r s < (s + 1) * 10 ^ r := by
  intro r
  induction r with
  | zero => intro j s _; show s < (s + 1) * 1; omega
  | succ r ih =>
    intro j s hd
    obtain ⟨k, hk, e1, e2⟩ := dg_nat (hd j (Nat.le_refl _) (by omega))
    have := ih (j + 1) (10 * s + ((B j).toNatClampNeg - 48)) (fun i h1 h2 => hd i (by omega) (by omega))
    refine Nat.lt_of_lt_of_le this ?_
    rw [e2, Nat.pow_succ, Nat.mul_comm (10 ^ r) 10, ← Nat.mul_assoc]
    exact Nat.mul_le_mul_right _ (by omega)
theorem m_sgn (h : LM B n t m) {b : Nat} (hb : b < n) (h19 : mD m 40 19 = nI b) (h20 : mD m 40 20 = 4) (h21 : mD m 40 21 = nI b) (x : Int32) : Ev pNx (MT B n (sgn x, b, b + 1)) (if x = 40 then F_X6_next_300 m x else if x = 41 then F_X6_next_300 m x else if x = 59 then F_X6_next_300 m x else if x = 43 then F_X6_next_300 m x else if x = 45 then F_X6_next_300 m x else if x = 42 then F_X6_next_300 m x else if x = 60 then F_X6_next_300 m x else if x = 61 then F_X6_next_300 m x else some ((), m)) m () := by
  have yes : ¬ sgn x = -23 → Ev pNx (MT B n (sgn x, b, b + 1)) (F_X6_next_300 m x) m () := fun hs => by
    unfold F_X6_next_300
    refine Ev.namW ⟨rfl, Or.inr (Or.inl rfl)⟩ (Ev.namL ?_)
    rw [show mD (wL (wD m 40 20 3) 40 22 x.toInt64) 40 19 = nI b from by rw [mD_wL, mD_wD, if_neg (by omega)]; exact h19, nI_1]
    refine Ev.namW ⟨rfl, Or.inl rfl⟩ (Ev.ret ⟨?_, Or.inr (Or.inr (Or.inl ⟨?_, ?_, x, hs, rfl, ?_⟩))⟩)
    · rw [mD_wD, if_neg (by omega), mD_wL, mD_wD, if_neg (by omega)]; exact h21
    · rw [mD_wD, if_pos ⟨rfl, rfl⟩]
    · rw [mD_wD, if_neg (by omega), mD_wL, mD_wD, if_pos ⟨rfl, rfl⟩]
    · rw [mL_wD, mL_wL, if_pos ⟨rfl, rfl⟩]
  refine Ev.ifs (fun e => yes (by subst e; decide)) fun n1 => Ev.ifs (fun e => yes (by subst e; decide)) fun n2 => Ev.ifs (fun e => yes (by subst e; decide)) fun n3 => Ev.ifs (fun e => yes (by subst e; decide)) fun n4 => Ev.ifs (fun e => yes (by subst e; decide)) fun n5 => Ev.ifs (fun e => yes (by subst e; decide)) fun n6 => Ev.ifs (fun e => yes (by subst e; decide)) fun n7 => Ev.ifs (fun e => yes (by subst e; decide)) fun n8 => ?_
  refine Ev.ret ⟨h21, Or.inr (Or.inr (Or.inr (Or.inr ⟨h20, ?_⟩)))⟩
  simp [sgn, n1, n2, n3, n4, n5, n6, n7, n8]
theorem m_next (h : LM B n t m) {p : Nat} (hp : p ≤ n) (h19 : mD m 40 19 = nI p) : Ev pNx (MT B n (tok B n p)) (F_X6_next m) m () := by
  have hn := h.1
  have fin : ∀ (b : Nat) (m : Mem), b ≤ n → LM B n t m → mD m 40 19 = nI b → Ev pNx (MT B n (tokAt B n p b)) (nm (wD m 40 21 (mD m 40 19)) fun m11 =>
    bnd (F_X6_byteAt m11 (mD m11 40 19)) fun v12 m13 =>
    nm (wD m13 40 20 4) fun m16 =>
    if 0 ≤ v12 then
     bnd (F_X6_in m16 v12.toInt64 97 122) fun v18 m19 =>
     if (bz v18) = 0 then
      bnd (F_X6_in m19 v12.toInt64 48 57) fun v23 m24 =>
      if (bz v23) = 0 then
       if v12 = 40 then F_X6_next_300 m24 v12 else if v12 = 41 then F_X6_next_300 m24 v12 else if v12 = 59 then F_X6_next_300 m24 v12 else if v12 = 43 then F_X6_next_300 m24 v12 else if v12 = 45 then F_X6_next_300 m24 v12 else if v12 = 42 then F_X6_next_300 m24 v12 else if v12 = 60 then F_X6_next_300 m24 v12 else if v12 = 61 then F_X6_next_300 m24 v12 else some ((), m24)
      else
       nm (wD m24 40 20 2) fun m36 =>
       nm (wL m36 40 22 0) fun m37 =>
       F_X6_next_160 FU m37 0
     else
      nm (wD m19 40 20 1) fun m38 =>
      F_X6_next_100 FU m38
    else
     nm (wD m16 40 20 0) fun m39 =>
     nm (wD m39 40 21 (mD m39 40 18)) fun m40 =>
     some ((), m40)) m () := by
    intro b m hb h h19
    rw [h19]
    refine Ev.namW ⟨rfl, Or.inr (Or.inr rfl)⟩ ?_
    have h1 := h.ag (Ag.d (P := pNx) (v := nI b) (k := 40) (i := 21) ⟨rfl, Or.inr (Or.inr rfl)⟩)
    have h191 : mD (wD m 40 21 (nI b)) 40 19 = nI b := by rw [mD_wD, if_neg (by omega)]; exact h19
    have h211 : mD (wD m 40 21 (nI b)) 40 21 = nI b := by rw [mD_wD, if_pos ⟨rfl, rfl⟩]
    generalize wD m 40 21 (nI b) = m1 at h1 h191 h211
    rw [h191, m_byteAt h1 (by omega), bnd_eq]
    refine Ev.namW ⟨rfl, Or.inr (Or.inl rfl)⟩ ?_
    have h2 := h1.ag (Ag.d (P := pNx) (v := 4) (k := 40) (i := 20) ⟨rfl, Or.inr (Or.inl rfl)⟩)
    have h192 : mD (wD m1 40 20 4) 40 19 = nI b := by rw [mD_wD, if_neg (by omega)]; exact h191
    have h212 : mD (wD m1 40 20 4) 40 21 = nI b := by rw [mD_wD, if_neg (by omega)]; exact h211
    have h202 : mD (wD m1 40 20 4) 40 20 = 4 := by rw [mD_wD, if_pos ⟨rfl, rfl⟩]
    generalize wD m1 40 20 4 = m2 at h2 h192 h212 h202
    unfold tokAt bt
    by_cases hbn : b < n
    · simp only [if_pos hbn, if_neg (show ¬ n ≤ b by omega)]
      rw [if_pos (h2.2.2.2.2.2 b hbn), m_inL, bnd_eq]
      simp only [bz0]
      cases hl : isLt (B b) with
      | true =>
        simp only [Bool.true_eq_false, if_false, if_true]
        refine Ev.namW ⟨rfl, Or.inr (Or.inl rfl)⟩ ?_
        have hs := scan_le isLt B (n - b) b
        refine ((m_letters (n - b) b FU _ (by omega) (hFU (by omega)) (h2.ag (Ag.d ⟨rfl, Or.inr (Or.inl rfl)⟩)) (by rw [mD_wD, if_neg (by omega)]; exact h192)).imA fun m' ha hm' => ?_).mono fun k i hp => p19.n hp
        refine ⟨?_, Or.inr (Or.inr (Or.inr (Or.inl ⟨hm', ?_, rfl, ?_, ?_, fun i h1 h2 => scan_all isLt B (n - b) b i h1 h2⟩)))⟩
        · rw [ha.2 40 21 (by unfold p19; omega), mD_wD, if_neg (by omega)]; exact h212
        · rw [ha.2 40 20 (by unfold p19; omega), mD_wD, if_pos ⟨rfl, rfl⟩]
        · dsimp only; omega
        · dsimp only; omega
      | false =>
        simp only [if_true, Bool.false_eq_true, if_false]
        rw [m_inD, bnd_eq]
        cases hd : isDg (B b) with
        | true =>
          simp only [Bool.true_eq_false, if_false, if_true]
          refine Ev.namW ⟨rfl, Or.inr (Or.inl rfl)⟩ (Ev.namL ?_)
          have hs := scan_le isDg B (n - b) b
          refine (m_digits (n - b) b FU 0 0 _ (by omega) (hFU (by omega)) (by omega) ((h2.ag (Ag.d ⟨rfl, Or.inr (Or.inl rfl)⟩)).ag Ag.l) (by rw [mD_wL, mD_wD, if_neg (by omega)]; exact h192) (fun _ => by rw [mL_wL, if_pos ⟨rfl, rfl⟩]; rfl)).im fun m' hm' => ?_
          obtain ⟨q1, q2, q3, q4⟩ := hm'
          rw [Nat.zero_add] at q3 q4
          refine ⟨?_, ?_⟩
          · rw [q2, mD_wL, mD_wD, if_neg (by omega)]; exact h212
          · by_cases h5 : scan isDg B (n - b) b - b ≤ 4
            · obtain ⟨u1, u2⟩ := q3 h5
              refine Or.inr (Or.inl ⟨q1, u1, numN B b (scan isDg B (n - b) b - b), ?_, ?_, u2⟩)
              · refine Nat.lt_of_lt_of_le (num_lt _ b 0 (fun i h1 h2 => scan_all isDg B (n - b) b i h1 (by omega))) ?_
                have : (10 : Nat) ^ (scan isDg B (n - b) b - b) ≤ 10 ^ 4 := Nat.pow_le_pow_right (by decide) h5
                omega
              · simp only [if_pos h5]
            · refine Or.inr (Or.inr (Or.inr (Or.inr ⟨q4 h5, ?_⟩)))
              simp only [if_neg h5]
        | false =>
          simp only [if_true, Bool.false_eq_true, if_false]
          exact m_sgn h2 hbn h192 h202 h212 (B b)
    · simp only [if_neg hbn, if_pos (show n ≤ b by omega)]
      rw [if_neg (by decide)]
      refine Ev.namW ⟨rfl, Or.inr (Or.inl rfl)⟩ (Ev.namW ⟨rfl, Or.inr (Or.inr rfl)⟩ (Ev.ret ⟨?_, Or.inl ⟨rfl, ?_⟩⟩))
      · rw [mD_wD, if_pos ⟨rfl, rfl⟩, mD_wD, if_neg (by omega), h2.2.2.2.1]
        exact nI_cong (by dsimp only; omega)
      · rw [mD_wD, if_neg (by omega), mD_wD, if_pos ⟨rfl, rfl⟩]
  have key : ∀ (r j fu : Nat) (m : Mem), j + r = n → r < fu → LM B n t m → mD m 40 19 = nI j → Ev pNx (MT B n (tokAt B n p (scan isBl B r j))) (F_X6_next_0 fu m) m () := by
    intro r
    induction r with
    | zero =>
      intro j fu m hj hf h h19
      cases fu with
      | zero => omega
      | succ fu =>
        unfold F_X6_next_0 scan
        have f := fin j m (by omega) h h19
        rw [h19, m_byteAt h (by omega), bnd_eq, bt, if_pos (show n ≤ j by omega), if_neg (by decide), h19, m_byteAt h (by omega), bnd_eq, bt, if_pos (show n ≤ j by omega), if_neg (by decide)]
        exact f
    | succ r ih =>
      intro j fu m hj hf h h19
      cases fu with
      | zero => omega
      | succ fu =>
        unfold F_X6_next_0 F_X6_next_26 scan
        have f := fin j m (by omega) h h19
        have go := ih (j + 1) fu (wD m 40 19 (nI (j + 1))) (by omega) (by omega) (h.ag (Ag.d ⟨rfl, Or.inl rfl⟩)) (by rw [mD_wD, if_pos ⟨rfl, rfl⟩])
        have go' : Ev pNx (MT B n (tokAt B n p (scan isBl B r (j + 1)))) (nm (wD m 40 19 (mD m 40 19 + 1)) fun m72 => F_X6_next_0 fu m72) m () := by
          rw [h19, nI_1]; exact Ev.namW ⟨rfl, Or.inl rfl⟩ go
        rw [h19] at f go' ⊢
        rw [m_byteAt h (by omega), bnd_eq, bt, if_neg (show ¬ n ≤ j by omega)]
        by_cases e1 : B j = 32
        · rw [if_pos e1, if_pos (by simp [isBl, e1])]; rw [h19]; exact go'
        · rw [if_neg e1, h19, m_byteAt h (by omega), bnd_eq, bt, if_neg (show ¬ n ≤ j by omega)]
          by_cases e2 : B j = 10
          · rw [if_pos e2, if_pos (by simp [isBl, e2])]; rw [h19]; exact go'
          · rw [if_neg e2, if_neg (by simp [isBl, e1, e2])]; rw [h19]; exact f
  unfold F_X6_next tok
  exact key (n - p) p FU m (by omega) (hFU (by omega)) h h19
end MNX
