/-- the text at cell q says S -/
def TX (m : Mem) (q : Nat) (S : Nat → (Int32 → Int32) → Int32) : Prop := isT m q ∧ isTc q ∧ ∃ c0 c1 c2 : List Int32, mD m (q + 2) 0 = nI c0.length ∧ mD m (q + 2) 1 = nI (c0.length + c1.length) ∧ mD m (q + 2) 2 = nI (c0.length + c1.length + c2.length) ∧ (mK m (q + 1)).2 = c0.length + c1.length + c2.length ∧ c0.length + c1.length + c2.length ≤ 160 ∧ (∀ j, j < c0.length + c1.length + c2.length → mD m (q + 1) j = (c0 ++ (c1 ++ c2)).getD j 0) ∧ ∀ E, S 0 E = (runS E c0 []).headD 0 ∧ S 1 E = (runS E c1 []).headD 0 ∧ S 2 E = (runS E c2 []).headD 0
theorem TX.ag {m m' : Mem} {q : Nat} {S : Nat → (Int32 → Int32) → Int32} {P : Nat → Nat → Prop} (h : TX m q S) (ha : Ag P m m') (h1 : ∀ i, ¬ P (q + 1) i) (h2 : ∀ i, ¬ P (q + 2) i) : TX m' q S := by
  obtain ⟨t1, t2, c0, c1, c2, e0, e1, e2, e3, e4, e5, e6⟩ := h
  refine ⟨t1.sh ha.1, t2, c0, c1, c2, ?_, ?_, ?_, ?_, e4, fun j hj => ?_, e6⟩
  · rw [ha.2 _ _ (h2 _)]; exact e0
  · rw [ha.2 _ _ (h2 _)]; exact e1
  · rw [ha.2 _ _ (h2 _)]; exact e2
  · rw [ha.1.2.2.1]; exact e3
  · rw [ha.2 _ _ (h1 _)]; exact e5 j hj
theorem getD_app_r {a b : List Int32} {j : Nat} : (a ++ b).getD (a.length + j) 0 = b.getD j 0 := by
  rw [List.getD_eq_getElem?_getD, List.getD_eq_getElem?_getD, List.getElem?_append_right (by omega), Nat.add_sub_cancel_left]
theorem getD_app_l {a b : List Int32} {j : Nat} (h : j < a.length) : (a ++ b).getD j 0 = a.getD j 0 := by
  rw [List.getD_eq_getElem?_getD, List.getD_eq_getElem?_getD, List.getElem?_append_left h]
abbrev TT : Mem → Prop := fun _ => True
theorem x_worked {m : Mem} {q p c : Nat} {S : Nat → (Int32 → Int32) → Int32} (h : TX m q S) (hp : p < 3) (hc : ∀ i, ¬ pSt c i) (age day : Int32) : Ev pSt TT (F_X4_worked m q (nI p) c age day) m (S p (envC (mD m c) age day)) := by
  obtain ⟨t1, t2, c0, c1, c2, e0, e1, e2, e3, e4, e5, e6⟩ := h
  obtain ⟨s0, s1, s2⟩ := e6 (envC (mD m c) age day)
  have hFU : ∀ n, n ≤ 160 → n < FU := fun n h => by show n < 5000; omega
  unfold F_X4_worked F_X4_worked_19
  rcases (show p = 0 ∨ p = 1 ∨ p = 2 by omega) with rfl | rfl | rfl
  · refine Ev.ift rfl ?_
    rw [s0]
    exact worked_loop q 0 c age day _ _ e4 t2 (by decide) hc c0 FU 0 m [] e3 rfl (by rw [e0, Nat.zero_add]) (by omega) (fun j hj => by rw [Nat.zero_add, e5 j (by omega), getD_app_l hj]) (fun j hj => absurd hj (Nat.not_lt_zero j)) (Nat.le_refl 0) (hFU _ (by omega))
  · refine Ev.iff (by decide) ?_
    refine Ev.gif (show vp_in (nI 0) 3 from vp_n (by decide) (by decide)) ?_
    rw [show (nI 1 - 1).toNatClampNeg = 0 from rfl, e0, s1]
    exact worked_loop q 1 c age day _ _ e4 t2 (by decide) hc c1 FU c0.length m [] e3 rfl e1 (by omega) (fun j hj => by rw [e5 _ (by omega), getD_app_r, getD_app_l hj]) (fun j hj => absurd hj (Nat.not_lt_zero j)) (Nat.zero_le _) (hFU _ (by omega))
  · refine Ev.iff (by decide) ?_
    refine Ev.gif (show vp_in (nI 1) 3 from vp_n (by decide) (by decide)) ?_
    rw [show (nI 2 - 1).toNatClampNeg = 1 from rfl, e1, s2]
    exact worked_loop q 2 c age day _ _ e4 t2 (by decide) hc c2 FU (c0.length + c1.length) m [] e3 rfl e2 (by omega) (fun j hj => by rw [e5 _ (by omega), Nat.add_assoc, getD_app_r, getD_app_r]) (fun j hj => absurd hj (Nat.not_lt_zero j)) (Nat.zero_le _) (hFU _ (by omega))
/-! turns, gives, goes off, worth -/
def pT (S : Nat → (Int32 → Int32) → Int32) (c : Nat → Int32) (age day : Int32) : Int32 := if c 0 = 5 then 1000 else
  nm (cl (S 0 (envC c age day)) 0 99) fun v => cl (if c 0 = 1 then v + c 1 / 2 else if c 0 = 3 then 2 * (v + c 1 / 2) else if c 0 = 2 then v / 2 else if c 0 = 4 then cl (v / 2) 0 3 else v) 1 1000
def pG (S : Nat → (Int32 → Int32) → Int32) (c : Nat → Int32) (age day : Int32) : Int32 := if c 0 = 5 then 0 else
  nm (cl (S 1 (envC c age day)) (-99) 99) fun v => nm (if c 3 = 0 then 0 else v) fun d => cl (if c 0 = 1 then d else if c 0 = 3 then d + c 1 * c 3 else if c 0 = 2 then v + 3 else if c 0 = 4 then -(v + 3) else v) (-999) 999
def pO (S : Nat → (Int32 → Int32) → Int32) (c : Nat → Int32) (age day : Int32) : Int32 := if c 0 = 5 then 0 else if (c 0 = 1 ∨ c 0 = 3) ∧ ¬ c 3 ≤ 6 then 0 else
  nm (cl (S 2 (envC c age day)) 0 99) fun v => cl (if c 0 = 2 ∨ c 0 = 4 then 2 * v else v) 0 99
def pW (S : Nat → (Int32 → Int32) → Int32) (c : Nat → Int32) (age day : Int32) : Int32 := nm (pT S c age day) fun t => if t ≤ age then nm (pG S c age day) fun g => if 0 ≤ g then nm (g - pO S c age day * (age - t)) fun l => (if 0 ≤ l then l else 0) else g else c 2
theorem cl_nat {x : Int32} {hi : Nat} (hh : hi < 1000) : ∃ k, k ≤ hi ∧ cl x 0 (nI hi) = nI k := by
  unfold cl
  simp only [Int32.lt_iff_toInt_lt, nI_toInt (show hi < 2 ^ 31 by omega), Int32.toInt_zero]
  by_cases h1 : x.toInt < 0
  · exact ⟨0, by omega, by rw [if_pos h1]; rfl⟩
  · by_cases h2 : (hi : Int) < x.toInt
    · exact ⟨hi, by omega, by rw [if_neg h1, if_pos h2]⟩
    · refine ⟨x.toInt.toNat, by omega, ?_⟩
      rw [if_neg h1, if_neg h2]
      apply Int32.toInt_inj.mp
      rw [nI_toInt (by omega)]
      omega
theorem cl99 (x : Int32) : ∃ k, k < 100 ∧ cl x 0 99 = nI k := by
  obtain ⟨k, h1, h2⟩ := cl_nat (x := x) (hi := 99) (by decide)
  exact ⟨k, by omega, h2⟩
theorem wage3 : ∀ k, k < 100 → (if (3 : Int32) < nI k / 2 then (3 : Int32) else nI k / 2) = cl (nI k / 2) 0 3 := by decide +kernel
theorem cl_id99 : ∀ k, k < 100 → cl (nI k) 0 99 = nI k := by decide +kernel
section XW
variable {m : Mem} {q c : Nat} {S : Nat → (Int32 → Int32) → Int32} {age day : Int32}
theorem row_ag {m m' : Mem} {c : Nat} (ha : Ag pSt m m') (hc : ∀ i, ¬ pSt c i) : mD m' c = mD m c := funext fun f => ha.2 c f (hc f)
theorem x_turnsOf (h : TX m q S) (hc : ∀ i, ¬ pSt c i) : Ev pSt TT (F_X4_turnsOf m q c age day) m (pT S (mD m c) age day) := by
  unfold F_X4_turnsOf pT
  by_cases h5 : mD m c 0 = 5
  · rw [if_pos h5, if_pos h5]; exact Ev.ret trivial
  rw [if_neg h5, if_neg h5]
  refine Ev.bdA (x_worked (p := 0) h (by decide) hc age day) fun m' ha _ => ?_
  have hrow := row_ag ha hc
  simp only [x_bounded _ _ 0 99 (by decide), x_bounded _ _ 1 1000 (by decide), bnd_eq, nm]
  obtain ⟨k, hk, ek⟩ := cl99 (S 0 (envC (mD m c) age day))
  rw [ek, hrow]
  have hw := wage3 k hk
  rw [← hw]
  clear hw hk ek
  generalize nI k = v
  generalize mD m c 0 = k at h5 ⊢
  by_cases k1 : k = 1
  · subst k1; simp +decide only [ite_true, ite_false, true_or, or_true, or_self, false_or, or_false, true_and, false_and, not_true_eq_false, not_false_eq_true]; exact Ev.ret trivial
  by_cases k2 : k = 2
  · subst k2; simp +decide only [ite_true, ite_false, true_or, or_true, or_self, false_or, or_false, true_and, false_and, not_true_eq_false, not_false_eq_true]; exact Ev.ret trivial
  by_cases k3 : k = 3
  · subst k3; simp +decide only [ite_true, ite_false, true_or, or_true, or_self, false_or, or_false, true_and, false_and, not_true_eq_false, not_false_eq_true]; exact Ev.ret trivial
  by_cases k4 : k = 4
  · subst k4; simp +decide only [ite_true, ite_false, true_or, or_true, or_self, false_or, or_false, true_and, false_and, not_true_eq_false, not_false_eq_true]; exact Ev.ret trivial
  simp only [k1, k2, k3, k4, ite_false, or_self, false_and]; exact Ev.ret trivial
theorem x_givesOf (h : TX m q S) (hc : ∀ i, ¬ pSt c i) : Ev pSt TT (F_X4_givesOf m q c age day) m (pG S (mD m c) age day) := by
  unfold F_X4_givesOf pG
  by_cases h5 : mD m c 0 = 5
  · rw [if_pos h5, if_pos h5]; exact Ev.ret trivial
  rw [if_neg h5, if_neg h5]
  refine Ev.bdA (x_worked (p := 1) h (by decide) hc age day) fun m' ha _ => ?_
  have hrow := row_ag ha hc
  simp only [F_X4_givesOf_40, x_bounded _ _ (-99) 99 (by decide), x_bounded _ _ (-999) 999 (by decide), bnd_eq, nm]
  rw [hrow]
  by_cases h3 : mD m c 3 = 0
  · rw [if_pos h3, if_pos h3]
    generalize mD m c 0 = k at h5 ⊢
    by_cases k1 : k = 1
    · subst k1; simp +decide only [ite_true, ite_false, true_or, or_true, or_self, false_or, or_false, true_and, false_and, not_true_eq_false, not_false_eq_true]; exact Ev.ret trivial
    by_cases k2 : k = 2
    · subst k2; simp +decide only [ite_true, ite_false, true_or, or_true, or_self, false_or, or_false, true_and, false_and, not_true_eq_false, not_false_eq_true]; exact Ev.ret trivial
    by_cases k3 : k = 3
    · subst k3; simp +decide only [ite_true, ite_false, true_or, or_true, or_self, false_or, or_false, true_and, false_and, not_true_eq_false, not_false_eq_true]; exact Ev.ret trivial
    by_cases k4 : k = 4
    · subst k4; simp +decide only [ite_true, ite_false, true_or, or_true, or_self, false_or, or_false, true_and, false_and, not_true_eq_false, not_false_eq_true]; exact Ev.ret trivial
    simp only [k1, k2, k3, k4, ite_false, or_self, false_and]; exact Ev.ret trivial
  · rw [if_neg h3, if_neg h3]
    generalize mD m c 0 = k at h5 ⊢
    by_cases k1 : k = 1
    · subst k1; simp +decide only [ite_true, ite_false, true_or, or_true, or_self, false_or, or_false, true_and, false_and, not_true_eq_false, not_false_eq_true]; exact Ev.ret trivial
    by_cases k2 : k = 2
    · subst k2; simp +decide only [ite_true, ite_false, true_or, or_true, or_self, false_or, or_false, true_and, false_and, not_true_eq_false, not_false_eq_true]; exact Ev.ret trivial
    by_cases k3 : k = 3
    · subst k3; simp +decide only [ite_true, ite_false, true_or, or_true, or_self, false_or, or_false, true_and, false_and, not_true_eq_false, not_false_eq_true]; exact Ev.ret trivial
    by_cases k4 : k = 4
    · subst k4; simp +decide only [ite_true, ite_false, true_or, or_true, or_self, false_or, or_false, true_and, false_and, not_true_eq_false, not_false_eq_true]; exact Ev.ret trivial
    simp only [k1, k2, k3, k4, ite_false, or_self, false_and]; exact Ev.ret trivial
theorem x_goesOffOf (h : TX m q S) (hc : ∀ i, ¬ pSt c i) : Ev pSt TT (F_X4_goesOffOf m q c age day) m (pO S (mD m c) age day) := by
  unfold F_X4_goesOffOf pO
  by_cases h5 : mD m c 0 = 5
  · rw [if_pos h5, if_pos h5]; exact Ev.ret trivial
  rw [if_neg h5, if_neg h5]
  refine Ev.bdA (x_worked (p := 2) h (by decide) hc age day) fun m' ha _ => ?_
  have hrow := row_ag ha hc
  simp only [F_X4_goesOffOf_60, F_X4_goesOffOf_76, x_bounded _ _ 0 99 (by decide), bnd_eq, nm]
  obtain ⟨k, hk, ek⟩ := cl99 (S 2 (envC (mD m c) age day))
  rw [ek, hrow]
  have hw := cl_id99 k hk
  clear hk ek
  generalize nI k = v at hw ⊢
  by_cases h3 : mD m c 3 ≤ 6
  · simp only [h3, ite_true, not_true_eq_false, and_false, ite_false]
    generalize mD m c 0 = k at h5 ⊢
    by_cases k1 : k = 1
    · subst k1; simp +decide only [ite_true, ite_false, true_or, or_true, or_self, false_or, or_false, true_and, false_and, not_true_eq_false, not_false_eq_true]; first | exact Ev.ret trivial | (rw [hw]; exact Ev.ret trivial)
    by_cases k2 : k = 2
    · subst k2; simp +decide only [ite_true, ite_false, true_or, or_true, or_self, false_or, or_false, true_and, false_and, not_true_eq_false, not_false_eq_true]; first | exact Ev.ret trivial | (rw [hw]; exact Ev.ret trivial)
    by_cases k3 : k = 3
    · subst k3; simp +decide only [ite_true, ite_false, true_or, or_true, or_self, false_or, or_false, true_and, false_and, not_true_eq_false, not_false_eq_true]; first | exact Ev.ret trivial | (rw [hw]; exact Ev.ret trivial)
    by_cases k4 : k = 4
    · subst k4; simp +decide only [ite_true, ite_false, true_or, or_true, or_self, false_or, or_false, true_and, false_and, not_true_eq_false, not_false_eq_true]; first | exact Ev.ret trivial | (rw [hw]; exact Ev.ret trivial)
    simp only [k1, k2, k3, k4, ite_false, or_self, false_and]; first | exact Ev.ret trivial | (rw [hw]; exact Ev.ret trivial)
  · simp only [h3, ite_false, not_false_eq_true, and_true]
    generalize mD m c 0 = k at h5 ⊢
    by_cases k1 : k = 1
    · subst k1; simp +decide only [ite_true, ite_false, true_or, or_true, or_self, false_or, or_false, true_and, false_and, not_true_eq_false, not_false_eq_true]; first | exact Ev.ret trivial | (rw [hw]; exact Ev.ret trivial)
    by_cases k2 : k = 2
    · subst k2; simp +decide only [ite_true, ite_false, true_or, or_true, or_self, false_or, or_false, true_and, false_and, not_true_eq_false, not_false_eq_true]; first | exact Ev.ret trivial | (rw [hw]; exact Ev.ret trivial)
    by_cases k3 : k = 3
    · subst k3; simp +decide only [ite_true, ite_false, true_or, or_true, or_self, false_or, or_false, true_and, false_and, not_true_eq_false, not_false_eq_true]; first | exact Ev.ret trivial | (rw [hw]; exact Ev.ret trivial)
    by_cases k4 : k = 4
    · subst k4; simp +decide only [ite_true, ite_false, true_or, or_true, or_self, false_or, or_false, true_and, false_and, not_true_eq_false, not_false_eq_true]; first | exact Ev.ret trivial | (rw [hw]; exact Ev.ret trivial)
    simp only [k1, k2, k3, k4, ite_false, or_self, false_and]; first | exact Ev.ret trivial | (rw [hw]; exact Ev.ret trivial)
theorem x_worthOf (h : TX m q S) (hc : ∀ i, ¬ pSt c i) : Ev pSt TT (F_X4_worthOf m q c age day) m (pW S (mD m c) age day) := by
  unfold F_X4_worthOf pW
  simp only [nm]
  refine Ev.bdA (x_turnsOf h hc) fun m1 a1 _ => ?_
  have h1 := h.ag a1 (fun _ => h.2.1.n1) (fun _ => h.2.1.n2)
  by_cases ht : pT S (mD m c) age day ≤ age
  · rw [if_pos ht, if_pos ht]
    refine Ev.bdA (x_givesOf h1 hc) fun m2 a2 _ => ?_
    have h2 := h1.ag a2 (fun _ => h1.2.1.n1) (fun _ => h1.2.1.n2)
    rw [row_ag a1 hc]
    by_cases hg : 0 ≤ pG S (mD m c) age day
    · rw [if_pos hg, if_pos hg]
      refine Ev.bdA (x_goesOffOf h2 hc) fun m3 a3 _ => ?_
      rw [row_ag a2 hc, row_ag a1 hc]
      refine Ev.of ?_ (Ev.ret trivial)
      generalize pG S (mD m c) age day - pO S (mD m c) age day * (age - pT S (mD m c) age day) = z
      congr 2
      simp only [Int32.lt_iff_toInt_lt, Int32.le_iff_toInt_le]
      by_cases h0 : (0 : Int32).toInt < z.toInt
      · rw [if_pos h0, if_pos (by omega)]
      · rw [if_neg h0]
        by_cases hz : (0 : Int32).toInt ≤ z.toInt
        · rw [if_pos hz]; exact Int32.toInt_inj.mp (by omega)
        · rw [if_neg hz]
    · rw [if_neg hg, if_neg hg]; exact Ev.ret trivial
  · rw [if_neg ht, if_neg ht]
    rw [show mD m c 2 = mD m1 c 2 from (a1.2 c 2 (hc 2)).symm]
    exact Ev.ret trivial
end XW
