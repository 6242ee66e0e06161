/-! the reference's loops over the coins -/
section LI
variable {α σ : Type} {P : Nat → Nat → Prop} {Q : Mem → Prop}
/-- a loop from 0 up to n, with what is known of its state -/
theorem Ev.loopI {L : Nat → Mem → σ → Int32 → Option (α × Mem)} {n : Nat} {st : Nat → σ → σ} {ex : σ → α} {RR : Nat → Mem → Prop} {I : Nat → σ → Prop}
    (hI : ∀ i s, i < n → I i s → I (i + 1) (st i s))
    (hx : ∀ fu m s, I n s → RR n m → Ev P Q (L (fu + 1) m s (nI n)) m (ex s))
    (hs : ∀ fu m s i, i < n → I i s → RR i m → ∀ w, (∀ m', RR (i + 1) m' → Ev P Q (L fu m' (st i s) (nI (i + 1))) m' w) → Ev P Q (L (fu + 1) m s (nI i)) m w) :
    ∀ (r i fu : Nat) (m : Mem) (s : σ), i + r = n → r < fu → I i s → RR i m → Ev P Q (L fu m s (nI i)) m (ex (fold st i r s)) := by
  intro r
  induction r with
  | zero =>
    intro i fu m s hn hf hi hR
    cases fu with
    | zero => omega
    | succ fu =>
      have : i = n := by omega
      subst this
      exact hx fu m s hi hR
  | succ r ih =>
    intro i fu m s hn hf hi hR
    cases fu with
    | zero => omega
    | succ fu => exact hs fu m s i (by omega) hi hR _ fun m' hR' => ih (i + 1) fu m' (st i s) (by omega) (by omega) (hI i s (by omega) hi) hR'
end LI
def bitsF : Nat → Int32 → Int32 → Int32
  | 0, a, _ => a
  | r + 1, a, x => if x = 0 then a else bitsF r (a + 1) (x &&& (x - 1))
def bitsZ : Nat → Int32 → Int32
  | 0, x => x
  | r + 1, x => if x = 0 then 0 else bitsZ r (x &&& (x - 1))
theorem bitsL (m : Mem) : ∀ (r fu : Nat) (a x : Int32), r < fu → bitsZ r x = 0 → F_X6_bitsOf_4 fu m a x = some (bitsF r a x, m) := by
  intro r
  induction r with
  | zero =>
    intro fu a x hf hz
    cases fu with
    | zero => omega
    | succ fu => unfold F_X6_bitsOf_4; rw [if_pos (show x = 0 from hz)]; rfl
  | succ r ih =>
    intro fu a x hf hz
    cases fu with
    | zero => omega
    | succ fu =>
      unfold F_X6_bitsOf_4 bitsF
      unfold bitsZ at hz
      by_cases h0 : x = 0
      · rw [if_pos h0, if_pos h0]
      · rw [if_neg h0, if_neg h0]
        rw [if_neg h0] at hz
        exact ih fu _ _ (by omega) hz
theorem bits256 : ∀ k, k < 256 → bitsZ 8 (nI k) = 0 ∧ bitsF 8 0 (nI k) = bc (nI k) := by decide +kernel
theorem m_bits (m : Mem) {k : Nat} (hk : k < 256) : F_X6_bitsOf m (nI k) = some (bc (nI k), m) := by
  obtain ⟨h1, h2⟩ := bits256 k hk
  unfold F_X6_bitsOf
  rw [bitsL m 8 FU 0 (nI k) (hFU (by omega)) h1, h2]
theorem or_bit : ∀ i, i < 8 → ∀ k, k < 256 → nI k ||| bit (nI i) = nI (k ||| 2 ^ i) ∧ k ||| 2 ^ i < 256 := by decide +kernel
theorem mask_nat (b : Nat → Bool) : ∀ (r i k : Nat), i + r ≤ 8 → k < 256 → ∃ j, j < 256 ∧ fold (fun i s => if b i = true then s ||| bit (nI i) else s) i r (nI k) = nI j := by
  intro r
  induction r with
  | zero => intro i k _ hk; exact ⟨k, hk, rfl⟩
  | succ r ih =>
    intro i k hi hk
    show ∃ j, j < 256 ∧ fold _ (i + 1) r (if b i = true then nI k ||| bit (nI i) else nI k) = nI j
    by_cases hb : b i = true
    · rw [if_pos hb, (or_bit i (by omega) k hk).1]
      exact ih (i + 1) _ (by omega) (or_bit i (by omega) k hk).2
    · rw [if_neg hb]; exact ih (i + 1) k (by omega) hk
theorem purse_nat {v : VW} (hn : vn v ≤ 8) (p k : Int32) : ∃ j, j < 256 ∧ purse v p k = nI j := by
  obtain ⟨j, h1, h2⟩ := mask_nat (fun i => decide (vc v i 5 = p ∧ whole v (vc v i) k = true)) (vn v) 0 0 (by omega) (by omega)
  refine ⟨j, h1, ?_⟩
  rw [← h2]
  unfold purse
  refine fold_congr (n := vn v) (fun i s _ => ?_) (vn v) 0 0 (by omega)
  simp
theorem sh0 : ∀ i, i < 8 → (0 : Int32) <<< (nI i &&& 31) = 0 := by decide
theorem pow8 : ∀ n, n < 9 → (1 : Int32) <<< (nI n &&& 31) = nI (2 ^ n) ∧ 2 ^ n ≤ 256 := by decide
theorem hb_iff {a i : Int32} : ((a >>> (i &&& 31)) &&& 1 = 1) = (hb a i = true) := by simp [hb]
section ML
variable {v : VW} {m : Mem}
theorem RepM.hd (h : RepM v m) {i : Nat} (hi : i < vn v) : ¬ mD m 40 10 ≤ nI i := by
  rw [h.2.1, nI_le' (by have := h.1; omega) (by have := h.1; omega)]; omega
theorem RepM.ex (h : RepM v m) : mD m 40 10 ≤ nI (vn v) := by
  rw [h.2.1, nI_le' (by have := h.1; omega) (by have := h.1; omega)]; omega
theorem m_isOf (h : RepM v m) {c : Nat} (hc : c < vn v) (p : Int32) : F_X6_isOf m (nI c) p = some (decide (vc v c 5 = p), m) := by
  have := h.1
  unfold F_X6_isOf
  rw [m5, nI_4, gIf_pos (vp_n (show 5 * c + 4 < 40 by omega) (by decide)), nI_c (by omega), h.k5 hc]
  by_cases ho : vc v c 5 = p
  · rw [if_pos ho]; simp [ho]
  · rw [if_neg ho]; simp [ho]
theorem m_rich (h : RepM v m) (hk : OKv v) (p : Int32) : Ev pSa (RepM v) (F_X6_richOf m p) m (rich v p 0) := by
  unfold F_X6_richOf rich
  refine Ev.loop (L := fun fu m s i => F_X6_richOf_4 fu m p s i) (n := vn v) (ex := id) (RR := fun _ => RepM v) (fun fu m s h => ?_) (fun fu m s i hi h w hw => ?_) (vn v) 0 FU m 0 (by omega) (hFU (by have := h.1; omega)) h
  · show Ev pSa (RepM v) (F_X6_richOf_4 (fu + 1) m p s (nI (vn v))) m s
    unfold F_X6_richOf_4
    rw [if_pos h.ex]; exact Ev.ret h
  · show Ev pSa (RepM v) (F_X6_richOf_4 (fu + 1) m p s (nI i)) m w
    unfold F_X6_richOf_4 F_X6_richOf_31
    simp only [nI_1, nm]
    rw [if_neg (h.hd hi), m_isOf h hi, bnd_eq]
    simp only [bz0]
    by_cases ho : vc v i 5 = p
    · rw [if_neg (by simp [ho])]
      refine Ev.bd (h.lift (m_worthOf h hk hi)) fun m' h' => ?_
      simpa [ho] using hw m' h'
    · rw [if_pos (by simp [ho])]
      simpa [ho] using hw m h
theorem m_purse (h : RepM v m) (hk : OKv v) (p : Int32) : Ev pSa (RepM v) (F_X6_purseOf m p) m (purse v p 0) := by
  unfold F_X6_purseOf purse
  refine Ev.loop (L := fun fu m s i => F_X6_purseOf_4 fu m p s i) (n := vn v) (ex := id) (RR := fun _ => RepM v) (fun fu m s h => ?_) (fun fu m s i hi h w hw => ?_) (vn v) 0 FU m 0 (by omega) (hFU (by have := h.1; omega)) h
  · show Ev pSa (RepM v) (F_X6_purseOf_4 (fu + 1) m p s (nI (vn v))) m s
    unfold F_X6_purseOf_4
    rw [if_pos h.ex]; exact Ev.ret h
  · show Ev pSa (RepM v) (F_X6_purseOf_4 (fu + 1) m p s (nI i)) m w
    have := h.1
    unfold F_X6_purseOf_4 F_X6_purseOf_34 F_X6_purseOf_35
    simp only [nI_1, nm, sh0 i (by omega), Int32.or_zero]
    rw [if_neg (h.hd hi), m_isOf h hi, bnd_eq]
    simp only [bz0]
    by_cases ho : vc v i 5 = p
    · rw [if_neg (by simp [ho])]
      refine Ev.bd (h.lift (m_isWhole h hk hi)) fun m' h' => ?_
      cases hwh : whole v (vc v i) 0 with
      | false => simpa [ho, hwh] using hw m' h'
      | true => simpa [ho, hwh, bit] using hw m' h'
    · rw [if_pos (by simp [ho])]
      simpa [ho] using hw m h
theorem m_vals (h : RepM v m) (set : Int32) : F_X6_valuesOf m set = some (vals v set, m) := by
  refine Ev.eqm ?_
  unfold F_X6_valuesOf vals
  refine Ev.loop (L := fun fu m s i => F_X6_valuesOf_4 fu m set s i) (n := vn v) (ex := id) (RR := fun _ x => x = m) (fun fu m1 s h1 => ?_) (fun fu m1 s i hi h1 w hw => ?_) (vn v) 0 FU m 0 (by omega) (hFU (by have := h.1; omega)) rfl
  · subst h1
    show Ev pF (fun x => x = m1) (F_X6_valuesOf_4 (fu + 1) m1 set s (nI (vn v))) m1 s
    unfold F_X6_valuesOf_4
    rw [if_pos h.ex]; exact Ev.ret rfl
  · subst h1
    show Ev pF (fun x => x = m1) (F_X6_valuesOf_4 (fu + 1) m1 set s (nI i)) m1 w
    have := h.1
    unfold F_X6_valuesOf_4 F_X6_valuesOf_36
    simp only [nI_1, nm, hb_iff, m5, Int32.add_zero]
    rw [if_neg (h.hd hi), gIf_pos (vp_n (show 5 * i + 1 < 40 by omega) (by decide)), nI_c (by omega), h.k2 hi]
    cases hh : hb set (nI i) with
    | false => simpa [hh] using hw m1 rfl
    | true => simpa [hh] using hw m1 rfl
def turned (v : VW) (p : Int32) : Int32 := fold (fun i s => if vc v i 5 = p ∧ ¬ whole v (vc v i) 0 = true then s ||| bit (nI i) else s) 0 (vn v) 0
theorem m_turned (h : RepM v m) (hk : OKv v) (p : Int32) : Ev pSa (RepM v) (F_X6_turnedOf m p) m (turned v p) := by
  unfold F_X6_turnedOf turned
  refine Ev.loop (L := fun fu m s i => F_X6_turnedOf_4 fu m p s i) (n := vn v) (ex := id) (RR := fun _ => RepM v) (fun fu m s h => ?_) (fun fu m s i hi h w hw => ?_) (vn v) 0 FU m 0 (by omega) (hFU (by have := h.1; omega)) h
  · show Ev pSa (RepM v) (F_X6_turnedOf_4 (fu + 1) m p s (nI (vn v))) m s
    unfold F_X6_turnedOf_4
    rw [if_pos h.ex]; exact Ev.ret h
  · show Ev pSa (RepM v) (F_X6_turnedOf_4 (fu + 1) m p s (nI i)) m w
    have := h.1
    unfold F_X6_turnedOf_4 F_X6_turnedOf_34 F_X6_turnedOf_35
    simp only [nI_1, nm, sh0 i (by omega), Int32.or_zero]
    rw [if_neg (h.hd hi), m_isOf h hi, bnd_eq]
    simp only [bz0]
    by_cases ho : vc v i 5 = p
    · rw [if_neg (by simp [ho])]
      refine Ev.bd (h.lift (m_isWhole h hk hi)) fun m' h' => ?_
      cases hwh : whole v (vc v i) 0 with
      | false => simpa [ho, hwh, bit] using hw m' h'
      | true => simpa [ho, hwh] using hw m' h'
    · rw [if_pos (by simp [ho])]
      simpa [ho] using hw m h
theorem m_spend (h : RepM v m) (hk : OKv v) (p : Int32) : Ev pSa (RepM v) (F_X6_spendOf m p) m (spend v p) := by
  unfold F_X6_spendOf spend
  refine Ev.bd (m_purse h hk p) fun m h => ?_
  refine Ev.loop (L := fun fu m s i => F_X6_spendOf_14 fu m (purse v p 0) s.1 s.2 i) (n := vn v) (ex := fun s => s.1) (RR := fun _ => RepM v) (fun fu m s h => ?_) (fun fu m s i hi h w hw => ?_) (vn v) 0 FU m (-1, 0) (by omega) (hFU (by have := h.1; omega)) h
  · show Ev pSa (RepM v) (F_X6_spendOf_14 (fu + 1) m (purse v p 0) s.1 s.2 (nI (vn v))) m s.1
    unfold F_X6_spendOf_14
    rw [if_pos h.ex]; exact Ev.ret h
  · show Ev pSa (RepM v) (F_X6_spendOf_14 (fu + 1) m (purse v p 0) s.1 s.2 (nI i)) m w
    have := h.1
    unfold F_X6_spendOf_14 F_X6_spendOf_65 F_X6_spendOf_72
    unfold spendS at hw
    simp only [nI_1, nm, hb_iff] at hw ⊢
    rw [if_neg (h.hd hi)]
    refine Ev.bd (h.lift (m_turnsOf h hi)) fun m' h' => ?_
    have hw := hw m' h'
    rw [m5, nI_3, gIf_pos (vp_n (show 5 * i + 3 < 40 by omega) (by decide)), nI_c (by omega), h'.k4 hi]
    by_cases hh : hb (purse v p 0) (nI i) = true
    · rw [if_pos hh] at hw ⊢
      by_cases h1 : s.1 = -1
      · rw [if_pos h1] at hw ⊢; exact hw
      · rw [if_neg h1] at hw ⊢
        by_cases h2 : s.2 ≤ pT (vS v) (vc v i) (vc v i 4) (vd v) - vc v i 4
        · rw [if_pos h2] at hw ⊢; exact hw
        · rw [if_neg h2] at hw ⊢; exact hw
    · rw [if_neg hh] at hw ⊢; exact hw
/-- what is found: nothing, or a set -/
def fnd (s : Int32) : Prop := s = -1 ∨ ∃ j, j < 256 ∧ s = nI j
set_option maxRecDepth 100000 in
theorem m_exact0 (h : RepM v m) (hk : OKv v) (p price : Int32) : Ev pSa (RepM v) (F_X6_exactOf m p price) m (fold (exS v (purse v p 0) price) 0 (2 ^ vn v) (-1)) := by
  have h8 := h.1
  obtain ⟨p1, p2⟩ := pow8 (vn v) (by omega)
  unfold F_X6_exactOf
  refine Ev.bd (m_purse h hk p) fun m h => ?_
  refine Ev.loopI (L := fun fu m s i => F_X6_exactOf_12 fu m price (purse v p 0) s i) (n := 2 ^ vn v) (ex := id) (RR := fun _ => RepM v) (I := fun _ => fnd) (fun i s hi hs => ?_) (fun fu m s hs h => ?_) (fun fu m s i hi hs h w hw => ?_) (2 ^ vn v) 0 FU m (-1) (by omega) (hFU (by omega)) (Or.inl rfl) h
  · have hi' : fnd (nI i) := Or.inr ⟨i, by omega, rfl⟩
    unfold exS
    repeat' split
    all_goals first | exact hs | exact hi'
  · show Ev pSa (RepM v) (F_X6_exactOf_12 (fu + 1) m price (purse v p 0) s (nI (2 ^ vn v))) m s
    unfold F_X6_exactOf_12
    rw [h.2.1, p1, if_pos (Int32.le_refl _)]; exact Ev.ret h
  · show Ev pSa (RepM v) (F_X6_exactOf_12 (fu + 1) m price (purse v p 0) s (nI i)) m w
    have hw := hw m h
    unfold F_X6_exactOf_12 F_X6_exactOf_46 F_X6_exactOf_47 F_X6_exactOf_73 F_X6_exactOf_77
    unfold exS at hw
    simp only [nI_1, m_vals h, m_bits m (show i < 256 by omega), bnd_eq, if_true, show ¬ ((1 : Int32) = 0) by decide, if_false] at hw ⊢
    rw [h.2.1, p1, if_neg (nI_ge hi (by omega))]
    by_cases h0 : nI i &&& (purse v p 0 ^^^ -1) = 0
    · rw [if_pos h0] at hw ⊢
      by_cases h1 : vals v (nI i) = price
      · rw [if_pos h1] at hw ⊢
        by_cases h2 : s = -1
        · rw [if_pos h2] at hw ⊢; exact hw
        · rw [if_neg h2] at hw ⊢
          rcases hs with hs | ⟨j, hj, hs⟩
          · exact absurd hs h2
          · subst hs
            rw [m_bits m hj, bnd_eq]
            by_cases h3 : bc (nI j) ≤ bc (nI i)
            · rw [if_pos h3] at hw ⊢; exact hw
            · rw [if_neg h3] at hw ⊢; exact hw
      · rw [if_neg h1] at hw ⊢; exact hw
    · rw [if_neg h0] at hw ⊢; exact hw
set_option maxRecDepth 100000 in
theorem m_over0 (h : RepM v m) (hk : OKv v) (p price : Int32) : Ev pSa (RepM v) (F_X6_overOf m p price) m (fold (ovS v (purse v p 0) price) 0 (2 ^ vn v) (-1, 0)).1 := by
  have h8 := h.1
  obtain ⟨p1, p2⟩ := pow8 (vn v) (by omega)
  unfold F_X6_overOf
  refine Ev.bd (m_purse h hk p) fun m h => ?_
  refine Ev.loopI (L := fun fu m s i => F_X6_overOf_15 fu m price (purse v p 0) s.1 s.2 i) (n := 2 ^ vn v) (ex := fun s => s.1) (RR := fun _ => RepM v) (I := fun _ s => fnd s.1) (fun i s hi hs => ?_) (fun fu m s hs h => ?_) (fun fu m s i hi hs h w hw => ?_) (2 ^ vn v) 0 FU m (-1, 0) (by omega) (hFU (by omega)) (Or.inl rfl) h
  · have hi' : fnd (nI i) := Or.inr ⟨i, by omega, rfl⟩
    unfold ovS; dsimp only [nm]
    repeat' split
    all_goals first | exact hs | exact hi'
  · show Ev pSa (RepM v) (F_X6_overOf_15 (fu + 1) m price (purse v p 0) s.1 s.2 (nI (2 ^ vn v))) m s.1
    unfold F_X6_overOf_15
    rw [h.2.1, p1, if_pos (Int32.le_refl _)]; exact Ev.ret h
  · show Ev pSa (RepM v) (F_X6_overOf_15 (fu + 1) m price (purse v p 0) s.1 s.2 (nI i)) m w
    have hw := hw m h
    unfold F_X6_overOf_15 F_X6_overOf_53 F_X6_overOf_54 F_X6_overOf_94 F_X6_overOf_102
    unfold ovS at hw; dsimp only [nm] at hw
    simp only [nI_1, m_vals h, m_bits m (show i < 256 by omega), bnd_eq, if_true, show ¬ ((1 : Int32) = 0) by decide, if_false] at hw ⊢
    rw [h.2.1, p1, if_neg (nI_ge hi (by omega))]
    by_cases h0 : nI i &&& (purse v p 0 ^^^ -1) = 0
    · rw [if_pos h0] at hw ⊢
      by_cases h1 : vals v (nI i) < price
      · rw [if_pos h1] at hw ⊢; exact hw
      · rw [if_neg h1] at hw ⊢
        by_cases h2 : s.1 = -1
        · rw [if_pos h2] at hw ⊢; exact hw
        · rw [if_neg h2] at hw ⊢
          by_cases h3 : vals v (nI i) < s.2
          · rw [if_pos h3] at hw ⊢; exact hw
          · rw [if_neg h3] at hw ⊢
            by_cases h4 : vals v (nI i) = s.2
            · rw [if_pos h4] at hw ⊢
              rcases hs with hs | ⟨j, hj, hs⟩
              · exact absurd hs h2
              · rw [hs] at hw ⊢
                rw [m_bits m hj, bnd_eq]
                by_cases h5 : bc (nI j) ≤ bc (nI i)
                · rw [if_pos h5] at hw ⊢; rw [← hs]; exact hw
                · rw [if_neg h5] at hw ⊢; exact hw
            · rw [if_neg h4] at hw ⊢; exact hw
    · rw [if_neg h0] at hw ⊢; exact hw
end ML
