/-! tax and what is wise, as the reference seeks them -/
theorem bit0_256 : ∀ i, i < 8 → ∀ k, k < 256 → ((nI k >>> (nI i &&& 31)) &&& 1 = 0 ↔ k.testBit i = false) := by decide +kernel
theorem cn_rem : ∀ j, j < 8 → ∀ l, l < 256 → l.testBit j = true → cn (fun i => (l &&& (255 - 2 ^ j)).testBit i) 8 + 1 = cn (fun i => l.testBit i) 8 := by decide +kernel
theorem cn_pos {b : Nat → Bool} : ∀ n, (∀ i, i < n → b i = false) → cn b n = 0
  | 0, _ => rfl
  | n + 1, h => by rw [cn_s, h n (by omega), if_neg (by decide)]; exact cn_pos n (fun i hi => h i (by omega))
section TX
variable {v : VW} {m : Mem}
theorem most_none {ws : Nat → Int32} {l : Nat} (hl : l < 256) : ∀ (r i : Nat) (b : Int32), i + r ≤ 8 → fold (mostS ws (nI l)) i r b = -1 → b = -1 ∧ ∀ j, i ≤ j → j < i + r → l.testBit j = false := by
  intro r
  induction r with
  | zero => intro i b _ h; exact ⟨h, fun j h1 h2 => absurd h2 (by omega)⟩
  | succ r ih =>
    intro i b hi h
    have h' : fold (mostS ws (nI l)) (i + 1) r (mostS ws (nI l) i b) = -1 := h
    obtain ⟨h1, h2⟩ := ih (i + 1) _ (by omega) h'
    unfold mostS at h1
    rw [hb_256 i (by omega) l hl] at h1
    by_cases ht : l.testBit i = true
    · rw [if_pos ht] at h1
      by_cases hb : b = -1
      · rw [if_pos hb] at h1; exact absurd h1 (nI_nm1 (by omega))
      · rw [if_neg hb] at h1
        split at h1
        · exact absurd h1 hb
        · exact absurd h1 (nI_nm1 (by omega))
    · rw [if_neg ht] at h1
      refine ⟨h1, fun j j1 j2 => ?_⟩
      by_cases e : j = i
      · subst e; simpa using ht
      · exact h2 j (by omega) (by omega)
theorem m_tax (h : RepM v m) (hv : OKv v) (p : Int32) : Ev pSa (RepM v) (F_X6_taxOf m p) m (tax v p) := by
  have h8 := h.1
  have hN := cn_le (fun i => decide (vc v i 5 = p)) (vn v)
  generalize hNN : cn (fun i => decide (vc v i 5 = p)) (vn v) = N at hN
  -- the inner loop
  have inner : ∀ (K : Mem → Int32 → Int32 → Int32 → Int32 → Int32 → Option (Int32 × Mem)) (t l : Nat) (sum k w : Int32), t < 256 → l < 256 → (∀ i, i < vn v → l.testBit i = (decide (vc v i 5 = p) && !t.testBit i)) → ∀ (r c fu : Nat) (x : Mem) (b : Int32), c + r = vn v → r < fu → RepM v x → (b = -1 ∨ ∃ j, j < c ∧ vc v j 5 = p ∧ b = nI j) → (∀ x', RepM v x' → Ev pSa (RepM v) (bnd (F_X6_worthOf x' (fold (mostS (wsv v p 0) (nI l)) c r b)) fun v11 m12 => K m12 p (nI N) (nI t ||| bit (fold (mostS (wsv v p 0) (nI l)) c r b)) (sum + v11) (k + 1)) x' w) → Ev pSa (RepM v) (F_X6_taxOf_57 K fu x p (nI N) (nI t) sum k b (nI c)) x w := by
    intro K t l sum k w ht hl hlt r
    induction r with
    | zero =>
      intro c fu x b hc hf hx hb hK
      cases fu with
      | zero => omega
      | succ fu =>
        have : c = vn v := by omega
        subst this
        unfold F_X6_taxOf_57
        rw [if_pos hx.ex]
        exact hK x hx
    | succ r ih =>
      intro c fu x b hc hf hx hb hK
      cases fu with
      | zero => omega
      | succ fu =>
        have hc' : c < vn v := by omega
        have hK' : ∀ x', RepM v x' → Ev pSa (RepM v) (bnd (F_X6_worthOf x' (fold (mostS (wsv v p 0) (nI l)) (c + 1) r (mostS (wsv v p 0) (nI l) c b))) fun v11 m12 => K m12 p (nI N) (nI t ||| bit (fold (mostS (wsv v p 0) (nI l)) (c + 1) r (mostS (wsv v p 0) (nI l) c b))) (sum + v11) (k + 1)) x' w := hK
        have hb' : b = -1 ∨ ∃ j, j < c + 1 ∧ vc v j 5 = p ∧ b = nI j := by
          rcases hb with hb | ⟨j, h1, h2, h3⟩
          · exact Or.inl hb
          · exact Or.inr ⟨j, by omega, h2, h3⟩
        have hl' := hlt c hc'
        unfold F_X6_taxOf_57 F_X6_taxOf_89 F_X6_taxOf_90 F_X6_taxOf_118 F_X6_taxOf_122
        rw [if_neg (hx.hd hc'), m_isOf hx hc', bnd_eq]
        simp only [bz0, if_true, show ¬ ((1 : Int32) = 0) by decide, if_false, nI_1]
        unfold mostS at hK'
        rw [hb_256 c (by omega) l hl, hl'] at hK'
        by_cases ho : vc v c 5 = p
        · rw [if_neg (by simp [ho])]
          by_cases htb : t.testBit c = false
          · rw [if_pos ((bit0_256 c (by omega) t ht).mpr htb)]
            rw [if_pos (by simp [ho, htb])] at hK'
            by_cases hb1 : b = -1
            · rw [if_pos hb1]
              rw [if_pos hb1] at hK'
              exact ih (c + 1) fu x _ (by omega) (by omega) hx (Or.inr ⟨c, by omega, ho, rfl⟩) hK'
            · rw [if_neg hb1]
              rw [if_neg hb1] at hK'
              rcases hb with hb | ⟨j, j1, j2, j3⟩
              · exact absurd hb hb1
              · subst j3
                rw [nI_c (by omega)] at hK'
                refine Ev.bd (hx.lift (m_worthOf hx hv hc')) fun x1 hx1 => ?_
                refine Ev.bd (hx1.lift (m_worthOf hx1 hv (show j < vn v by omega))) fun x2 hx2 => ?_
                rw [wsv, if_pos ho, wsv, if_pos j2] at hK'
                by_cases hle : wor v (vc v c) 0 ≤ wor v (vc v j) 0
                · rw [if_pos hle]
                  rw [if_pos hle] at hK'
                  exact ih (c + 1) fu x2 _ (by omega) (by omega) hx2 hb' hK'
                · rw [if_neg hle]
                  rw [if_neg hle] at hK'
                  exact ih (c + 1) fu x2 _ (by omega) (by omega) hx2 (Or.inr ⟨c, by omega, ho, rfl⟩) hK'
          · rw [if_neg (fun z => htb ((bit0_256 c (by omega) t ht).mp z))]
            rw [if_neg (by simp [ho]; simpa using htb)] at hK'
            exact ih (c + 1) fu x _ (by omega) (by omega) hx hb' hK'
        · rw [if_pos (by simp [ho])]
          rw [if_neg (by simp [ho])] at hK'
          exact ih (c + 1) fu x _ (by omega) (by omega) hx hb' hK'
  have outer : ∀ (r k fu : Nat) (x : Mem) (t l : Nat) (sum : Int32), k + r = N / 2 → r < fu → RepM v x → t < 256 → l < 256 → (∀ i, i < 8 → l.testBit i = (decide (i < vn v) && (decide (vc v i 5 = p) && !t.testBit i))) → cn (fun i => l.testBit i) 8 + k = N → Ev pSa (RepM v) (F_X6_taxOf_43 fu x p (nI N) (nI t) sum (nI k)) x (fold (taxS v (wsv v p 0)) k r (nI l, sum)).2 := by
    intro r
    induction r with
    | zero =>
      intro k fu x t l sum hk hf hx ht hl hlt hcn
      cases fu with
      | zero => omega
      | succ fu =>
        unfold F_X6_taxOf_43
        rw [half64 N (by omega), if_pos (nI_le (by omega) (by omega))]
        exact Ev.ret hx
    | succ r ih =>
      intro k fu x t l sum hk hf hx ht hl hlt hcn
      cases fu with
      | zero => omega
      | succ fu =>
        unfold F_X6_taxOf_43
        rw [half64 N (by omega), if_neg (nI_ge (by omega) (by omega))]
        refine inner (F_X6_taxOf_43 fu) t l sum (nI k) _ ht hl (fun i hi => by rw [hlt i (by omega)]; simp [hi]) (vn v) 0 FU x (-1) (by omega) (hFU (by omega)) hx (Or.inl rfl) fun x' hx' => ?_
        show Ev pSa (RepM v) _ x' (fold (taxS v (wsv v p 0)) (k + 1) r (taxS v (wsv v p 0) k (nI l, sum))).2
        have e1 : fold (mostS (wsv v p 0) (nI l)) 0 (vn v) (-1) = most v (wsv v p 0) (nI l) := rfl
        unfold taxS
        dsimp only [nm]
        rw [e1]
        have hne : ¬ most v (wsv v p 0) (nI l) = -1 := fun z => by
          obtain ⟨-, h2⟩ := most_none hl (vn v) 0 (-1) (by omega) z
          have : cn (fun i => l.testBit i) 8 = 0 := cn_pos 8 (fun i hi => by
            by_cases hin : i < vn v
            · exact h2 i (by omega) (by omega)
            · rw [hlt i hi]; simp [hin])
          omega
        have hj : ∀ (r i : Nat) (b : Int32), i + r ≤ 8 → (b = -1 ∨ ∃ j, j < i ∧ l.testBit j = true ∧ b = nI j) → (fold (mostS (wsv v p 0) (nI l)) i r b = -1 ∨ ∃ j, j < i + r ∧ l.testBit j = true ∧ fold (mostS (wsv v p 0) (nI l)) i r b = nI j) := by
          intro r
          induction r with
          | zero => intro i b _ hb; exact hb
          | succ r ih =>
            intro i b hi hb
            have := ih (i + 1) (mostS (wsv v p 0) (nI l) i b) (by omega) (by
              have hb2 : b = -1 ∨ ∃ j, j < i + 1 ∧ l.testBit j = true ∧ b = nI j := by
                rcases hb with hb | ⟨j, j1, j2, j3⟩
                · exact Or.inl hb
                · exact Or.inr ⟨j, by omega, j2, j3⟩
              unfold mostS
              rw [hb_256 i (by omega) l hl]
              by_cases hti : l.testBit i = true
              · rw [if_pos hti]
                split
                · exact Or.inr ⟨i, by omega, hti, rfl⟩
                · split
                  · exact hb2
                  · exact Or.inr ⟨i, by omega, hti, rfl⟩
              · rw [if_neg hti]; exact hb2)
            rw [show i + (r + 1) = i + 1 + r by omega]
            exact this
        rcases hj (vn v) 0 (-1) (by omega) (Or.inl rfl) with z | ⟨j, j1, j2, j3⟩
        · exact absurd z hne
        · have j3' : most v (wsv v p 0) (nI l) = nI j := j3
          have hjn : j < vn v := by omega
          have ho : vc v j 5 = p := by
            have := hlt j (by omega)
            rw [j2] at this
            by_cases ho : vc v j 5 = p
            · exact ho
            · simp [ho] at this
          rw [if_neg hne, j3', nI_c (by omega), and_bit j (by omega) l hl, (or_bit j (by omega) t ht).1]
          refine Ev.bd (hx'.lift (m_worthOf hx' hv hjn)) fun x1 hx1 => ?_
          rw [nI_1, wsv, if_pos ho]
          refine ih (k + 1) fu x1 (t ||| 2 ^ j) (l &&& (255 - 2 ^ j)) _ (by omega) (by omega) hx1 (or_bit j (by omega) t ht).2 (Nat.lt_of_le_of_lt Nat.and_le_left hl) (fun i hi => ?_) ?_
          · rw [Nat.testBit_and, Nat.testBit_or, hlt i hi, mask_bit j (by omega) i hi, Nat.testBit_two_pow]
            by_cases e : j = i <;> simp [e]
          · have := cn_rem j (by omega) l hl j2; omega
  unfold F_X6_taxOf
  have cnt : ∀ (r i fu : Nat), i + r = vn v → r < fu → F_X6_taxOf_4 fu m p (nI (cn (fun i => decide (vc v i 5 = p)) i)) (nI i) = F_X6_taxOf_43 FU m p (nI N) 0 0 0 := by
    intro r
    induction r with
    | zero =>
      intro i fu hi hf
      cases fu with
      | zero => omega
      | succ fu =>
        have : i = vn v := by omega
        subst this
        unfold F_X6_taxOf_4
        rw [if_pos h.ex, hNN]
    | succ r ih =>
      intro i fu hi hf
      cases fu with
      | zero => omega
      | succ fu =>
        have hi' : i < vn v := by omega
        unfold F_X6_taxOf_4 F_X6_taxOf_27
        simp only [nm]
        rw [if_neg (h.hd hi'), m_isOf h hi', bnd_eq, nI_1, nI_1, Int32.add_zero]
        simp only [bz0]
        rw [← ih (i + 1) fu (by omega) (by omega), cn_s]
        by_cases ho : vc v i 5 = p
        · simp [ho]
        · simp [ho]
  have e0 := cnt (vn v) 0 FU (by omega) (hFU (by omega))
  have e1 : F_X6_taxOf_4 FU m p 0 0 = F_X6_taxOf_43 FU m p (nI N) 0 0 0 := e0
  rw [e1]
  have eo := owns_mk h8 p
  have eh : (bc (owns v p) / 2).toNatClampNeg = N / 2 := by rw [eo, mk_bc _ h8, hNN, half64 N (by omega), nI_c (by omega)]
  unfold tax
  rw [eh, eo]
  exact outer (N / 2) 0 FU m 0 _ 0 (by omega) (hFU (by omega)) h (by decide) (mk_256 _ h8) (fun i hi => by rw [mk_bit]; simp) (by
    rw [Nat.add_zero, ← hNN]
    have := cn_ext (b := fun i => (mk (fun i => decide (vc v i 5 = p)) (vn v)).testBit i) (c := fun i => decide (vc v i 5 = p)) (n := vn v) (fun i hi => by rw [mk_bit]; simp [hi]) (8 - vn v) (fun i h1 h2 => by rw [mk_bit]; simp; omega)
    rw [show vn v + (8 - vn v) = 8 by omega] at this
    exact this)
/-- the sets for what is wise -/
noncomputable def wEnd (K : Mem → Int32 → Int32 → Int32 → Int32 → Int32 → Int32 → Option (Int32 × Mem)) (m : Mem) (a2 a4 a5 a6 a7 a8 a9 : Int32) : Option (Int32 × Mem) :=
  if (a8 &&& (a5 ^^^ -1)) = 0 then bnd (F_X6_valuesOf m a8) fun v54 m55 => if v54 < a2 then F_X6_wise_218 K m55 a2 a4 a5 a6 a7 a8 a9 else F_X6_wise_219 K m55 a2 a4 a5 a6 a7 a8 a9 1 else F_X6_wise_218 K m a2 a4 a5 a6 a7 a8 a9
theorem m_wi_in {ws : Nat → Int32} (h : RepM v m) (hW : ∀ i, i < vn v → mD m 48 i = ws i) (K : Mem → Int32 → Int32 → Int32 → Int32 → Int32 → Int32 → Option (Int32 × Mem)) (a2 a4 a5 a6 a7 a8 : Int32) : ∀ (r c fu : Nat) (acc : Int32), c + r = vn v → r < fu → F_X6_wise_152 K fu m a2 a4 a5 a6 a7 a8 acc (nI c) = wEnd K m a2 a4 a5 a6 a7 a8 (fold (fun i s => if hb a8 (nI i) = true then s else s + ws i) c r acc) := by
  have h8 := h.1
  intro r
  induction r with
  | zero =>
    intro c fu acc hc hf
    cases fu with
    | zero => omega
    | succ fu =>
      have : c = vn v := by omega
      subst this
      unfold F_X6_wise_152
      rw [if_pos h.ex]; rfl
  | succ r ih =>
    intro c fu acc hc hf
    cases fu with
    | zero => omega
    | succ fu =>
      have hc' : c < vn v := by omega
      unfold F_X6_wise_152 F_X6_wise_185
      simp only [nm, hb_iff, nI_1, Int32.add_zero]
      rw [if_neg (h.hd hc'), gIf_pos (vp_n (by omega) (by decide)), nI_c (by omega), hW c hc']
      show _ = wEnd K m a2 a4 a5 a6 a7 a8 (fold _ (c + 1) r (if hb a8 (nI c) = true then acc else acc + ws c))
      by_cases hh : hb a8 (nI c) = true
      · rw [if_pos hh, if_pos hh]; exact ih (c + 1) fu _ (by omega) (by omega)
      · rw [if_neg hh, if_neg hh]; exact ih (c + 1) fu _ (by omega) (by omega)
set_option maxRecDepth 100000 in
theorem m_wiL {ws : Nat → Int32} (h : RepM v m) (hW : ∀ i, i < vn v → mD m 48 i = ws i) (price wh pu : Int32) : F_X6_wise_135 FU m price wh pu (-1) (-100000) 0 = some (if wh = 0 then (fold (wiS v ws pu price) 0 (2 ^ vn v) (-1, -100000)).1 else (fold (wiS v ws pu price) 0 (2 ^ vn v) (-1, -100000)).2, m) := by
  have h8 := h.1
  obtain ⟨p1, p2⟩ := pow8 (vn v) (by omega)
  refine Ev.eqm ?_
  refine Ev.loop (P := pF) (Q := fun x => x = m) (σ := Int32 × Int32) (L := fun fu m s i => F_X6_wise_135 fu m price wh pu s.1 s.2 i) (n := 2 ^ vn v) (st := wiS v ws pu price) (ex := fun s => if wh = 0 then s.1 else s.2) (RR := fun _ x => x = m) (fun fu m1 s h1 => ?_) (fun fu m1 s i hi h1 w hw => ?_) (2 ^ vn v) 0 FU m (-1, -100000) (by omega) (hFU (by omega)) rfl
  · subst h1
    show Ev pF _ (F_X6_wise_135 (fu + 1) m1 price wh pu s.1 s.2 (nI (2 ^ vn v))) m1 (if wh = 0 then s.1 else s.2)
    unfold F_X6_wise_135
    rw [h.2.1, p1, if_pos (Int32.le_refl _)]
    by_cases hw : wh = 0
    · rw [if_pos hw, if_pos hw]; exact Ev.ret rfl
    · rw [if_neg hw, if_neg hw]; exact Ev.ret rfl
  · subst h1
    show Ev pF _ (F_X6_wise_135 (fu + 1) m1 price wh pu s.1 s.2 (nI i)) m1 w
    have hw := hw m1 rfl
    have e0 : F_X6_wise_152 (F_X6_wise_135 fu) FU m1 price wh pu s.1 s.2 (nI i) 0 0 = _ := m_wi_in h hW (F_X6_wise_135 fu) price wh pu s.1 s.2 (nI i) (vn v) 0 FU 0 (by omega) (hFU (by omega))
    unfold F_X6_wise_135
    rw [h.2.1, p1, if_neg (nI_ge hi (by omega)), e0]
    unfold wEnd F_X6_wise_218 F_X6_wise_219 F_X6_wise_239 F_X6_wise_247
    unfold wiS at hw
    rw [show fold (fun i_1 s => if hb (nI i) (nI i_1) = true then s else s + ws i_1) 0 (vn v) 0 = without v ws (nI i) from rfl]
    simp only [nI_1, m_vals h, bnd_eq, if_true, show ¬ ((1 : Int32) = 0) by decide, if_false, nm] at hw ⊢
    by_cases h0 : nI i &&& (pu ^^^ -1) = 0
    · rw [if_pos h0] at hw ⊢
      by_cases h1 : vals v (nI i) < price
      · rw [if_pos h1] at hw ⊢; exact hw
      · rw [if_neg h1] at hw ⊢
        by_cases h2 : s.1 = -1
        · rw [if_pos h2] at hw ⊢; exact hw
        · rw [if_neg h2] at hw ⊢
          by_cases h3 : without v ws (nI i) ≤ s.2
          · rw [if_pos h3] at hw ⊢; exact hw
          · rw [if_neg h3] at hw ⊢; exact hw
    · rw [if_neg h0] at hw ⊢; exact hw
theorem wi_inv {ws : Nat → Int32} (pu price a : Int32) : ∀ r, r ≤ 256 → ((fold (wiS v ws pu price) 0 r (-1, a)).1 = (fold (wiS v ws pu price) 0 r (-1, 0)).1) ∧ (((fold (wiS v ws pu price) 0 r (-1, a)).1 = -1 ∧ (fold (wiS v ws pu price) 0 r (-1, a)).2 = a) ∨ (¬ (fold (wiS v ws pu price) 0 r (-1, a)).1 = -1 ∧ (fold (wiS v ws pu price) 0 r (-1, a)).2 = without v ws (fold (wiS v ws pu price) 0 r (-1, a)).1 ∧ (fold (wiS v ws pu price) 0 r (-1, 0)).2 = (fold (wiS v ws pu price) 0 r (-1, a)).2))
  | 0, _ => ⟨rfl, Or.inl ⟨rfl, rfl⟩⟩
  | r + 1, hr => by
    obtain ⟨h1, h2⟩ := wi_inv pu price a r (by omega)
    rw [fold_snoc, fold_snoc, Nat.zero_add]
    generalize fold (wiS v ws pu price) 0 r (-1, a) = s at *
    generalize fold (wiS v ws pu price) 0 r (-1, 0) = s' at *
    unfold wiS
    dsimp only [nm]
    have hn : ¬ nI r = -1 := nI_nm1 (by omega)
    by_cases c0 : nI r &&& (pu ^^^ -1) = 0
    · rw [if_pos c0, if_pos c0]
      by_cases c1 : vals v (nI r) < price
      · rw [if_pos c1, if_pos c1]; exact ⟨h1, h2⟩
      · rw [if_neg c1, if_neg c1, ← h1]
        by_cases c2 : s.1 = -1
        · rw [if_pos c2, if_pos c2]; exact ⟨rfl, Or.inr ⟨hn, rfl, rfl⟩⟩
        · rw [if_neg c2, if_neg c2]
          rcases h2 with ⟨z, _⟩ | ⟨_, h3, h4⟩
          · exact absurd z c2
          · rw [h4]
            by_cases c3 : without v ws (nI r) ≤ s.2
            · rw [if_pos c3, if_pos c3]; exact ⟨h1, Or.inr ⟨c2, h3, h4⟩⟩
            · rw [if_neg c3, if_neg c3]; exact ⟨rfl, Or.inr ⟨hn, rfl, rfl⟩⟩
    · rw [if_neg c0, if_neg c0]; exact ⟨h1, h2⟩
def wiseA (v : VW) (ws : Nat → Int32) (p price wh : Int32) : Int32 := if wh = 0 then wise_ v ws p price else if wise_ v ws p price = -1 then -100000 else without v ws (wise_ v ws p price)
theorem wise_eq (hn : vn v ≤ 8) (ws : Nat → Int32) (p price wh : Int32) : (if wh = 0 then (fold (wiS v ws (purse v p 0) price) 0 (2 ^ vn v) (-1, -100000)).1 else (fold (wiS v ws (purse v p 0) price) 0 (2 ^ vn v) (-1, -100000)).2) = wiseA v ws p price wh := by
  obtain ⟨h1, h2⟩ := wi_inv (v := v) (ws := ws) (purse v p 0) price (-100000) 256 (Nat.le_refl _)
  rw [all_sets hn p _ (fun i s h => by unfold wiS; rw [if_neg h])] at h1 h2
  unfold wiseA
  have e : wise_ v ws p price = (fold (wiS v ws (purse v p 0) price) 0 (2 ^ vn v) (-1, -100000)).1 := by rw [h1]; rfl
  rw [e]
  by_cases hw : wh = 0
  · rw [if_pos hw, if_pos hw]
  · rw [if_neg hw, if_neg hw]
    rcases h2 with ⟨z1, z2⟩ | ⟨z1, z2, _⟩
    · rw [if_pos z1]; exact z2
    · rw [if_neg z1]; exact z2
theorem nx_wsv {k i : Nat} (hk : k < 1000) (h : CB (vc v i)) (p : Int32) : wsv (nx v k) p 0 i = wsv v p (nI k) i := by
  unfold wsv
  rw [nx_wor h hk]; rfl
theorem m_wise (h : RepM v m) (hv : OKv v) (p price wh : Int32) {n : Nat} (hn : n ≤ 40) : Ev pSc TT (bnd (F_X6_purseOf m p) fun v21 m22 => bnd (F_X6_laysAside m22) fun v25 m26 => F_X6_wise_59 FU m26 p price (nI n) wh v21 0) m (wiseA v (wsv v p (nI n)) p price wh) := by
  have h8 := h.1
  refine Ev.bdM (m_purse h hv p) (fun _ _ hp => pSa.c hp) fun m _ h => ?_
  -- the worths
  have lat : ∀ (r c fu : Nat) (x : Mem), c + r = vn v → r < fu → Th pSc m (nx v n) x → (∀ j, j < c → mD x 48 j = wsv v p (nI n) j) → Ev pTop (fun m' => Ag pSc m m') (F_X6_wise_79 fu x p price wh (purse v p 0) (nI c)) x (wiseA v (wsv v p (nI n)) p price wh) := by
    intro r
    induction r with
    | zero =>
      intro c fu x hc hf hT h48
      cases fu with
      | zero => omega
      | succ fu =>
        have : c = vn v := by omega
        subst this
        unfold F_X6_wise_79
        rw [if_pos (show mD x 40 10 ≤ nI (vn v) from hT.2.2.ex)]
        refine Ev.bd hT.end_ fun x' hx' => ?_
        have hx : RepM v x' := h.ag hx'.1
        rw [m_wiL (ws := wsv v p (nI n)) hx (fun i hi => by rw [hx'.2.2.2 48 i (by unfold pBk; omega)]; exact h48 i hi), wise_eq h8]
        exact Ev.ret hx'.1
    | succ r ih =>
      intro c fu x hc hf hT h48
      cases fu with
      | zero => omega
      | succ fu =>
        have hc' : c < vn v := by omega
        unfold F_X6_wise_79 F_X6_wise_114
        rw [if_neg (show ¬ mD x 40 10 ≤ nI c from hT.2.2.hd hc'), m_isOf hT.2.2 hc', bnd_eq, gIf_pos (vp_n (by omega) (by decide)), nI_c (by omega), nI_1]
        simp only [bz0]
        have fin : ∀ (x1 : Mem) (y : Int32), Th pSc m (nx v n) x1 → (∀ j, j < c → mD x1 48 j = wsv v p (nI n) j) → y = wsv v p (nI n) c → Ev pTop (fun m' => Ag pSc m m') (nm (wD x1 48 c y) fun m49 => F_X6_wise_79 fu m49 p price wh (purse v p 0) (nI (c + 1))) x1 (wiseA v (wsv v p (nI n)) p price wh) := by
          intro x1 y hT1 h481 hy
          have hA : Ag pSc x1 (wD x1 48 c y) := Ag.d (Or.inr (Or.inr (Or.inr rfl)))
          refine Ev.namW trivial (ih (c + 1) fu _ (by omega) (by omega) ⟨hT1.1.tr (hA.mono fun _ _ hp => Or.inl hp), ⟨fun i hi => ?_, ?_⟩, hT1.2.2.ag hA⟩ (fun j hj => ?_))
          · rw [mD_k (by decide), mD_k (by decide)]; exact hT1.2.1.1 i hi
          · rw [mD_k (by decide)]; exact hT1.2.1.2
          · by_cases e : j = c
            · subst e; rw [mD_s]; exact hy
            · rw [mD_i e]; exact h481 j (by omega)
        by_cases ho : vc v c 5 = p
        · rw [if_neg (by simp; exact ho)]
          obtain ⟨x1, e1, ha1, hr1⟩ := hT.2.2.lift (m_worthOf hT.2.2 (hv.nx (by omega)) hc')
          rw [e1, bnd_eq, gIf_pos (vp_n (by omega) (by decide))]
          exact Ev.step (ha1.mono fun _ _ _ => trivial) (fin x1 (wor (nx v n) (vc (nx v n) c) 0) (hT.sa scI ha1) (fun j hj => by rw [ha1.2 48 j (by unfold pSa; omega)]; exact h48 j hj) (by rw [nx_wor (hv c hc') (by omega), wsv, if_pos ho]))
        · rw [if_pos (by simp; exact ho)]
          exact fin x 0 hT h48 (by rw [wsv, if_neg ho])
  have key : ∀ (r k fu : Nat) (x : Mem), k + r = n → r < fu → Th pSc m (nx v k) x → Ev pTop (fun m' => Ag pSc m m') (F_X6_wise_59 fu x p price (nI n) wh (purse v p 0) (nI k)) x (wiseA v (wsv v p (nI n)) p price wh) := by
    intro r
    induction r with
    | zero =>
      intro k fu x hk hf hT
      cases fu with
      | zero => omega
      | succ fu =>
        have : k = n := by omega
        subst this
        unfold F_X6_wise_59
        rw [if_pos (Int32.le_refl _)]
        exact lat (vn v) 0 FU x (by omega) (hFU (by omega)) hT (fun j hj => absurd hj (Nat.not_lt_zero j))
    | succ r ih =>
      intro k fu x hk hf hT
      cases fu with
      | zero => omega
      | succ fu =>
        unfold F_X6_wise_59
        rw [if_neg (nI_ge (show k < n by omega) (by omega)), nI_1]
        obtain ⟨w, hw⟩ := hT.pass scI hv (by omega)
        exact Ev.bd hw fun x2 hT2 => ih (k + 1) fu x2 (by omega) (by omega) hT2
  exact Ev.sc (Ev.bd (Th.beg scI h) fun x hT => key n 0 FU x (by omega) (hFU (by omega)) ⟨hT.1, hT.2.1, rm_nx0 hv hT.2.2⟩)
end TX
