/-! sets of coins as the class seeks them -/
def bc (a : Int32) : Int32 := nm (a - (((a.toUInt32 >>> ((1 : Int32).toUInt32 &&& Int32.toUInt32 31)).toInt32) &&& (1431655765 : Int32))) fun x1 => nm ((x1 &&& (858993459 : Int32)) + (((x1.toUInt32 >>> ((2 : Int32).toUInt32 &&& Int32.toUInt32 31)).toInt32) &&& (858993459 : Int32))) fun x2 => nm ((x2 + ((x2.toUInt32 >>> ((4 : Int32).toUInt32 &&& Int32.toUInt32 31)).toInt32)) &&& (252645135 : Int32)) fun x3 => nm (x3 + ((x3.toUInt32 >>> ((8 : Int32).toUInt32 &&& Int32.toUInt32 31)).toInt32)) fun x4 => nm (x4 + ((x4.toUInt32 >>> ((16 : Int32).toUInt32 &&& Int32.toUInt32 31)).toInt32)) fun x5 => x5 &&& (63 : Int32)
theorem x_bc (m : Mem) (a : Int32) : F_J6_bitCount_0f7a4 m a = some (bc a, m) := rfl
def spendS (v : VW) (set : Int32) (i : Nat) (s : Int32 × Int32) : Int32 × Int32 := if hb set (nI i) = true then nm (pT (vS v) (vc v i) (vc v i 4) (vd v) - vc v i 4) fun l => if s.1 = -1 then (nI i, l) else if s.2 ≤ l then s else (nI i, l) else s
def spend (v : VW) (p : Int32) : Int32 := (fold (spendS v (purse v p 0)) 0 (vn v) (-1, 0)).1
def goneF (v : VW) (p : Int32) : Nat → Nat → Int32
  | 0, _ => -1
  | r + 1, k => if purse v p (nI k) = 0 then nI k else goneF v p r (k + 1)
def gone (v : VW) (p : Int32) : Int32 := goneF v p 41 0
/-- the worths that are laid -/
def wsv (v : VW) (p k : Int32) (i : Nat) : Int32 := if vc v i 5 = p then wor v (vc v i) k else 0
def Wr (v : VW) (ws : Nat → Int32) (m : Mem) : Prop := ∀ i, i < vn v → mD m 19 i = ws i
def mostS (ws : Nat → Int32) (set : Int32) (i : Nat) (b : Int32) : Int32 := if hb set (nI i) = true then (if b = -1 then nI i else if ws i ≤ ws b.toNatClampNeg then b else nI i) else b
def most (v : VW) (ws : Nat → Int32) (set : Int32) : Int32 := fold (mostS ws set) 0 (vn v) (-1)
def taxS (v : VW) (ws : Nat → Int32) (_ : Nat) (s : Int32 × Int32) : Int32 × Int32 := nm (most v ws s.1) fun b => if b = -1 then s else (s.1 &&& (bit b ^^^ -1), s.2 + ws b.toNatClampNeg)
def tax (v : VW) (p : Int32) : Int32 := (fold (taxS v (wsv v p 0)) 0 (bc (owns v p) / 2).toNatClampNeg (owns v p, 0)).2
def without (v : VW) (ws : Nat → Int32) (set : Int32) : Int32 := fold (fun i s => if hb set (nI i) = true then s else s + ws i) 0 (vn v) 0
def exS (v : VW) (pu price : Int32) (i : Nat) (b : Int32) : Int32 := if nI i &&& (pu ^^^ -1) = 0 then (if vals v (nI i) = price then (if b = -1 then nI i else if bc b ≤ bc (nI i) then b else nI i) else b) else b
def exact_ (v : VW) (p price : Int32) : Int32 := fold (exS v (purse v p 0) price) 0 256 (-1)
def ovS (v : VW) (pu price : Int32) (i : Nat) (s : Int32 × Int32) : Int32 × Int32 := if nI i &&& (pu ^^^ -1) = 0 then nm (vals v (nI i)) fun x => (if x < price then s else if s.1 = -1 then (nI i, x) else if x < s.2 then (nI i, x) else if x = s.2 then (if bc s.1 ≤ bc (nI i) then s else (nI i, x)) else s) else s
def over_ (v : VW) (p price : Int32) : Int32 := (fold (ovS v (purse v p 0) price) 0 256 (-1, 0)).1
def wiS (v : VW) (ws : Nat → Int32) (pu price : Int32) (i : Nat) (s : Int32 × Int32) : Int32 × Int32 := if nI i &&& (pu ^^^ -1) = 0 then (if vals v (nI i) < price then s else nm (without v ws (nI i)) fun x => if s.1 = -1 then (nI i, x) else if x ≤ s.2 then s else (nI i, x)) else s
def wise_ (v : VW) (ws : Nat → Int32) (p price : Int32) : Int32 := (fold (wiS v ws (purse v p 0) price) 0 256 (-1, 0)).1
theorem ne256 {i : Nat} (hi : i < 256) : ¬ (256 : Int32) ≤ nI i := by rw [show (256 : Int32) = nI 256 from rfl, nI_le' (by omega) (by omega)]; omega
section XS
variable {v : VW} {m : Mem}
theorem RepX.st {m' : Mem} (h : RepX v m) (ha : Ag pSt m m') : RepX v m' := h.ag (ha.mono fun k i hp => pSt.x hp)
theorem n19 {i : Nat} : ¬ pSt 19 i := by unfold pSt; omega
theorem Wr.st {ws : Nat → Int32} {m' : Mem} (h : Wr v ws m) (ha : Ag pSt m m') : Wr v ws m' := fun i hi => by rw [ha.2 19 i n19]; exact h i hi
theorem x_spend (h : RepX v m) (p : Int32) : Ev pSt (RepX v) (F_X5_toSpend m p) m (spend v p) := by
  unfold F_X5_toSpend spend
  refine Ev.bd (x_purse h p 0) fun m h => ?_
  refine Ev.loop (L := fun fu m s i => F_X5_toSpend_15 fu m (purse v p 0) s.1 s.2 i) (n := vn v) (ex := fun s => s.1) (RR := fun _ => RepX v) (fun fu m s h => ?_) (fun fu m s i hi h w hw => ?_) (vn v) 0 FU m (-1, 0) (by omega) (hFU (by have := h.2.1; omega)) h
  · show Ev pSt (RepX v) (F_X5_toSpend_15 (fu + 1) m (purse v p 0) s.1 s.2 (nI (vn v))) m s.1
    unfold F_X5_toSpend_15
    rw [if_pos h.ex]; exact Ev.ret h
  · show Ev pSt (RepX v) (F_X5_toSpend_15 (fu + 1) m (purse v p 0) s.1 s.2 (nI i)) m w
    unfold F_X5_toSpend_15 F_X5_toSpend_86 F_X5_toSpend_93
    simp only [nI_1, nm, x_holds, bnd_eq, bz0]
    have h8 := h.lt8 hi
    rw [if_neg (h.hd hi)]
    unfold spendS at hw
    cases hh : hb (purse v p 0) (nI i) with
    | false => simpa [hh] using hw m h
    | true =>
      obtain ⟨q, e1, e2⟩ := x_theRule h
      simp only [Bool.true_eq_false, if_false]
      rw [e1, bnd_eq, gIf_pos (h.vp hi), gIf_pos (h.vp hi), nI_c (by omega), h.fld hi (by decide), h.2.2.2.1]
      refine Ev.bd (h.lift (x_turnsOf e2 (nSt h8))) fun m' h' => ?_
      rw [gIf_pos (h'.vp hi), ← pT_row6, h.row hi, h'.fld hi (by decide)]
      simp only [hh, if_true, nm] at hw
      by_cases hb1 : s.1 = -1
      · rw [if_pos hb1]; rw [if_pos hb1] at hw; exact hw m' h'
      · rw [if_neg hb1]; rw [if_neg hb1] at hw
        by_cases hl : s.2 ≤ pT (vS v) (vc v i) (vc v i 4) (vd v) - vc v i 4
        · rw [if_pos hl]; rw [if_pos hl] at hw; exact hw m' h'
        · rw [if_neg hl]; rw [if_neg hl] at hw; exact hw m' h'
theorem x_gone (h : RepX v m) (p : Int32) : Ev pSt (RepX v) (F_X5_goneBehind m p) m (gone v p) := by
  unfold F_X5_goneBehind gone
  have key : ∀ (r k fu : Nat) (m : Mem), k + r = 41 → r < fu → RepX v m → Ev pSt (RepX v) (F_X5_goneBehind_2 fu m p (nI k)) m (goneF v p r k) := by
    intro r
    induction r with
    | zero =>
      intro k fu m hk hf h
      cases fu with
      | zero => omega
      | succ fu =>
        unfold F_X5_goneBehind_2 goneF
        rw [if_pos (by rw [show (40 : Int32) = nI 40 from rfl, nI_lt' (by omega) (by omega)]; omega)]
        exact Ev.ret h
    | succ r ih =>
      intro k fu m hk hf h
      cases fu with
      | zero => omega
      | succ fu =>
        unfold F_X5_goneBehind_2 goneF
        rw [if_neg (by rw [show (40 : Int32) = nI 40 from rfl, nI_lt' (by omega) (by omega)]; omega), nI_1]
        refine Ev.bd (x_purse h p (nI k)) fun m' h' => ?_
        by_cases h0 : purse v p (nI k) = 0
        · rw [if_pos h0, if_pos h0]; exact Ev.ret h'
        · rw [if_neg h0, if_neg h0]; exact ih (k + 1) fu m' (by omega) (by omega) h'
  exact key 41 0 FU m (by omega) (hFU (by omega)) h
def pW9 (k i : Nat) : Prop := pSt k i ∨ k = 19
theorem pSt.w {k i : Nat} (h : pSt k i) : pW9 k i := Or.inl h
theorem x_layW (h : RepX v m) (p k : Int32) : Ev pW9 (fun m => RepX v m ∧ Wr v (wsv v p k) m) (F_X5_layWorths m p k) m () := by
  unfold F_X5_layWorths
  refine Ev.loop (σ := Unit) (L := fun fu m _ i => F_X5_layWorths_2 fu m p k i) (n := vn v) (st := fun _ s => s) (ex := id) (RR := fun i m => RepX v m ∧ ∀ j, j < i → mD m 19 j = wsv v p k j) (fun fu m s h => ?_) (fun fu m s i hi h w hw => ?_) (vn v) 0 FU m () (by omega) (hFU (by have := h.2.1; omega)) ⟨h, fun j hj => absurd hj (Nat.not_lt_zero j)⟩
  · show Ev pW9 _ (F_X5_layWorths_2 (fu + 1) m p k (nI (vn v))) m ()
    unfold F_X5_layWorths_2
    rw [if_pos h.1.ex]; exact Ev.ret h
  · show Ev pW9 _ (F_X5_layWorths_2 (fu + 1) m p k (nI i)) m w
    obtain ⟨h, hj⟩ := h
    unfold F_X5_layWorths_2 F_X5_layWorths_43
    simp only [nI_1]
    have h8 := h.lt8 hi
    rw [if_neg (h.hd hi), gIf_pos (h.vp hi), nI_c (by omega), h.fld hi (by decide), gIf_pos (h.vp hi)]
    have fin : ∀ (m' : Mem) (x : Int32), RepX v m' → (∀ j, j < i → mD m' 19 j = wsv v p k j) → x = wsv v p k i → Ev pW9 (fun m => RepX v m ∧ Wr v (wsv v p k) m) (gIf (vp_in (nI i) 8) (nm (wD m' 19 i x) fun m12 => F_X5_layWorths_2 fu m12 p k (nI (i + 1)))) m' w := by
      intro m' x h' hj' hx
      rw [gIf_pos (h'.vp hi)]
      refine Ev.namW (Or.inr rfl) (hw _ ⟨h'.ag (Ag.d (Or.inr (Or.inr (Or.inl rfl)))), fun j hjj => ?_⟩)
      rw [mD_wD]
      by_cases e : j = i
      · subst e; simp [hx]
      · rw [if_neg (by omega)]; exact hj' j (by omega)
    by_cases ho : vc v i 5 = p
    · rw [if_pos ho]
      refine Ev.bdM (x_worth h (nSt h8) (h.row hi) k) (fun a b hp => pSt.w hp) fun m' ha h' => ?_
      exact fin m' _ h' (fun j hjj => by rw [ha.2 19 j n19]; exact hj j hjj) (by rw [wsv, if_pos ho])
    · rw [if_neg ho]
      exact fin m 0 h hj (by rw [wsv, if_neg ho])
theorem x_most {ws : Nat → Int32} (h : RepX v m) (hW : Wr v ws m) (set : Int32) : F_X5_mostWorth m set = some (most v ws set, m) := by
  refine Ev.eqm ?_
  unfold F_X5_mostWorth most
  have key : ∀ (r i fu : Nat) (b : Int32), i + r = vn v → r < fu → (b = -1 ∨ ∃ j, j < i ∧ b = nI j) → Ev pF (fun x => x = m) (F_X5_mostWorth_4 fu m set b (nI i)) m (fold (mostS ws set) i r b) := by
    intro r
    induction r with
    | zero =>
      intro i fu b hi hf hbb
      cases fu with
      | zero => omega
      | succ fu =>
        have : i = vn v := by omega
        subst this
        unfold F_X5_mostWorth_4
        rw [if_pos h.ex]; exact Ev.ret rfl
    | succ r ih =>
      intro i fu b hi hf hbb
      cases fu with
      | zero => omega
      | succ fu =>
        have hi' : i < vn v := by omega
        have h8 := h.lt8 hi'
        unfold F_X5_mostWorth_4 F_X5_mostWorth_40 F_X5_mostWorth_42
        simp only [nI_1, x_holds, bnd_eq, bz0]
        rw [if_neg (h.hd hi')]
        show Ev pF _ _ m (fold (mostS ws set) (i + 1) r (mostS ws set i b))
        have hb' : mostS ws set i b = -1 ∨ ∃ j, j < i + 1 ∧ mostS ws set i b = nI j := by
          have hb2 : b = -1 ∨ ∃ j, j < i + 1 ∧ b = nI j := by
            rcases hbb with hq | ⟨j, hj, hq⟩
            · exact Or.inl hq
            · exact Or.inr ⟨j, by omega, hq⟩
          unfold mostS
          split
          · split
            · exact Or.inr ⟨i, by omega, rfl⟩
            · split
              · exact hb2
              · exact Or.inr ⟨i, by omega, rfl⟩
          · exact hb2
        have nx := ih (i + 1) fu (mostS ws set i b) (by omega) (by omega) hb'
        unfold mostS at nx ⊢
        cases hh : hb set (nI i) with
        | false => simpa [hh] using nx
        | true =>
          simp only [hh, if_true, Bool.true_eq_false, if_false] at nx ⊢
          by_cases b1 : b = -1
          · rw [if_pos b1]; rw [if_pos b1] at nx ⊢; exact nx
          · rw [if_neg b1]; rw [if_neg b1] at nx ⊢
            rcases hbb with hq | ⟨j, hj, hq⟩
            · exact absurd hq b1
            · subst hq
              have hj8 : j < 8 := by omega
              rw [gIf_pos (h.vp hi'), gIf_pos (vp_n hj8 (by decide)), nI_c (by omega), nI_c (by omega), hW i hi', hW j (by omega)]
              rw [nI_c (by omega)] at nx
              by_cases hl : ws i ≤ ws j
              · rw [if_pos hl]; rw [if_pos hl] at nx ⊢; exact nx
              · rw [if_neg hl]; rw [if_neg hl] at nx ⊢; exact nx
  exact key (vn v) 0 FU (-1) (by omega) (hFU (by have := h.2.1; omega)) (Or.inl rfl)
theorem most_nat {ws : Nat → Int32} (v : VW) (set : Int32) : ∀ (r i : Nat) (b : Int32), (b = -1 ∨ ∃ j, j < i ∧ b = nI j) → (fold (mostS ws set) i r b = -1 ∨ ∃ j, j < i + r ∧ fold (mostS ws set) i r b = nI j) := by
  intro r
  induction r with
  | zero => intro i b h; exact h
  | succ r ih =>
    intro i b h
    have := ih (i + 1) (mostS ws set i b) (by
      have hb2 : b = -1 ∨ ∃ j, j < i + 1 ∧ b = nI j := by
        rcases h with hb | ⟨j, hj, hb⟩
        · exact Or.inl hb
        · exact Or.inr ⟨j, by omega, hb⟩
      unfold mostS
      split
      · split
        · exact Or.inr ⟨i, by omega, rfl⟩
        · split
          · exact hb2
          · exact Or.inr ⟨i, by omega, rfl⟩
      · exact hb2)
    rw [show i + (r + 1) = i + 1 + r by omega]
    exact this
theorem and63 (x : Int32) : ∃ k, k < 64 ∧ x &&& 63 = nI k := by
  refine ⟨(x &&& 63).toBitVec.toNat, ?_, ?_⟩
  · have : (x &&& 63).toBitVec.toNat = x.toBitVec.toNat &&& 63 := rfl
    rw [this]; exact Nat.lt_of_le_of_lt Nat.and_le_right (by decide)
  · apply Int32.toBitVec_inj.mp
    apply BitVec.eq_of_toNat_eq
    have h : (x &&& 63).toBitVec.toNat < 2 ^ 32 := (x &&& 63).toBitVec.isLt
    show _ = (BitVec.ofNat 32 _).toNat
    rw [BitVec.toNat_ofNat, Nat.mod_eq_of_lt h]
theorem bc_nat (a : Int32) : ∃ k, k < 64 ∧ bc a = nI k := and63 _
theorem half64 : ∀ k, k < 64 → nI k / 2 = nI (k / 2) := by decide
theorem x_taxL {ws : Nat → Int32} (h : RepX v m) (hW : Wr v ws m) (c : Nat) (hc : c < 64) (ow : Int32) : Ev pX (RepX v) (F_X5_taxOf_25 FU m ow (nI c) 0 0) m (fold (taxS v ws) 0 c (ow, 0)).2 := by
  refine Ev.loop (σ := Int32 × Int32) (st := taxS v ws) (L := fun fu m s i => F_X5_taxOf_25 fu m s.1 (nI c) s.2 i) (n := c) (ex := fun s => s.2) (RR := fun _ m => RepX v m ∧ Wr v ws m) (fun fu m s h => ?_) (fun fu m s i hi h w hw => ?_) c 0 FU m (ow, 0) (by omega) (hFU (by omega)) ⟨h, hW⟩
  · show Ev pX _ (F_X5_taxOf_25 (fu + 1) m s.1 (nI c) s.2 (nI c)) m s.2
    unfold F_X5_taxOf_25
    rw [if_pos (by rw [nI_le' (by omega) (by omega)]; omega)]; exact Ev.ret h.1
  · show Ev pX _ (F_X5_taxOf_25 (fu + 1) m s.1 (nI c) s.2 (nI i)) m w
    have hw := hw m h
    unfold F_X5_taxOf_25 F_X5_taxOf_65
    rw [if_neg (by rw [nI_le' (by omega) (by omega)]; omega)]
    simp only [nI_1, x_most h.1 h.2, bnd_eq]
    unfold taxS at hw
    simp only [nm] at hw
    by_cases h1 : most v ws s.1 = -1
    · rw [if_pos h1] at hw ⊢; exact hw
    · rw [if_neg h1] at hw ⊢
      rcases most_nat (ws := ws) v s.1 (vn v) 0 (-1) (Or.inl rfl) with h2 | ⟨j, hj, h2⟩
      · exact absurd h2 h1
      · have h2' : most v ws s.1 = nI j := h2
        have hj8 : j < vn v := by omega
        have := h.1.2.1
        rw [h2'] at hw ⊢
        rw [nI_c (by omega)] at hw
        rw [gIf_pos (vp_n (by omega) (by decide)), nI_c (by omega), h.2 j hj8]
        exact hw
theorem x_tax (h : RepX v m) (p : Int32) : Ev pX (RepX v) (F_X5_taxOf m p) m (tax v p) := by
  unfold F_X5_taxOf tax
  refine Ev.bdM (x_layW h p 0) (fun k i hp => by rcases hp with hp | hp; exact pSt.x hp; exact Or.inr (Or.inr (Or.inl hp))) fun m _ hm => ?_
  obtain ⟨h, hW⟩ := hm
  rw [x_owns h p, bnd_eq, x_bc, bnd_eq]
  refine Ev.nam ?_
  obtain ⟨k, hk, e⟩ := bc_nat (owns v p)
  rw [e, half64 k hk, nI_c (by omega)]
  exact x_taxL h hW (k / 2) (by omega) (owns v p)
theorem x_without {ws : Nat → Int32} (h : RepX v m) (hW : Wr v ws m) (set : Int32) : F_X5_worthsWithout m set = some (without v ws set, m) := by
  refine Ev.eqm ?_
  unfold F_X5_worthsWithout without
  refine Ev.loop (L := fun fu m s i => F_X5_worthsWithout_4 fu m set s i) (n := vn v) (ex := id) (RR := fun _ x => x = m) (fun fu m1 s h1 => ?_) (fun fu m1 s i hi h1 w hw => ?_) (vn v) 0 FU m 0 (by omega) (hFU (by have := h.2.1; omega)) rfl
  · subst h1
    show Ev pF (fun x => x = m1) (F_X5_worthsWithout_4 (fu + 1) m1 set s (nI (vn v))) m1 s
    unfold F_X5_worthsWithout_4
    rw [if_pos h.ex]; exact Ev.ret rfl
  · subst h1
    show Ev pF (fun x => x = m1) (F_X5_worthsWithout_4 (fu + 1) m1 set s (nI i)) m1 w
    unfold F_X5_worthsWithout_4 F_X5_worthsWithout_29
    simp only [nI_1, nm, x_holds, bnd_eq, bz0]
    have h8 := h.lt8 hi
    rw [if_neg (h.hd hi), gIf_pos (h.vp hi), nI_c (by omega), hW i hi]
    cases hh : hb set (nI i) with
    | false => simpa [hh] using hw m1 rfl
    | true => simpa [hh] using hw m1 rfl
set_option maxRecDepth 100000 in
theorem x_exact (h : RepX v m) (p price : Int32) : Ev pSt (RepX v) (F_X5_exactSet m p price) m (exact_ v p price) := by
  unfold F_X5_exactSet exact_
  refine Ev.bd (x_purse h p 0) fun m h => ?_
  refine Ev.loop (L := fun fu m s i => F_X5_exactSet_13 fu m price (purse v p 0) s i) (n := 256) (ex := id) (RR := fun _ => RepX v) (fun fu m s h => ?_) (fun fu m s i hi h w hw => ?_) 256 0 FU m (-1) (by omega) (hFU (by omega)) h
  · show Ev pSt (RepX v) (F_X5_exactSet_13 (fu + 1) m price (purse v p 0) s (nI 256)) m s
    unfold F_X5_exactSet_13
    rw [if_pos (by decide)]; exact Ev.ret h
  · show Ev pSt (RepX v) (F_X5_exactSet_13 (fu + 1) m price (purse v p 0) s (nI i)) m w
    have hw := hw m h
    unfold F_X5_exactSet_13 F_X5_exactSet_59 F_X5_exactSet_63
    simp only [nI_1, x_vals h, x_bc, bnd_eq]
    rw [if_neg (ne256 hi)]
    unfold exS at hw
    by_cases h0 : nI i &&& (purse v p 0 ^^^ -1) = 0
    · rw [if_pos h0] at hw ⊢
      by_cases h1 : vals v (nI i) = price
      · rw [if_pos h1] at hw ⊢
        by_cases h2 : s = -1
        · rw [if_pos h2] at hw ⊢; exact hw
        · rw [if_neg h2] at hw ⊢
          by_cases h3 : bc s ≤ bc (nI i)
          · rw [if_pos h3] at hw ⊢; exact hw
          · rw [if_neg h3] at hw ⊢; exact hw
      · rw [if_neg h1] at hw ⊢; exact hw
    · rw [if_neg h0] at hw ⊢; exact hw
set_option maxRecDepth 100000 in
theorem x_over (h : RepX v m) (p price : Int32) : Ev pSt (RepX v) (F_X5_overSet m p price) m (over_ v p price) := by
  unfold F_X5_overSet over_
  refine Ev.bd (x_purse h p 0) fun m h => ?_
  refine Ev.loop (L := fun fu m s i => F_X5_overSet_16 fu m price (purse v p 0) s.1 s.2 i) (n := 256) (ex := fun s => s.1) (RR := fun _ => RepX v) (fun fu m s h => ?_) (fun fu m s i hi h w hw => ?_) 256 0 FU m (-1, 0) (by omega) (hFU (by omega)) h
  · show Ev pSt (RepX v) (F_X5_overSet_16 (fu + 1) m price (purse v p 0) s.1 s.2 (nI 256)) m s.1
    unfold F_X5_overSet_16
    rw [if_pos (by decide)]; exact Ev.ret h
  · show Ev pSt (RepX v) (F_X5_overSet_16 (fu + 1) m price (purse v p 0) s.1 s.2 (nI i)) m w
    have hw := hw m h
    unfold F_X5_overSet_16 F_X5_overSet_74 F_X5_overSet_78 F_X5_overSet_79 F_X5_overSet_100
    simp only [nI_1, x_vals h, x_bc, bnd_eq, show ¬ ((1 : Int32) = 0) from by decide, if_true, if_false]
    rw [if_neg (ne256 hi)]
    unfold ovS at hw
    simp only [nm] at hw
    by_cases h0 : nI i &&& (purse v p 0 ^^^ -1) = 0
    · rw [if_pos h0] at hw ⊢
      by_cases hp : vals v (nI i) < price
      · simp only [hp, if_true, ite_self] at hw ⊢; exact hw
      · simp only [hp, if_false] at hw ⊢
        by_cases h2 : s.1 = -1
        · rw [if_pos h2] at hw ⊢; exact hw
        · rw [if_neg h2] at hw ⊢
          by_cases h3 : vals v (nI i) < s.2
          · rw [if_pos h3] at hw ⊢; exact hw
          · rw [if_neg h3] at hw ⊢
            by_cases h4 : vals v (nI i) = s.2
            · rw [if_pos h4] at hw ⊢
              by_cases h5 : bc s.1 ≤ bc (nI i)
              · rw [if_pos h5] at hw ⊢; exact hw
              · rw [if_neg h5] at hw ⊢; exact hw
            · rw [if_neg h4] at hw ⊢; exact hw
    · rw [if_neg h0] at hw ⊢; exact hw
set_option maxRecDepth 100000 in
theorem x_wise {ws : Nat → Int32} (h : RepX v m) (hW : Wr v ws m) (p price : Int32) : Ev pSt (fun m => RepX v m ∧ Wr v ws m) (F_X5_wiseSet m p price) m (wise_ v ws p price) := by
  unfold F_X5_wiseSet wise_
  refine Ev.bdA (x_purse h p 0) fun m ha h => ?_
  have hW := hW.st ha
  refine Ev.loop (L := fun fu m s i => F_X5_wiseSet_16 fu m price (purse v p 0) s.1 s.2 i) (n := 256) (ex := fun s => s.1) (RR := fun _ m => RepX v m ∧ Wr v ws m) (fun fu m s h => ?_) (fun fu m s i hi h w hw => ?_) 256 0 FU m (-1, 0) (by omega) (hFU (by omega)) ⟨h, hW⟩
  · show Ev pSt _ (F_X5_wiseSet_16 (fu + 1) m price (purse v p 0) s.1 s.2 (nI 256)) m s.1
    unfold F_X5_wiseSet_16
    rw [if_pos (by decide)]; exact Ev.ret h
  · show Ev pSt _ (F_X5_wiseSet_16 (fu + 1) m price (purse v p 0) s.1 s.2 (nI i)) m w
    have hw := hw m h
    unfold F_X5_wiseSet_16 F_X5_wiseSet_64 F_X5_wiseSet_72
    simp only [nI_1, x_vals h.1, x_without h.1 h.2, bnd_eq]
    rw [if_neg (ne256 hi)]
    unfold wiS at hw
    simp only [nm] at hw
    by_cases h0 : nI i &&& (purse v p 0 ^^^ -1) = 0
    · rw [if_pos h0] at hw ⊢
      by_cases hp : vals v (nI i) < price
      · rw [if_pos hp] at hw ⊢; exact hw
      · rw [if_neg hp] at hw ⊢
        by_cases h2 : s.1 = -1
        · rw [if_pos h2] at hw ⊢; exact hw
        · rw [if_neg h2] at hw ⊢
          by_cases h3 : without v ws (nI i) ≤ s.2
          · rw [if_pos h3] at hw ⊢; exact hw
          · rw [if_neg h3] at hw ⊢; exact hw
    · rw [if_neg h0] at hw ⊢; exact hw
end XS
