/-! both ways of seeking a change find the same -/
theorem bm32 {z : Int} (h1 : -2147483648 ≤ z) (h2 : z < 2147483648) : z.bmod (2 ^ 32) = z := by
  rw [Int.bmod_def]; omega
theorem cl_rng {x lo hi : Int32} (h : lo.toInt ≤ hi.toInt) : lo.toInt ≤ (cl x lo hi).toInt ∧ (cl x lo hi).toInt ≤ hi.toInt := by
  unfold cl
  simp only [Int32.lt_iff_toInt_lt]
  split
  · omega
  · split <;> omega
theorem toNatI {x : Int32} (h : 0 ≤ x.toInt) : x = nI x.toInt.toNat := by
  apply Int32.toInt_inj.mp
  have := x.toInt_lt
  rw [nI_toInt (by omega)]; omega
theorem pT_rng (S : Nat → (Int32 → Int32) → Int32) (r : Nat → Int32) (a d : Int32) : ∃ t, 1 ≤ t ∧ t ≤ 1000 ∧ pT S r a d = nI t := by
  unfold pT
  by_cases h5 : r 0 = 5
  · rw [if_pos h5]; exact ⟨1000, by decide, by decide, rfl⟩
  · rw [if_neg h5]
    dsimp only [nm]
    generalize (if r 0 = 1 then cl (S 0 (envC r a d)) 0 99 + r 1 / 2 else if r 0 = 3 then 2 * (cl (S 0 (envC r a d)) 0 99 + r 1 / 2) else if r 0 = 2 then cl (S 0 (envC r a d)) 0 99 / 2 else if r 0 = 4 then cl (cl (S 0 (envC r a d)) 0 99 / 2) 0 3 else cl (S 0 (envC r a d)) 0 99) = y
    obtain ⟨h1, h2⟩ := cl_rng (x := y) (lo := 1) (hi := 1000) (by decide)
    rw [show (1 : Int32).toInt = 1 from rfl] at h1
    rw [show (1000 : Int32).toInt = 1000 from rfl] at h2
    exact ⟨(cl y 1 1000).toInt.toNat, by omega, by omega, toNatI (by omega)⟩
theorem pG_rng (S : Nat → (Int32 → Int32) → Int32) (r : Nat → Int32) (a d : Int32) : -999 ≤ (pG S r a d).toInt ∧ (pG S r a d).toInt ≤ 999 := by
  unfold pG
  by_cases h5 : r 0 = 5
  · rw [if_pos h5]; decide
  · rw [if_neg h5]
    dsimp only [nm]
    exact cl_rng (lo := -999) (hi := 999) (by decide)
theorem pO_rng (S : Nat → (Int32 → Int32) → Int32) (r : Nat → Int32) (a d : Int32) : ∃ o, o ≤ 99 ∧ pO S r a d = nI o := by
  unfold pO
  by_cases h5 : r 0 = 5
  · rw [if_pos h5]; exact ⟨0, by decide, rfl⟩
  · rw [if_neg h5]
    split
    · exact ⟨0, by decide, rfl⟩
    · dsimp only [nm]
      obtain ⟨k, h1, h2⟩ := cl99 (if r 0 = 2 ∨ r 0 = 4 then 2 * cl (S 2 (envC r a d)) 0 99 else cl (S 2 (envC r a d)) 0 99)
      exact ⟨k, by omega, h2⟩
theorem pW_rng (S : Nat → (Int32 → Int32) → Int32) (r : Nat → Int32) (d : Int32) {a : Nat} (ha : a ≤ 999) (h2 : btw (r 2) 1 99 = true) : -999 ≤ (pW S r (nI a) d).toInt ∧ (pW S r (nI a) d).toInt ≤ 999 := by
  unfold pW
  dsimp only [nm]
  obtain ⟨t, t1, t2, et⟩ := pT_rng S r (nI a) d
  obtain ⟨g1, g2⟩ := pG_rng S r (nI a) d
  obtain ⟨o, o1, eo⟩ := pO_rng S r (nI a) d
  rw [et, eo]
  generalize pG S r (nI a) d = g at g1 g2
  by_cases hl : nI t ≤ nI a
  · rw [if_pos hl]
    have hta : t ≤ a := (nI_leI (by omega) (by omega)).mp hl
    by_cases hg : 0 ≤ g
    · rw [if_pos hg]
      have e1 : nI a - nI t = nI (a - t) := (Int32.ofNat_sub _ _ hta).symm
      have e2 : nI o * nI (a - t) = nI (o * (a - t)) := (Int32.ofNat_mul _ _).symm
      rw [e1, e2]
      have hm : o * (a - t) ≤ 99 * 999 := Nat.mul_le_mul o1 (by omega)
      generalize o * (a - t) = z at hm
      have e3 : (g - nI z).toInt = g.toInt - z := by
        rw [Int32.toInt_sub, nI_toInt (by omega), bm32 (by omega) (by omega)]
      by_cases h0 : 0 ≤ g - nI z
      · rw [if_pos h0, e3]
        have := Int32.le_iff_toInt_le.mp h0
        rw [e3, show (0 : Int32).toInt = 0 from rfl] at this
        omega
      · rw [if_neg h0]; decide
    · rw [if_neg hg]; exact ⟨g1, g2⟩
  · rw [if_neg hl]
    have := btw_iff.mp h2
    omega
theorem wor_rng {v : VW} {r : Nat → Int32} (h : CB r) : -999 ≤ (wor v r 10).toInt ∧ (wor v r 10).toInt ≤ 999 := by
  obtain ⟨a, ha, e⟩ := ag_rng h (k := 10) (by decide)
  unfold wor
  rw [show (10 : Int32) = nI 10 from rfl, e]
  exact pW_rng _ _ _ ha h.2.2.1
def fs (f : Nat → Int32) : Nat → Int32
  | 0 => 0
  | n + 1 => fs f n + f n
theorem fs_s (f : Nat → Int32) (n : Nat) : fs f (n + 1) = fs f n + f n := rfl
theorem fs_congr {f g : Nat → Int32} : ∀ n, (∀ i, i < n → f i = g i) → fs f n = fs g n
  | 0, _ => rfl
  | n + 1, h => by rw [fs_s, fs_s, h n (by omega), fs_congr n (fun i hi => h i (by omega))]
theorem fs_add (f g : Nat → Int32) : ∀ n, fs f n + fs g n = fs (fun i => f i + g i) n
  | 0 => rfl
  | n + 1 => by
    rw [fs_s, fs_s, fs_s, ← fs_add f g n]
    ac_rfl
theorem add_sub3 (a f x : Int32) : a + f + (x - f) = a + x := by
  rw [Int32.add_assoc, Int32.add_comm f, Int32.sub_add_cancel]
theorem fs_upd (f : Nat → Int32) (a : Nat) (x : Int32) : ∀ n, a < n → fs (fun i => if i = a then x else f i) n = fs f n + (x - f a)
  | 0, h => absurd h (Nat.not_lt_zero a)
  | n + 1, h => by
    rw [fs_s, fs_s]
    by_cases e : a = n
    · subst e
      rw [if_pos rfl, add_sub3, fs_congr (g := f) a (fun i hi => if_neg (by omega))]
    · rw [if_neg (by omega), fs_upd f a x n (by omega)]
      ac_rfl
theorem rich_fs (v : VW) (p k : Int32) : rich v p k = fs (fun i => if vc v i 5 = p then wor v (vc v i) k else 0) (vn v) := by
  unfold rich
  have : ∀ n, fold (fun i s => if vc v i 5 = p then s + wor v (vc v i) k else s) 0 n 0 = fs (fun i => if vc v i 5 = p then wor v (vc v i) k else 0) n := by
    intro n
    induction n with
    | zero => rfl
    | succ n ih =>
      rw [fold_snoc, ih, fs_s, Nat.zero_add]
      by_cases h : vc v n 5 = p
      · rw [if_pos h, if_pos h]
      · rw [if_neg h, if_neg h, Int32.add_zero]
  exact this _
theorem fs_rng {f : Nat → Int32} : ∀ n, n ≤ 8 → (∀ i, i < n → -999 ≤ (f i).toInt ∧ (f i).toInt ≤ 999) → -(999 * n : Int) ≤ (fs f n).toInt ∧ (fs f n).toInt ≤ 999 * n
  | 0, _, _ => (by decide : -(999 * ((0 : Nat) : Int)) ≤ (0 : Int32).toInt ∧ (0 : Int32).toInt ≤ 999 * ((0 : Nat) : Int))
  | n + 1, h, hf => by
    obtain ⟨h1, h2⟩ := fs_rng n (by omega) (fun i hi => hf i (by omega))
    obtain ⟨h3, h4⟩ := hf n (by omega)
    rw [fs_s, Int32.toInt_add, bm32 (by omega) (by omega)]
    omega
theorem rich_rng {v : VW} (hn : vn v ≤ 8) (hv : OKv v) (p : Int32) : -7992 ≤ (rich v p 10).toInt ∧ (rich v p 10).toInt ≤ 7992 := by
  rw [rich_fs]
  obtain ⟨h1, h2⟩ := fs_rng (f := fun i => if vc v i 5 = p then wor v (vc v i) 10 else 0) (vn v) hn (fun i hi => by
    split
    · exact wor_rng (hv i hi)
    · decide)
  omega
theorem gain_rng {v : VW} (hv : OKv v) {c : Nat} (hc : c < vn v) {to : Int32} (ht : btw to 0 3 = true) : -1998 ≤ (gain v c to).toInt ∧ (gain v c to).toInt ≤ 1998 := by
  obtain ⟨h1, h2⟩ := wor_rng (v := v) ((hv c hc).paid ht)
  obtain ⟨h3, h4⟩ := wor_rng (v := v) (hv c hc)
  unfold gain
  rw [Int32.toInt_sub, bm32 (by omega) (by omega)]
  omega
theorem two_eq {v : VW} {p q : Int32} (hpq : ¬ p = q) {a b : Nat} (ha : a < vn v) (hb : b < vn v) (oa : vc v a 5 = p) (ob : vc v b 5 = q) : rich (vtwo v p q a b) p 10 + rich (vtwo v p q a b) q 10 = rich v p 10 + rich v q 10 + (gain v a q + gain v b p) := by
  have hab : ¬ b = a := fun z => hpq (by rw [← oa, ← ob, z])
  rw [rich_fs, rich_fs, rich_fs, rich_fs, fs_add, fs_add]
  have e : fs (fun i => (if vc (vtwo v p q a b) i 5 = p then wor (vtwo v p q a b) (vc (vtwo v p q a b) i) 10 else 0) + (if vc (vtwo v p q a b) i 5 = q then wor (vtwo v p q a b) (vc (vtwo v p q a b) i) 10 else 0)) (vn v) = fs (fun i => if i = b then wor v (paid (vc v b) p) 10 else if i = a then wor v (paid (vc v a) q) 10 else (if vc v i 5 = p then wor v (vc v i) 10 else 0) + (if vc v i 5 = q then wor v (vc v i) 10 else 0)) (vn v) := by
    apply fs_congr
    intro i _
    have ev : vc (vtwo v p q a b) i = if i = b then paid (vc v b) p else if i = a then paid (vc v a) q else vc v i := by
      show (if i = b then paid (if b = a then paid (vc v a) q else vc v b) p else if i = a then paid (vc v a) q else vc v i) = _
      rw [if_neg hab]
    rw [ev]
    by_cases eb : i = b
    · rw [if_pos eb, if_pos eb, if_pos (show paid (vc v b) p 5 = p from rfl), if_neg (show ¬ paid (vc v b) p 5 = q from hpq), Int32.add_zero]; rfl
    · rw [if_neg eb, if_neg eb]
      by_cases ea : i = a
      · rw [if_pos ea, if_pos ea, if_neg (show ¬ paid (vc v a) q 5 = p from fun z => hpq z.symm), if_pos (show paid (vc v a) q 5 = q from rfl), Int32.zero_add]; rfl
      · rw [if_neg ea, if_neg ea]; rfl
  have en : vn (vtwo v p q a b) = vn v := rfl
  rw [en, e]
  rw [fs_upd (fun i => if i = a then wor v (paid (vc v a) q) 10 else (if vc v i 5 = p then wor v (vc v i) 10 else 0) + (if vc v i 5 = q then wor v (vc v i) 10 else 0)) b _ _ hb, fs_upd (fun i => (if vc v i 5 = p then wor v (vc v i) 10 else 0) + (if vc v i 5 = q then wor v (vc v i) 10 else 0)) a _ _ ha]
  rw [if_neg hab, if_neg (show ¬ vc v b 5 = p by rw [ob]; exact fun z => hpq z.symm), if_pos ob, if_pos oa, if_neg (show ¬ vc v a 5 = q by rw [oa]; exact hpq), Int32.zero_add, Int32.add_zero, Int32.add_assoc]
  rfl
theorem fold_shift {σ : Type} (st : Nat → σ → σ) (c : Nat) : ∀ (r i : Nat) (s : σ), fold st (c + i) r s = fold (fun b s => st (c + b) s) i r s := by
  intro r
  induction r with
  | zero => intros; rfl
  | succ r ih => intro i s; exact ih (i + 1) (st (c + i) s)
theorem fold_blk {σ : Type} (st : Nat → σ → σ) : ∀ (r a : Nat) (s : σ), fold st (8 * a) (8 * r) s = fold (fun a s => fold (fun b s => st (8 * a + b) s) 0 8 s) a r s := by
  intro r
  induction r with
  | zero => intros; rfl
  | succ r ih =>
    intro a s
    rw [show 8 * (r + 1) = 8 + 8 * r by omega, fold_split, show 8 * a + 8 = 8 * (a + 1) by omega, ih (a + 1)]
    show _ = fold _ (a + 1) r (fold (fun b s => st (8 * a + b) s) 0 8 s)
    rw [← fold_shift st (8 * a) 8 0 s]
    rfl
theorem fold_rel {σ τ : Type} {st : Nat → σ → σ} {st' : Nat → τ → τ} {R : σ → τ → Prop} : ∀ (r i : Nat) (s : σ) (s' : τ), (∀ k s s', i ≤ k → k < i + r → R s s' → R (st k s) (st' k s')) → R s s' → R (fold st i r s) (fold st' i r s') := by
  intro r
  induction r with
  | zero => intro i s s' _ h; exact h
  | succ r ih => intro i s s' hs h; exact ih (i + 1) _ _ (fun k s s' h1 h2 => hs k s s' (by omega) (by omega)) (hs i s s' (by omega) (by omega) h)
theorem fold_more {σ : Type} (st : Nat → σ → σ) {n N : Nat} (h : n ≤ N) (s : σ) (hs : ∀ i s, n ≤ i → i < N → st i s = s) : fold st 0 N s = fold st 0 n s := by
  rw [show N = n + (N - n) by omega, fold_split, Nat.zero_add]
  exact fold_id _ _ (fun i s h1 h2 => hs i s h1 (by omega))
theorem le_shift {s x y : Int32} (h1 : -16000 ≤ s.toInt) (h2 : s.toInt ≤ 16000) (h3 : -4000 ≤ x.toInt) (h4 : x.toInt ≤ 4000) (h5 : -4000 ≤ y.toInt) (h6 : y.toInt ≤ 4000) : (s + x ≤ s + y) ↔ x ≤ y := by
  rw [Int32.le_iff_toInt_le, Int32.le_iff_toInt_le, Int32.toInt_add, Int32.toInt_add, bm32 (by omega) (by omega), bm32 (by omega) (by omega)]
  omega
theorem chg_eq {v : VW} (hn : vn v ≤ 8) (hv : OKv v) {p q : Int32} (hp : btw p 0 3 = true) (hq : btw q 0 3 = true) (hpq : ¬ p = q) (wh : Int32) : (if wh = 0 then (fold (cmS v p q) 0 64 (-1, rich v p 10 + rich v q 10)).1 else (fold (cmS v p q) 0 64 (-1, rich v p 10 + rich v q 10)).2) = chgA v p q wh := by
  have e64 := fold_blk (cmS v p q) 8 0 (-1, rich v p 10 + rich v q 10)
  rw [show 8 * 0 = 0 from rfl, show 8 * 8 = 64 from rfl] at e64
  obtain ⟨p1, p2⟩ := rich_rng hn hv p
  obtain ⟨q1, q2⟩ := rich_rng hn hv q
  have hs : -16000 ≤ (rich v p 10 + rich v q 10).toInt ∧ (rich v p 10 + rich v q 10).toInt ≤ 16000 := by
    rw [Int32.toInt_add, bm32 (by omega) (by omega)]; omega
  have hout : ∀ (p : Int32) i, vn v ≤ i → i < 8 → ¬ hb (purse v p 0) (nI i) = true := fun p i h1 h2 => by
    rw [purse_hb hn p h2]; simp; omega
  have eb : bp v p q = fold (fun i s => fold (bpI v p q (purse v p 0) (purse v q 0) i) 0 8 s) 0 8 (-1, 0) := by
    rw [fold_more (fun i s => fold (bpI v p q (purse v p 0) (purse v q 0) i) 0 8 s) hn (-1, 0) (fun i s h1 h2 => fold_id 8 s (fun j s _ _ => by unfold bpI; rw [if_neg (hout p i h1 h2)]))]
    unfold bp
    refine fold_congr (n := vn v) (fun i s _ => ?_) (vn v) 0 _ (by omega)
    unfold bpO
    exact (fold_more (bpI v p q (purse v p 0) (purse v q 0) i) hn s (fun j s h1 h2 => by unfold bpI; rw [if_neg (hout q j h1 h2), ite_self])).symm
  have rel : (fun (sx sm : Int32 × Int32) => sm = (sx.1, rich v p 10 + rich v q 10 + sx.2) ∧ -4000 ≤ sx.2.toInt ∧ sx.2.toInt ≤ 4000) (bp v p q) (fold (cmS v p q) 0 64 (-1, rich v p 10 + rich v q 10)) := by
    rw [e64, eb]
    refine fold_rel (R := fun (sx sm : Int32 × Int32) => sm = (sx.1, rich v p 10 + rich v q 10 + sx.2) ∧ -4000 ≤ sx.2.toInt ∧ sx.2.toInt ≤ 4000) 8 0 _ _ (fun a sx sm _ ha hr => ?_) ⟨by rw [Int32.add_zero], by decide, by decide⟩
    refine fold_rel (R := fun (sx sm : Int32 × Int32) => sm = (sx.1, rich v p 10 + rich v q 10 + sx.2) ∧ -4000 ≤ sx.2.toInt ∧ sx.2.toInt ≤ 4000) 8 0 _ _ (fun b sx sm _ hb' hr => ?_) hr
    obtain ⟨rfl, r1, r2⟩ := hr
    unfold bpI cmS
    rw [show (8 * a + b) / 8 = a by omega, show (8 * a + b) % 8 = b by omega]
    by_cases b1 : hb (purse v p 0) (nI a) = true
    · rw [if_pos b1, if_pos b1]
      by_cases b2 : hb (purse v q 0) (nI b) = true
      · rw [if_pos b2, if_pos b2]
        have ha : a < vn v ∧ vc v a 5 = p := by
          rw [purse_hb hn p (by omega)] at b1; simp at b1; exact ⟨b1.1, b1.2.1⟩
        have hb : b < vn v ∧ vc v b 5 = q := by
          rw [purse_hb hn q (by omega)] at b2; simp at b2; exact ⟨b2.1, b2.2.1⟩
        rw [two_eq hpq ha.1 hb.1 ha.2 hb.2]
        obtain ⟨g1, g2⟩ := gain_rng hv ha.1 hq
        obtain ⟨g3, g4⟩ := gain_rng hv hb.1 hp
        have hg : -4000 ≤ (gain v a q + gain v b p).toInt ∧ (gain v a q + gain v b p).toInt ≤ 4000 := by
          rw [Int32.toInt_add, bm32 (by omega) (by omega)]; omega
        dsimp only
        by_cases hc : gain v a q + gain v b p ≤ sx.2
        · rw [if_pos hc, if_pos ((le_shift hs.1 hs.2 hg.1 hg.2 r1 r2).mpr hc)]; exact ⟨rfl, r1, r2⟩
        · rw [if_neg hc, if_neg (fun z => hc ((le_shift hs.1 hs.2 hg.1 hg.2 r1 r2).mp z))]; exact ⟨rfl, hg.1, hg.2⟩
      · rw [if_neg b2, if_neg b2]; exact ⟨rfl, r1, r2⟩
    · rw [if_neg b1, if_neg b1]; exact ⟨rfl, r1, r2⟩
  obtain ⟨e, -, -⟩ := rel
  rw [e]
  rfl
