/-! sets as bits of a number -/
def mk (b : Nat → Bool) : Nat → Nat
  | 0 => 0
  | n + 1 => if b n = true then mk b n ||| 2 ^ n else mk b n
def cn (b : Nat → Bool) : Nat → Nat
  | 0 => 0
  | n + 1 => if b n = true then cn b n + 1 else cn b n
theorem mk_s (b : Nat → Bool) (n : Nat) : mk b (n + 1) = if b n = true then mk b n ||| 2 ^ n else mk b n := rfl
theorem cn_s (b : Nat → Bool) (n : Nat) : cn b (n + 1) = if b n = true then cn b n + 1 else cn b n := rfl
theorem mk_lt (b : Nat → Bool) : ∀ n, mk b n < 2 ^ n
  | 0 => Nat.lt_succ_self 0
  | n + 1 => by
    rw [mk_s]
    have h := mk_lt b n
    have h1 : (2 : Nat) ^ n < 2 ^ (n + 1) := Nat.pow_lt_pow_right (by decide) (by omega)
    split
    · exact Nat.or_lt_two_pow (Nat.lt_trans h h1) h1
    · exact Nat.lt_trans h h1
theorem mk_bit (b : Nat → Bool) (i : Nat) : ∀ n, (mk b n).testBit i = (decide (i < n) && b i)
  | 0 => by simp [mk]
  | n + 1 => by
    rw [mk_s]
    have h := mk_bit b i n
    by_cases e : i = n
    · subst e
      cases hb : b i with
      | false => simp [h]
      | true => simp [h, Nat.testBit_two_pow]
    · have e2 : (decide (i < n + 1)) = decide (i < n) := by simp; omega
      rw [e2]
      split
      · rw [Nat.testBit_or, h, Nat.testBit_two_pow]; simp; omega
      · exact h
theorem mk_256 (b : Nat → Bool) {n : Nat} (hn : n ≤ 8) : mk b n < 256 := Nat.lt_of_lt_of_le (mk_lt b n) (Nat.pow_le_pow_right (n := 2) (by decide) hn)
theorem mk_congr {b c : Nat → Bool} : ∀ n, (∀ i, i < n → b i = c i) → mk b n = mk c n
  | 0, _ => rfl
  | n + 1, h => by rw [mk_s, mk_s, h n (by omega), mk_congr n (fun i hi => h i (by omega))]
theorem or_low : ∀ n, n < 8 → ∀ k, k < 2 ^ n → nI k ||| bit (nI n) = nI (k ||| 2 ^ n) ∧ nI k + bit (nI n) = nI (k ||| 2 ^ n) := by decide +kernel
theorem mk_or (b : Nat → Bool) : ∀ n, n ≤ 8 → fold (fun i s => if b i = true then s ||| bit (nI i) else s) 0 n 0 = nI (mk b n)
  | 0, _ => rfl
  | n + 1, h => by
    rw [fold_snoc, mk_or b n (by omega), Nat.zero_add]
    rw [mk_s]
    split
    · exact (or_low n (by omega) _ (mk_lt b n)).1
    · rfl
theorem mk_add (b : Nat → Bool) : ∀ n, n ≤ 8 → fold (fun i s => if b i = true then s + bit (nI i) else s) 0 n 0 = nI (mk b n)
  | 0, _ => rfl
  | n + 1, h => by
    rw [fold_snoc, mk_add b n (by omega), Nat.zero_add]
    rw [mk_s]
    split
    · exact (or_low n (by omega) _ (mk_lt b n)).2
    · rfl
theorem cn_fold (b : Nat → Bool) : ∀ n, fold (fun i s => if b i = true then s + 1 else s) 0 n 0 = nI (cn b n)
  | 0 => rfl
  | n + 1 => by
    rw [fold_snoc, cn_fold b n, Nat.zero_add]
    rw [cn_s]
    split
    · exact nI_1 _
    · rfl
theorem cn_le (b : Nat → Bool) : ∀ n, cn b n ≤ n
  | 0 => Nat.le_refl 0
  | n + 1 => by rw [cn_s]; have := cn_le b n; split <;> omega
theorem cn_congr {b c : Nat → Bool} : ∀ n, (∀ i, i < n → b i = c i) → cn b n = cn c n
  | 0, _ => rfl
  | n + 1, h => by rw [cn_s, cn_s, h n (by omega), cn_congr n (fun i hi => h i (by omega))]
theorem cn_ext {b c : Nat → Bool} {n : Nat} (h : ∀ i, i < n → b i = c i) : ∀ r, (∀ i, n ≤ i → i < n + r → b i = false) → cn b (n + r) = cn c n
  | 0, _ => cn_congr n h
  | r + 1, hz => by
    show (if b (n + r) = true then cn b (n + r) + 1 else cn b (n + r)) = _
    rw [hz (n + r) (by omega) (by omega), if_neg (by decide)]
    exact cn_ext h r (fun i h1 h2 => hz i h1 (by omega))
theorem bc_256 : ∀ k, k < 256 → bc (nI k) = nI (cn (fun i => k.testBit i) 8) := by decide +kernel
theorem hb_256 : ∀ i, i < 8 → ∀ k, k < 256 → hb (nI k) (nI i) = k.testBit i := by decide +kernel
theorem mk_bc (b : Nat → Bool) {n : Nat} (hn : n ≤ 8) : bc (nI (mk b n)) = nI (cn b n) := by
  rw [bc_256 _ (mk_256 b hn)]
  congr 1
  have := cn_ext (b := fun i => (mk b n).testBit i) (c := b) (n := n) (fun i hi => by rw [mk_bit]; simp [hi]) (8 - n) (fun i h1 h2 => by rw [mk_bit]; simp; omega)
  rw [show n + (8 - n) = 8 by omega] at this
  exact this
theorem mk_hb (b : Nat → Bool) {n i : Nat} (hn : n ≤ 8) (hi : i < 8) : hb (nI (mk b n)) (nI i) = (decide (i < n) && b i) := by
  rw [hb_256 i hi _ (mk_256 b hn), mk_bit]
theorem m1_32 : (-1 : Int32) = nI 4294967295 := by decide
theorem land_not (a b : Nat) : nI a &&& (nI b ^^^ -1) = nI (a &&& (b ^^^ 4294967295)) := by
  rw [m1_32]
  apply Int32.toBitVec_inj.mp
  show BitVec.ofNat 32 a &&& (BitVec.ofNat 32 b ^^^ BitVec.ofNat 32 4294967295) = BitVec.ofNat 32 (a &&& (b ^^^ 4294967295))
  rw [BitVec.ofNat_and, BitVec.ofNat_xor]
theorem ones_bit {i : Nat} (h : i < 32) : Nat.testBit 4294967295 i = true := by
  have := Nat.testBit_two_pow_sub_one 32 i
  rw [show (2 : Nat) ^ 32 - 1 = 4294967295 from rfl] at this
  rw [this]; simp [h]
theorem mk_diff (o w : Nat → Bool) {n : Nat} (hn : n ≤ 8) : nI (mk o n) &&& (nI (mk w n) ^^^ -1) = nI (mk (fun i => o i && !w i) n) := by
  rw [land_not]
  congr 1
  apply Nat.eq_of_testBit_eq
  intro i
  rw [Nat.testBit_and, Nat.testBit_xor, mk_bit, mk_bit, mk_bit]
  by_cases hi : i < n
  · rw [ones_bit (by omega)]; simp [hi]
  · simp [hi]
/-- a set with a coin that is none -/
theorem out_ne {s p n : Nat} (hs : s < 256) (hsn : 2 ^ n ≤ s) (hp : p < 2 ^ n) : ¬ nI s &&& (nI p ^^^ -1) = 0 := by
  rw [land_not]
  intro h
  have hlt : s &&& (p ^^^ 4294967295) < 256 := Nat.lt_of_le_of_lt Nat.and_le_left hs
  have h0 : s &&& (p ^^^ 4294967295) = 0 := (nI_eq (by omega) (by omega)).mp (h.trans nI_0.symm)
  obtain ⟨i, hi, ht⟩ := Nat.exists_ge_and_testBit_of_ge_two_pow hsn
  have hi32 : i < 32 := by
    apply Nat.lt_of_not_le
    intro h32
    have := Nat.testBit_lt_two_pow (x := s) (i := i) (Nat.lt_of_lt_of_le hs (Nat.le_trans (by decide : 256 ≤ 2 ^ 32) (Nat.pow_le_pow_right (by decide) h32)))
    rw [this] at ht; cases ht
  have hpb : p.testBit i = false := Nat.testBit_lt_two_pow (Nat.lt_of_lt_of_le hp (Nat.pow_le_pow_right (by decide) hi))
  have := congrArg (fun x => Nat.testBit x i) h0
  simp [ht, hpb, ones_bit hi32] at this
theorem fold_id {σ : Type} {st : Nat → σ → σ} {a : Nat} : ∀ (r : Nat) (s : σ), (∀ i s, a ≤ i → i < a + r → st i s = s) → fold st a r s = s := by
  intro r
  induction r with
  | zero => intros; rfl
  | succ r ih =>
    intro s h
    rw [fold_snoc, ih s (fun i s h1 h2 => h i s h1 (by omega)), h (a + r) s (by omega) (by omega)]
theorem fold_split {σ : Type} (st : Nat → σ → σ) : ∀ (a b i : Nat) (s : σ), fold st i (a + b) s = fold st (i + a) b (fold st i a s) := by
  intro a
  induction a with
  | zero => intro b i s; rw [Nat.zero_add, Nat.add_zero]; rfl
  | succ a ih =>
    intro b i s
    rw [show a + 1 + b = (a + b) + 1 by omega]
    show fold st (i + 1) (a + b) (st i s) = fold st (i + (a + 1)) b (fold st (i + 1) a (st i s))
    rw [ih b (i + 1) (st i s), show i + 1 + a = i + (a + 1) by omega]
theorem purse_mk {v : VW} (hn : vn v ≤ 8) (p k : Int32) : purse v p k = nI (mk (fun i => decide (vc v i 5 = p) && whole v (vc v i) k) (vn v)) := by
  rw [← mk_or _ _ hn]
  unfold purse
  refine fold_congr (n := vn v) (fun i s _ => ?_) (vn v) 0 0 (by omega)
  simp
theorem owns_mk {v : VW} (hn : vn v ≤ 8) (p : Int32) : owns v p = nI (mk (fun i => decide (vc v i 5 = p)) (vn v)) := by
  rw [← mk_or _ _ hn]
  unfold owns
  refine fold_congr (n := vn v) (fun i s _ => ?_) (vn v) 0 0 (by omega)
  simp
theorem turned_eq {v : VW} (hn : vn v ≤ 8) (p : Int32) : owns v p &&& (purse v p 0 ^^^ -1) = turned v p := by
  rw [owns_mk hn, purse_mk hn, mk_diff _ _ hn]
  have := mk_or (fun i => decide (vc v i 5 = p) && !(decide (vc v i 5 = p) && whole v (vc v i) 0)) _ hn
  rw [← this]
  unfold turned
  refine (fold_congr (n := vn v) (fun i s _ => ?_) (vn v) 0 0 (by omega)).symm
  by_cases ho : vc v i 5 = p <;> simp [ho]
/-- all sets: those of the coins are enough -/
theorem all_sets {σ : Type} {st : Nat → σ → σ} {v : VW} (hn : vn v ≤ 8) (p : Int32) (s : σ) (h : ∀ i s, ¬ nI i &&& (purse v p 0 ^^^ -1) = 0 → st i s = s) : fold st 0 256 s = fold st 0 (2 ^ vn v) s := by
  have hp : 2 ^ vn v ≤ 256 := (pow8 (vn v) (by omega)).2
  rw [show 256 = 2 ^ vn v + (256 - 2 ^ vn v) by omega, fold_split, Nat.zero_add]
  apply fold_id
  intro i s h1 h2
  apply h
  rw [purse_mk hn]
  exact out_ne (by omega) h1 (mk_lt _ _)
theorem exact_eq {v : VW} (hn : vn v ≤ 8) (p price : Int32) : exact_ v p price = fold (exS v (purse v p 0) price) 0 (2 ^ vn v) (-1) :=
  all_sets hn p _ (fun i s h => by unfold exS; rw [if_neg h])
theorem over_eq {v : VW} (hn : vn v ≤ 8) (p price : Int32) : over_ v p price = (fold (ovS v (purse v p 0) price) 0 (2 ^ vn v) (-1, 0)).1 := by
  unfold over_
  rw [all_sets hn p _ (fun i s h => by unfold ovS; rw [if_neg h])]
