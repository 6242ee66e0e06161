/-! AT THE LAW'S ENTRY: classes, arrays, what is only read -/
theorem arrP {s : State} {args : Array Value} {ty : FieldType} (hp : ∀ C, ty ≠ .object C) (h : (Cond.arrayClass ty).before args s = true) : ∃ cA, ArrOfT s cA ty ∧ va_RA s cA ty := by
  obtain ⟨cA, kA, comp, h1, h2, h3⟩ := Cond.arrayClass_spec h
  refine ⟨cA, fun n z => ⟨fun k h => (by cases h), kA, h2, comp, h3⟩, ?_⟩
  cases ty <;> first | exact absurd rfl (hp _) | exact h1
theorem arrQ {s : State} {C : String} (h : va_AO C s) : ∃ cA, ArrOfT s cA (.object C) ∧ va_RA s cA (.object C) := by
  obtain ⟨comp, cA, kA, h1, h2, h3, h4, h5⟩ := Cond.arrayOver_spec h
  exact ⟨cA, fun n z => ⟨fun k h => (by cases h), kA, h3, comp, h4⟩, kA, comp, h3, h4, h1, h5⟩
theorem K_start {s : State} {args : Array Value} (hts : ∀ w ∈ lw_tbl, w.before args s = true) (h1 : va_AO RX0 s) (h2 : va_AO RX2 s) (h3 : va_AO RX4 s) : ∃ (D : va_G) (cy : Nat → ClassId), va_K D vwCl (tysOf cy) s := by
  have htg : ∀ w ∈ gtbl, w.before args s = true := fun w hw => hts w (gtbl_in hw)
  have key : ∀ ci, ci < 7 → ∃ (q : vw_C) (cC : ClassId) (iS : Nat → Nat), vwCl[ci]? = some q ∧ u_Kn s q.1 q.2.1 q.2.2 cC iS := by
    intro ci hci
    match ci, hci with
    | 0, _ => obtain ⟨a, b, h⟩ := u_known htg cls0.2.1 (htg _ la_X0); exact ⟨_, a, b, cls0.1, h⟩
    | 1, _ => obtain ⟨a, b, h⟩ := u_known htg cls1.2.1 (htg _ la_X1); exact ⟨_, a, b, cls1.1, h⟩
    | 2, _ => obtain ⟨a, b, h⟩ := u_known htg cls2.2.1 (htg _ la_X2); exact ⟨_, a, b, cls2.1, h⟩
    | 3, _ => obtain ⟨a, b, h⟩ := u_known htg cls3.2.1 (htg _ la_X3); exact ⟨_, a, b, cls3.1, h⟩
    | 4, _ => obtain ⟨a, b, h⟩ := u_known htg cls4.2.1 (htg _ la_X4); exact ⟨_, a, b, cls4.1, h⟩
    | 5, _ => obtain ⟨a, b, h⟩ := u_known htg cls5.2.1 (htg _ la_X5); exact ⟨_, a, b, cls5.1, h⟩
    | 6, _ => obtain ⟨a, b, h⟩ := u_known htg cls6.2.1 (htg _ la_X6); exact ⟨_, a, b, cls6.1, h⟩
    | n + 7, h => exact absurd h (by omega)
  have key2 : ∀ ci : Nat, ∃ (cC : ClassId) (iS : Nat → Nat), ∀ q : vw_C, vwCl[ci]? = some q → u_Kn s q.1 q.2.1 q.2.2 cC iS := by
    intro ci
    by_cases hci : ci < 7
    · obtain ⟨q, cC, iS, e1, e2⟩ := key ci hci
      exact ⟨cC, iS, fun q' hq' => by rw [e1] at hq'; cases hq'; exact e2⟩
    · obtain ⟨_, cC, iS, -, -⟩ := key 0 (by decide)
      exact ⟨cC, iS, fun q' hq' => by
        have : ci < vwCl.length := (List.getElem?_eq_some_iff.mp hq').1
        exact absurd this hci⟩
  obtain ⟨dC, hdC⟩ := Classical.axiomOfChoice key2
  obtain ⟨dI, hdI⟩ := Classical.axiomOfChoice hdC
  obtain ⟨c7, a7, b7⟩ := arrP (ty := .int) (fun C h => by cases h) (htg _ lx_int)
  obtain ⟨c8, a8, b8⟩ := arrP (ty := .boolean) (fun C h => by cases h) (htg _ lx_boolean)
  obtain ⟨c9, a9, b9⟩ := arrQ h1
  obtain ⟨c10, a10, b10⟩ := arrQ h2
  obtain ⟨c11, a11, b11⟩ := arrQ h3
  refine ⟨(dC, dI), fun t => if t = 7 then c7 else if t = 8 then c8 else if t = 9 then c9 else if t = 10 then c10 else c11, fun c q hq => hdI c q hq, ?_⟩
  intro k q hq
  match k, hq with
  | 0, hq => cases hq; exact ⟨a7, b7⟩
  | 1, hq => cases hq; exact ⟨a8, b8⟩
  | 2, hq => cases hq; exact ⟨a9, b9⟩
  | 3, hq => cases hq; exact ⟨a10, b10⟩
  | 4, hq => cases hq; exact ⟨a11, b11⟩
  | k + 5, hq => cases hq
theorem roT_start {s : State} {args : Array Value} {nme : String} {N : Nat} {f : Nat → Int32} (hN : N < 2 ^ 31) (hl : (Cond.laysStatic RX5 nme "[I").before args s = true) (hini : (Cond.initialized RX5).before args s = true) (harr : (Cond.arrayOf (.static RX5 nme "[I") .int).before args s = true) (hlen : (Cond.eq (.length (.static RX5 nme "[I")) (.int (Int32.ofNat N))).before args s = true)
    (hel : ∀ j : Nat, j < N → (Cond.eq (.elem (.static RX5 nme "[I") (.int (Int32.ofNat j))) (.int (f j))).before args s = true) : ∃ v, roT nme N f v (fun q => s.heap.size ≤ q) s := by
  have hA : ∀ a : Nat, a < s.heap.size → ¬ (fun q => s.heap.size ≤ q) a := fun a h => Nat.not_le.mpr h
  obtain ⟨t, ht, hT⟩ := va_Tof (f := fun j => .int (f j)) (A := fun q => s.heap.size ≤ q) hN harr (va_eqt hlen) (fun j hj => va_eqt (hel j hj)) hA
  exact ⟨.ref t, t, rfl, va_Zref hl hini ht hA, hT⟩
theorem isRef_val {s : State} {args : Array Value} {t : Term} (h : (Cond.isRef t).before args s = true) : ∃ v, t.eval args s none [] s = some v ∧ (v = .null ∨ ∃ a, v = .ref a) := by
  cases hv : t.eval args s none [] s with
  | none => simp [Cond.before, Cond.holds, Cond.value, hv] at h
  | some v =>
    refine ⟨v, rfl, ?_⟩
    cases v with
    | null => exact Or.inl rfl
    | ref a => exact Or.inr ⟨a, rfl⟩
    | _ => simp [Cond.before, Cond.holds, Cond.value, hv, Value.isRef] at h
def tmS : Nat → Term := fun i => if i = 0 then .string RX5 51 else .string RX3 88
set_option maxHeartbeats 4000000 in
set_option maxRecDepth 100000 in
theorem RO_start {s : State} {b : Nat} (hts : ∀ w ∈ lw_tbl, w.before #[Value.ref b] s = true) (hgv : (Jvm.Cond.and given_1 narrow_1).before #[Value.ref b] s = true) : ∃ ro : Nat → Value, ro 0 = .ref b ∧ RO ro (fun q => s.heap.size ≤ q) s := by
  have hs := flat_of_before _ hgv
  have hA : ∀ a : Nat, a < s.heap.size → ¬ (fun q => s.heap.size ≤ q) a := fun a h => Nat.not_le.mpr h
  have ht : ∀ (i : Nat) (w : Cond), tables_1[i]? = some w → w.before #[Value.ref b] s = true := fun i w h => hts w (List.mem_append_right _ (List.mem_of_getElem? h))
  obtain ⟨v1, r1⟩ := roT_start (nme := "LEAST") (N := 7) (f := fLEAST) (by decide) (ht 322 _ rfl) (ht 1 _ rfl) (hs _ (by decide +kernel)) (hs _ (by decide +kernel)) (fun j hj => by
    rcases (show j = 0 ∨ j = 1 ∨ j = 2 ∨ j = 3 ∨ j = 4 ∨ j = 5 ∨ j = 6 by omega) with rfl | rfl | rfl | rfl | rfl | rfl | rfl <;> exact hs _ (by decide +kernel))
  obtain ⟨v2, r2⟩ := roT_start (nme := "MOST") (N := 7) (f := fMOST) (by decide) (ht 324 _ rfl) (ht 1 _ rfl) (hs _ (by decide +kernel)) (hs _ (by decide +kernel)) (fun j hj => by
    rcases (show j = 0 ∨ j = 1 ∨ j = 2 ∨ j = 3 ∨ j = 4 ∨ j = 5 ∨ j = 6 by omega) with rfl | rfl | rfl | rfl | rfl | rfl | rfl <;> exact hs _ (by decide +kernel))
  obtain ⟨v3, r3⟩ := roT_start (nme := "UNDER") (N := 6) (f := fUNDER) (by decide) (ht 653 _ rfl) (ht 1 _ rfl) (hs _ (by decide +kernel)) (hs _ (by decide +kernel)) (fun j hj => by
    rcases (show j = 0 ∨ j = 1 ∨ j = 2 ∨ j = 3 ∨ j = 4 ∨ j = 5 by omega) with rfl | rfl | rfl | rfl | rfl | rfl <;> exact hs _ (by decide +kernel))
  have hmem : ∀ i, i < 2 → ∀ j, j < tlen.getD i 0 → Cond.eq (.elem (.field (tmS i) "java/lang/String" "value" "[B") (.int (Int32.ofNat j))) (.int ((tbyt.getD i []).getD j 0)) ∈ flatC (Jvm.Cond.and given_1 narrow_1) := by decide +kernel
  obtain ⟨adK, adV, hS, hev⟩ := vk_Sof (N := 2) (tm := tmS) (len := tlen) (byt := tbyt) (A := fun q => s.heap.size ≤ q) (by decide)
    (fun i hi => by rcases (show i = 0 ∨ i = 1 by omega) with rfl | rfl <;> exact hs _ (by decide +kernel))
    (fun i hi => by rcases (show i = 0 ∨ i = 1 by omega) with rfl | rfl <;> exact hs _ (by decide +kernel))
    (fun i hi => by rcases (show i = 0 ∨ i = 1 by omega) with rfl | rfl <;> exact hs _ (by decide +kernel))
    (fun i hi => by rcases (show i = 0 ∨ i = 1 by omega) with rfl | rfl <;> exact hs _ (by decide +kernel))
    (fun i hi j hj => hs _ (hmem i hi j hj))
    (fun i j hi hj hij => by
      have hne : (Cond.not (Cond.eq (tmS 0) (tmS 1))).before #[Value.ref b] s = true := hs _ (by decide +kernel)
      rcases (show i = 0 ∧ j = 1 ∨ i = 1 ∧ j = 0 by omega) with ⟨rfl, rfl⟩ | ⟨rfl, rfl⟩
      · exact Or.inl hne
      · exact Or.inr hne) hA
  obtain ⟨v8, e8, h8⟩ := isRef_val (t := .static "jdk/internal/util/Preconditions" "SIOOBE_FORMATTER" "Ljava/util/function/BiFunction;") (hs _ (by decide +kernel))
  have hcs := va_Zof (A := fun q => s.heap.size ≤ q) (C := "java/lang/String") (n := "COMPACT_STRINGS") (d := "Z") (v := .int 1) (ht 150 _ rfl) (hts _ (gtbl_in ln_J0)) (va_eqi (hs _ (by decide +kernel))) hA
  have hfm := va_Zof (A := fun q => s.heap.size ≤ q) (C := "jdk/internal/util/Preconditions") (n := "SIOOBE_FORMATTER") (d := "Ljava/util/function/BiFunction;") (v := v8) (ht 166 _ rfl) (hts _ (gtbl_in ln_J3)) e8 hA
  have hr4 : vk_R RX5 51 txt0 (adK 0) s := vk_R.of (A := #[Value.ref b]) (ht 140 _ rfl) (hev 0 (by decide))
  have hr5 : vk_R RX3 88 txt1 (adK 1) s := vk_R.of (A := #[Value.ref b]) (ht 212 _ rfl) (hev 1 (by decide))
  refine ⟨fun k => match k with | 0 => .ref b | 1 => v1 | 2 => v2 | 3 => v3 | 4 => .ref (adK 0) | 5 => .ref (adK 1) | 6 => .ref (adV 0) | 7 => .ref (adV 1) | 8 => v8 | _ => .null, rfl, ?_, ?_, ⟨va_AO.of (ht 25 _ rfl), va_AO.of (ht 62 _ rfl), va_AO.of (ht 60 _ rfl)⟩, ⟨r1, r2, r3⟩, ⟨adK, adV, hS, rfl, rfl, rfl, rfl, hr4, hr5⟩, hcs, hfm⟩
  · intro k
    match k with
    | 0 => exact Or.inr ⟨_, rfl⟩
    | 1 => obtain ⟨t, h, -⟩ := r1; exact Or.inr ⟨t, h⟩
    | 2 => obtain ⟨t, h, -⟩ := r2; exact Or.inr ⟨t, h⟩
    | 3 => obtain ⟨t, h, -⟩ := r3; exact Or.inr ⟨t, h⟩
    | 4 => exact Or.inr ⟨_, rfl⟩
    | 5 => exact Or.inr ⟨_, rfl⟩
    | 6 => exact Or.inr ⟨_, rfl⟩
    | 7 => exact Or.inr ⟨_, rfl⟩
    | 8 => exact h8
    | n + 9 => exact Or.inl rfl
  · intro w hw
    simp only [nw, List.mem_cons, List.not_mem_nil, or_false] at hw
    rcases hw with rfl | rfl | rfl | rfl | rfl | rfl
    · exact va_Nw.of rfl (ht 28 _ rfl)
    · exact va_Nw.of rfl (ht 71 _ rfl)
    · exact va_Nw.of rfl (ht 121 _ rfl)
    · exact va_Nw.of rfl (ht 123 _ rfl)
    · exact va_Nw.of rfl (ht 201 _ rfl)
    · exact va_Nw.of rfl (ht 259 _ rfl)
