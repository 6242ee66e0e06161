/-! what a text says of a coin: steps for a stack -/
def envC (c : Nat → Int32) (age day : Int32) : Int32 → Int32 := fun x => if x = -5 then c 5 else if x = -4 then age else if x = -3 then c 1 else if x = -2 then c 3 else if x = -1 then c 2 else day
def jn (x a b : Int32) : Int32 := if x = -16 then a - b else if x = -15 then a + b else if x = -14 then (if a = b then 1 else 0) else if x = -13 then (if a < b then 1 else 0) else if x = -12 then a * b else if x = -11 then (if a = 0 then 0 else if b = 0 then 0 else 1) else if x = -10 then (if a = 0 then if b = 0 then 0 else 1 else 1) else a * b
def nt (a : Int32) : Int32 := if a = 0 then 1 else 0
def jst (x : Int32) : List Int32 → List Int32
  | b :: a :: r => jn x a b :: r
  | st => st
def ntl : List Int32 → List Int32
  | [] => []
  | a :: r => nt a :: r
def ngl : List Int32 → List Int32
  | [] => []
  | a :: r => (-a) :: r
def st1 (E : Int32 → Int32) (x : Int32) (st : List Int32) : List Int32 :=
  if x < -6 then (if x = -12 then ntl st else if x = -18 then ngl st else jst x st) else (if x < 0 then E x else x) :: st
def runS (E : Int32 → Int32) : List Int32 → List Int32 → List Int32
  | [], st => st
  | x :: cs, st => runS E cs (st1 E x st)
theorem runS_app (E : Int32 → Int32) : ∀ (a b st : List Int32), runS E (a ++ b) st = runS E b (runS E a st)
  | [], _, _ => rfl
  | x :: a, b, st => runS_app E a b (st1 E x st)
def pSt (k : Nat) (_ : Nat) : Prop := k = 39 ∨ (54 ≤ k ∧ k % 4 = 1)
def isTc (q : Nat) : Prop := q = 36 ∨ (54 ≤ q ∧ q % 4 = 2)
theorem isTc.st {q i : Nat} (h : isTc q) : pSt (q + 3) i := by unfold isTc at h; unfold pSt; omega
theorem isTc.n1 {q i : Nat} (h : isTc q) : ¬ pSt (q + 1) i := by unfold isTc at h; unfold pSt; omega
theorem isTc.n2 {q i : Nat} (h : isTc q) : ¬ pSt (q + 2) i := by unfold isTc at h; unfold pSt; omega
theorem x_named (m : Mem) (x : Int32) (c : Nat) (age day : Int32) : F_X4_named m x c age day = some (envC (mD m c) age day x, m) := by
  unfold F_X4_named envC
  repeat' split
  all_goals first | rfl | contradiction
theorem x_joined (m : Mem) (x a b : Int32) : F_X4_joined m x a b = some (jn x a b, m) := by
  unfold F_X4_joined F_X4_joined_102 jn
  simp only [Int32.lt_iff_toInt_lt, Int32.le_iff_toInt_le]
  repeat' split
  all_goals first | rfl | contradiction | (exfalso; omega)
theorem getD_rev_snoc {st : List Int32} {v : Int32} {j : Nat} (h : j < st.length) : (v :: st).reverse.getD j 0 = st.reverse.getD j 0 := by
  rw [List.reverse_cons, List.getD_eq_getElem?_getD, List.getD_eq_getElem?_getD, List.getElem?_append_left (by rw [List.length_reverse]; exact h)]
theorem getD_rev_last {st : List Int32} {v : Int32} : (v :: st).reverse.getD st.length 0 = v := by
  rw [List.reverse_cons, List.getD_eq_getElem?_getD, List.getElem?_append_right (by simp)]; simp
/-- the stack's row holds st -/
def stk (m : Mem) (q : Nat) (st : List Int32) : Prop := ∀ j, j < st.length → mD m (q + 3) j = st.reverse.getD j 0
theorem stk.push {m : Mem} {q : Nat} {st : List Int32} {v : Int32} (h : stk m q st) : stk (wD m (q + 3) st.length v) q (v :: st) := by
  intro j hj
  rw [mD_wD]
  by_cases e : j = st.length
  · subst e; simp only [and_self, if_true]; rw [getD_rev_last]
  · have hj' : j < st.length := by simp at hj; omega
    rw [if_neg (by omega), h j hj', getD_rev_snoc hj']
theorem stk.tail {m : Mem} {q : Nat} {st : List Int32} {v : Int32} (h : stk m q (v :: st)) : stk m q st := fun j hj => by
  rw [h j (by simp; omega), getD_rev_snoc hj]
theorem stk.top {m : Mem} {q : Nat} {st : List Int32} {v : Int32} (h : stk m q (v :: st)) : mD m (q + 3) st.length = v := by
  rw [h st.length (by simp), getD_rev_last]
set_option maxHeartbeats 1000000 in
theorem worked_loop (q p c : Nat) (age day : Int32) (E : Int32 → Int32) (Ln : Nat) (hL : Ln ≤ 160) (hq : isTc q) (hp : p < 3) (hc : ∀ i, ¬ pSt c i) :
    ∀ (cs : List Int32) (fu i : Nat) (m : Mem) (st : List Int32), (mK m (q + 1)).2 = Ln → envC (mD m c) age day = E → mD m (q + 2) p = nI (i + cs.length) → i + cs.length ≤ Ln → (∀ j, j < cs.length → mD m (q + 1) (i + j) = cs.getD j 0) → stk m q st → st.length ≤ i → cs.length < fu →
    Ev pSt (fun _ => True) (F_X4_worked_21 fu m q (nI p) c age day (nI st.length) (nI i)) m ((runS E cs st).headD 0) := by
  intro cs
  induction cs with
  | nil =>
    intro fu i m st hK hE he hi hcs hst hsl hfu
    cases fu with
    | zero => simp at hfu
    | succ fu =>
      unfold F_X4_worked_21
      have he' : mD m (q + 2) p = nI i := by simpa using he
      refine Ev.gif (vp_n hp (by omega)) ?_
      rw [nI_c (by omega), he', hK]
      refine Ev.ift (by rw [nI_le' (by omega) (by omega)]; exact Nat.le_refl _) ?_
      cases st with
      | nil => exact Ev.ift (by decide) (Ev.ret trivial)
      | cons v st =>
        refine Ev.iff (by rw [← nI_0, nI_le' (by omega) (by omega)]; simp) ?_
        have e1 : nI (v :: st).length - 1 = nI st.length := nI_pred st.length
        rw [e1]
        have hlt : st.length < Ln := by simp at hsl; omega
        refine Ev.gif (vp_n hlt (by omega)) ?_
        rw [nI_c (by omega), hst.top]
        exact Ev.ret trivial
  | cons x cs ih =>
    intro fu i m st hK hE he hi hcs hst hsl hfu
    cases fu with
    | zero => simp at hfu
    | succ fu =>
      have hlen : (x :: cs).length = cs.length + 1 := rfl
      rw [hlen] at he hi hfu
      have hx : mD m (q + 1) i = x := by have := hcs 0 (by simp); simpa using this
      have hnx : nI i + 1 = nI (i + 1) := nI_1 i
      -- what every branch does at its end
      have next : ∀ (m' : Mem) (st' : List Int32), Ag pSt m m' → stk m' q st' → st'.length ≤ i + 1 → runS E cs st' = runS E (x :: cs) st → Ev pSt (fun _ => True) (F_X4_worked_21 fu m' q (nI p) c age day (nI st'.length) (nI i + 1)) m' ((runS E (x :: cs) st).headD 0) := by
        intro m' st' hA hst' hsl' hr
        rw [← hr, hnx]
        have hrow : mD m' c = mD m c := funext fun f => hA.2 c f (hc f)
        refine ih fu (i + 1) m' st' (by rw [hA.1.2.2.1]; exact hK) (by rw [hrow]; exact hE) ?_ (by omega) (fun j hj => ?_) hst' hsl' (by omega)
        · rw [hA.2 (q + 2) p hq.n2, he]; congr 1; omega
        · rw [hA.2 (q + 1) (i + 1 + j) hq.n1]
          have := hcs (j + 1) (by simp; omega)
          rw [show i + 1 + j = i + (j + 1) by omega, this]
          rfl
      have hpush : ∀ (m' : Mem) (v : Int32), m' = m → runS E cs (v :: st) = runS E (x :: cs) st → Ev pSt (fun _ => True) (F_X4_worked_83 (F_X4_worked_21 fu) m' q (nI p) c age day (nI st.length) (nI i) v (nI st.length)) m' ((runS E (x :: cs) st).headD 0) := by
        intro m' v hm hr
        subst hm
        unfold F_X4_worked_83 F_X4_worked_204
        refine Ev.gif (by rw [hK]; exact vp_n (by omega) (by omega)) ?_
        rw [nI_c (by omega)]
        refine Ev.namW hq.st ?_
        have := next (wD m' (q + 3) st.length v) (v :: st) (Ag.d hq.st) hst.push (by simp; omega) hr
        rw [show nI (v :: st).length = nI st.length + 1 from (nI_1 st.length).symm] at this
        exact this
      have hskip : runS E cs st = runS E (x :: cs) st → Ev pSt (fun _ => True) (F_X4_worked_204 (F_X4_worked_21 fu) m q (nI p) c age day (nI st.length) (nI i)) m ((runS E (x :: cs) st).headD 0) := fun hr => by
        unfold F_X4_worked_204
        exact next m st Ag.rf hst (by omega) hr
      have hjoin : st1 E x st = jst x st → Ev pSt (fun _ => True) (F_X4_worked_165 (F_X4_worked_21 fu) m q (nI p) c age day (nI st.length) (nI i) x) m ((runS E (x :: cs) st).headD 0) := by
        intro h1
        unfold F_X4_worked_165
        rcases st with _ | ⟨b, _ | ⟨a, r⟩⟩
        · exact Ev.ift (by decide) (hskip (by show _ = runS E cs (st1 E x []); rw [h1]; rfl))
        · exact Ev.ift (show nI 1 ≤ 1 by decide) (hskip (by show _ = runS E cs (st1 E x [b]); rw [h1]; rfl))
        · simp only [List.length_cons] at hsl
          have e0 : (b :: a :: r).length = r.length + 2 := rfl
          rw [e0]
          refine Ev.iff (by rw [show (1 : Int32) = nI 1 from rfl, nI_le' (by omega) (by omega)]; omega) ?_
          have e1 : nI (r.length + 2) + -1 = nI (r.length + 1) := by rw [← nI_pred (r.length + 1), Int32.sub_eq_add_neg]
          have e2 : nI (r.length + 2) + -1 - 1 = nI r.length := by rw [e1, nI_pred]
          rw [e2, e1]
          refine Ev.gif (by rw [hK]; exact vp_n (by omega) (by omega)) ?_
          refine Ev.gif (by rw [hK]; exact vp_n (by omega) (by omega)) ?_
          rw [nI_c (by omega), nI_c (by omega), show mD m (q + 3) (r.length + 1) = b from hst.top, show mD m (q + 3) r.length = a from hst.tail.top, x_joined, bnd_eq]
          refine Ev.gif (by rw [hK]; exact vp_n (by omega) (by omega)) ?_
          refine Ev.namW hq.st ?_
          unfold F_X4_worked_204
          exact next (wD m (q + 3) r.length (jn x a b)) (jn x a b :: r) (Ag.d hq.st) hst.tail.tail.push (by simp; omega) (by show _ = runS E cs (st1 E x (b :: a :: r)); rw [h1]; rfl)
      unfold F_X4_worked_21
      refine Ev.gif (vp_n hp (by omega)) ?_
      rw [nI_c (by omega), nI_c (by omega), he, hK, hx]
      refine Ev.iff (by rw [nI_le' (by omega) (by omega)]; omega) ?_
      refine Ev.gif (vp_n (by omega) (by omega)) ?_
      refine Ev.nam ?_
      refine Ev.ifs (fun h6 => ?_) (fun h6 => ?_)
      · -- a joint, not, -
        unfold F_X4_worked_90
        refine Ev.ifs (fun h12 => ?_) (fun h12 => ?_)
        · cases hs : st with
          | nil =>
            refine Ev.ift (by decide) ?_
            unfold F_X4_worked_131
            refine Ev.iff (by rw [h12]; decide) ?_
            rw [← hs]
            exact hjoin (by rw [hs, st1, if_pos h6, if_pos h12]; rfl)
          | cons a r =>
            subst hs
            have e0 : (a :: r).length = r.length + 1 := rfl
            simp only [List.length_cons] at hsl
            rw [e0]
            refine Ev.iff (by rw [← nI_0, nI_le' (by omega) (by omega)]; omega) ?_
            rw [nI_pred]
            refine Ev.gif (by rw [hK]; exact vp_n (by omega) (by omega)) ?_
            rw [nI_c (by omega), show mD m (q + 3) r.length = a from hst.top]
            have hr : ∀ v, v = nt a → runS E cs (v :: r) = runS E (x :: cs) (a :: r) := fun v hv => by
              show _ = runS E cs (st1 E x (a :: r)); rw [st1, if_pos h6, if_pos h12, hv]; rfl
            have fin : ∀ v, v = nt a → Ev pSt (fun _ => True) (F_X4_worked_127 (F_X4_worked_21 fu) m q (nI p) c age day (nI (r.length + 1)) (nI i) v (nI r.length)) m ((runS E (x :: cs) (a :: r)).headD 0) := by
              intro v hv
              unfold F_X4_worked_127 F_X4_worked_204
              refine Ev.gif (by rw [hK]; exact vp_n (by omega) (by omega)) ?_
              rw [nI_c (by omega)]
              refine Ev.namW hq.st ?_
              exact next (wD m (q + 3) r.length v) (v :: r) (Ag.d hq.st) hst.tail.push (by simp; omega) (hr v hv)
            refine Ev.ifs (fun h0 => fin 1 (by rw [nt, if_pos h0])) (fun h0 => fin 0 (by rw [nt, if_neg h0]))
        · unfold F_X4_worked_131
          refine Ev.ifs (fun h18 => ?_) (fun h18 => ?_)
          · cases hs : st with
            | nil =>
              refine Ev.ift (by decide) ?_
              rw [← hs]
              exact hjoin (by rw [hs, st1, if_pos h6, if_neg h12, if_pos h18]; rfl)
            | cons a r =>
              subst hs
              have e0 : (a :: r).length = r.length + 1 := rfl
              simp only [List.length_cons] at hsl
              rw [e0]
              refine Ev.iff (by rw [← nI_0, nI_le' (by omega) (by omega)]; omega) ?_
              rw [nI_pred]
              refine Ev.gif (by rw [hK]; exact vp_n (by omega) (by omega)) ?_
              refine Ev.gif (by rw [hK]; exact vp_n (by omega) (by omega)) ?_
              rw [nI_c (by omega), show mD m (q + 3) r.length = a from hst.top]
              refine Ev.namW hq.st ?_
              unfold F_X4_worked_204
              exact next (wD m (q + 3) r.length (-a)) (-a :: r) (Ag.d hq.st) hst.tail.push (by simp; omega) (by show _ = runS E cs (st1 E x (a :: r)); rw [st1, if_pos h6, if_neg h12, if_pos h18]; rfl)
          · exact hjoin (by rw [st1, if_pos h6, if_neg h12, if_neg h18])
      · -- a number or a name
        refine Ev.iff (by rw [show Int32.ofNat Ln = nI Ln from rfl, nI_le' (by omega) (by omega)]; omega) ?_
        refine Ev.ifs (fun h0 => ?_) (fun h0 => ?_)
        · rw [x_named, bnd_eq, hE]
          exact hpush m (E x) rfl (by show _ = runS E cs (st1 E x st); rw [st1, if_neg h6, if_pos h0])
        · exact hpush m x rfl (by show _ = runS E cs (st1 E x st); rw [st1, if_neg h6, if_neg h0])
