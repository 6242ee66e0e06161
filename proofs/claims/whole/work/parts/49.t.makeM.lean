def tabM : List (Nat × Nat) := [(6, 0), (7, 960), (7, 6), (7, 160), (7, 8), (7, 40), (7, 8), (7, 8), (7, 8), (7, 40), (8, 4), (7, 4), (7, 4), (7, 160)]
def rlM : List ((Nat × Nat) × Nat) := [((40, 37), 53), ((40, 36), 52), ((40, 35), 51), ((40, 34), 50), ((40, 30), 49), ((40, 29), 48), ((40, 27), 47), ((40, 26), 46), ((40, 9), 45), ((40, 8), 44), ((40, 5), 43), ((40, 2), 42), ((40, 1), 41)]
theorem shM_of {m0 m : Mem} {dl : List ((Nat × Nat) × Int32)} {s : Nat} (S : ST 40 m0 tabM rlM dl s m) : ShM m := by
  have h1 : ∀ q ∈ mmK, 40 ≤ q.1 ∧ q.1 < 40 + tabM.length ∧ tabM.getD (q.1 - 40) (0, 0) = q.2 := by decide
  have h2 : ∀ q ∈ mmR, 40 ≤ q.1.1 ∧ q.1.1 < 40 + tabM.length ∧ lkR rlM q.1.1 q.1.2 = some q.2 := by decide
  exact ⟨fun q hq => S.kk _ _ (h1 q hq), fun q hq => S.rr _ _ _ (h2 q hq)⟩
def dlM : List ((Nat × Nat) × Int32) := [((40, 3), 1), ((42, 0), 40), ((41, 39), 32), ((41, 38), 32), ((41, 37), 59), ((41, 36), 32), ((41, 35), 50), ((41, 34), 32), ((41, 33), 115), ((41, 32), 108), ((41, 31), 105), ((41, 30), 111), ((41, 29), 112), ((41, 28), 115), ((41, 27), 32), ((41, 26), 59), ((41, 25), 32), ((41, 24), 53), ((41, 23), 32), ((41, 22), 42), ((41, 21), 32), ((41, 20), 116), ((41, 19), 115), ((41, 18), 114), ((41, 17), 105), ((41, 16), 102), ((41, 15), 32), ((41, 14), 115), ((41, 13), 101), ((41, 12), 118), ((41, 11), 105), ((41, 10), 103), ((41, 9), 32), ((41, 8), 59), ((41, 7), 32), ((41, 6), 55), ((41, 5), 32), ((41, 4), 115), ((41, 3), 110), ((41, 2), 114), ((41, 1), 117), ((41, 0), 116), ((40, 31), -1)]
theorem m_init1 {m4 : Mem} (hN : mN m4 = 40) {P : Unit → Mem → Prop} (h : ∀ m, ST 40 m4 tabM rlM dlM (mS m4 + 38 + 1410) m → P () m) : Rn (F_X6_init (mNew m4 6 0 38) 40) P := by
  have S : ST 40 m4 [(6, 0)] [] [] (mS m4 + 38) (mNew m4 6 0 38) := ST.new (b := 40) (m := m4) (tab := []) (rl := []) (dl := []) (s := mS m4) ⟨by rw [hN]; rfl, fun k hk => absurd hk (Nat.not_lt_zero k), fun k i h1 h2 => absurd h2 (by omega), fun k i h1 h2 => absurd h2 (by omega), rfl, fun k _ => ⟨rfl, rfl, rfl⟩⟩ (n' := 40) rfl (by decide) (by decide) 6 0 38
  generalize mNew m4 6 0 38 = m at S
  unfold F_X6_init
  refine Rn.new S (n' := 41) (by decide) (by decide) (by decide) fun m S => ?_
  refine Rn.gif (S.kk 40 (6, 0) (by decide)) ?_
  refine Rn.wr S (i := 1) (by decide) (by decide) fun m S => ?_
  refine Rn.new S (n' := 42) (by decide) (by decide) (by decide) fun m S => ?_
  refine Rn.gif (S.kk 40 (6, 0) (by decide)) ?_
  refine Rn.wr S (i := 2) (by decide) (by decide) fun m S => ?_
  refine Rn.new S (n' := 43) (by decide) (by decide) (by decide) fun m S => ?_
  refine Rn.gif (S.kk 40 (6, 0) (by decide)) ?_
  refine Rn.wr S (i := 5) (by decide) (by decide) fun m S => ?_
  refine Rn.new S (n' := 44) (by decide) (by decide) (by decide) fun m S => ?_
  refine Rn.gif (S.kk 40 (6, 0) (by decide)) ?_
  refine Rn.wr S (i := 8) (by decide) (by decide) fun m S => ?_
  refine Rn.new S (n' := 45) (by decide) (by decide) (by decide) fun m S => ?_
  refine Rn.gif (S.kk 40 (6, 0) (by decide)) ?_
  refine Rn.wr S (i := 9) (by decide) (by decide) fun m S => ?_
  refine Rn.new S (n' := 46) (by decide) (by decide) (by decide) fun m S => ?_
  refine Rn.gif (S.kk 40 (6, 0) (by decide)) ?_
  refine Rn.wr S (i := 26) (by decide) (by decide) fun m S => ?_
  refine Rn.new S (n' := 47) (by decide) (by decide) (by decide) fun m S => ?_
  refine Rn.gif (S.kk 40 (6, 0) (by decide)) ?_
  refine Rn.wr S (i := 27) (by decide) (by decide) fun m S => ?_
  refine Rn.new S (n' := 48) (by decide) (by decide) (by decide) fun m S => ?_
  refine Rn.gif (S.kk 40 (6, 0) (by decide)) ?_
  refine Rn.wr S (i := 29) (by decide) (by decide) fun m S => ?_
  refine Rn.new S (n' := 49) (by decide) (by decide) (by decide) fun m S => ?_
  refine Rn.gif (S.kk 40 (6, 0) (by decide)) ?_
  refine Rn.wr S (i := 30) (by decide) (by decide) fun m S => ?_
  refine Rn.gif (S.kk 40 (6, 0) (by decide)) ?_
  refine Rn.wd S (i := 31) (by decide) (by decide) fun m S => ?_
  refine Rn.new S (n' := 50) (by decide) (by decide) (by decide) fun m S => ?_
  refine Rn.gif (S.kk 40 (6, 0) (by decide)) ?_
  refine Rn.wr S (i := 34) (by decide) (by decide) fun m S => ?_
  refine Rn.new S (n' := 51) (by decide) (by decide) (by decide) fun m S => ?_
  refine Rn.gif (S.kk 40 (6, 0) (by decide)) ?_
  refine Rn.wr S (i := 35) (by decide) (by decide) fun m S => ?_
  refine Rn.new S (n' := 52) (by decide) (by decide) (by decide) fun m S => ?_
  refine Rn.gif (S.kk 40 (6, 0) (by decide)) ?_
  refine Rn.wr S (i := 36) (by decide) (by decide) fun m S => ?_
  refine Rn.new S (n' := 53) (by decide) (by decide) (by decide) fun m S => ?_
  refine Rn.gif (S.kk 40 (6, 0) (by decide)) ?_
  refine Rn.wr S (i := 37) (by decide) (by decide) fun m S => ?_
  refine Rn.gif ⟨rfl, shM_of S⟩ ?_
  refine Rn.bnd ?_
  unfold F_X6_spell
  refine Rn.gif (show vp_in (nI 0) 960 from vp_n (by decide) (by decide)) ?_
  refine Rn.wd S (i := 0) (by decide) (by decide) fun m S => ?_
  refine Rn.gif (show vp_in (nI 1) 960 from vp_n (by decide) (by decide)) ?_
  refine Rn.wd S (i := 1) (by decide) (by decide) fun m S => ?_
  refine Rn.gif (show vp_in (nI 2) 960 from vp_n (by decide) (by decide)) ?_
  refine Rn.wd S (i := 2) (by decide) (by decide) fun m S => ?_
  refine Rn.gif (show vp_in (nI 3) 960 from vp_n (by decide) (by decide)) ?_
  refine Rn.wd S (i := 3) (by decide) (by decide) fun m S => ?_
  refine Rn.gif (show vp_in (nI 4) 960 from vp_n (by decide) (by decide)) ?_
  refine Rn.wd S (i := 4) (by decide) (by decide) fun m S => ?_
  refine Rn.gif (show vp_in (nI 5) 960 from vp_n (by decide) (by decide)) ?_
  refine Rn.wd S (i := 5) (by decide) (by decide) fun m S => ?_
  refine Rn.gif (show vp_in (nI 6) 960 from vp_n (by decide) (by decide)) ?_
  refine Rn.wd S (i := 6) (by decide) (by decide) fun m S => ?_
  refine Rn.gif (show vp_in (nI 7) 960 from vp_n (by decide) (by decide)) ?_
  refine Rn.wd S (i := 7) (by decide) (by decide) fun m S => ?_
  refine Rn.ret ?_
  refine Rn.bnd ?_
  refine Rn.gif (show vp_in (nI 8) 960 from vp_n (by decide) (by decide)) ?_
  refine Rn.wd S (i := 8) (by decide) (by decide) fun m S => ?_
  refine Rn.gif (show vp_in (nI 9) 960 from vp_n (by decide) (by decide)) ?_
  refine Rn.wd S (i := 9) (by decide) (by decide) fun m S => ?_
  refine Rn.gif (show vp_in (nI 10) 960 from vp_n (by decide) (by decide)) ?_
  refine Rn.wd S (i := 10) (by decide) (by decide) fun m S => ?_
  refine Rn.gif (show vp_in (nI 11) 960 from vp_n (by decide) (by decide)) ?_
  refine Rn.wd S (i := 11) (by decide) (by decide) fun m S => ?_
  refine Rn.gif (show vp_in (nI 12) 960 from vp_n (by decide) (by decide)) ?_
  refine Rn.wd S (i := 12) (by decide) (by decide) fun m S => ?_
  refine Rn.gif (show vp_in (nI 13) 960 from vp_n (by decide) (by decide)) ?_
  refine Rn.wd S (i := 13) (by decide) (by decide) fun m S => ?_
  refine Rn.gif (show vp_in (nI 14) 960 from vp_n (by decide) (by decide)) ?_
  refine Rn.wd S (i := 14) (by decide) (by decide) fun m S => ?_
  refine Rn.gif (show vp_in (nI 15) 960 from vp_n (by decide) (by decide)) ?_
  refine Rn.wd S (i := 15) (by decide) (by decide) fun m S => ?_
  refine Rn.ret ?_
  refine Rn.bnd ?_
  refine Rn.gif (show vp_in (nI 16) 960 from vp_n (by decide) (by decide)) ?_
  refine Rn.wd S (i := 16) (by decide) (by decide) fun m S => ?_
  refine Rn.gif (show vp_in (nI 17) 960 from vp_n (by decide) (by decide)) ?_
  refine Rn.wd S (i := 17) (by decide) (by decide) fun m S => ?_
  refine Rn.gif (show vp_in (nI 18) 960 from vp_n (by decide) (by decide)) ?_
  refine Rn.wd S (i := 18) (by decide) (by decide) fun m S => ?_
  refine Rn.gif (show vp_in (nI 19) 960 from vp_n (by decide) (by decide)) ?_
  refine Rn.wd S (i := 19) (by decide) (by decide) fun m S => ?_
  refine Rn.gif (show vp_in (nI 20) 960 from vp_n (by decide) (by decide)) ?_
  refine Rn.wd S (i := 20) (by decide) (by decide) fun m S => ?_
  refine Rn.gif (show vp_in (nI 21) 960 from vp_n (by decide) (by decide)) ?_
  refine Rn.wd S (i := 21) (by decide) (by decide) fun m S => ?_
  refine Rn.gif (show vp_in (nI 22) 960 from vp_n (by decide) (by decide)) ?_
  refine Rn.wd S (i := 22) (by decide) (by decide) fun m S => ?_
  refine Rn.gif (show vp_in (nI 23) 960 from vp_n (by decide) (by decide)) ?_
  refine Rn.wd S (i := 23) (by decide) (by decide) fun m S => ?_
  refine Rn.ret ?_
  refine Rn.bnd ?_
  refine Rn.gif (show vp_in (nI 24) 960 from vp_n (by decide) (by decide)) ?_
  refine Rn.wd S (i := 24) (by decide) (by decide) fun m S => ?_
  refine Rn.gif (show vp_in (nI 25) 960 from vp_n (by decide) (by decide)) ?_
  refine Rn.wd S (i := 25) (by decide) (by decide) fun m S => ?_
  refine Rn.gif (show vp_in (nI 26) 960 from vp_n (by decide) (by decide)) ?_
  refine Rn.wd S (i := 26) (by decide) (by decide) fun m S => ?_
  refine Rn.gif (show vp_in (nI 27) 960 from vp_n (by decide) (by decide)) ?_
  refine Rn.wd S (i := 27) (by decide) (by decide) fun m S => ?_
  refine Rn.gif (show vp_in (nI 28) 960 from vp_n (by decide) (by decide)) ?_
  refine Rn.wd S (i := 28) (by decide) (by decide) fun m S => ?_
  refine Rn.gif (show vp_in (nI 29) 960 from vp_n (by decide) (by decide)) ?_
  refine Rn.wd S (i := 29) (by decide) (by decide) fun m S => ?_
  refine Rn.gif (show vp_in (nI 30) 960 from vp_n (by decide) (by decide)) ?_
  refine Rn.wd S (i := 30) (by decide) (by decide) fun m S => ?_
  refine Rn.gif (show vp_in (nI 31) 960 from vp_n (by decide) (by decide)) ?_
  refine Rn.wd S (i := 31) (by decide) (by decide) fun m S => ?_
  refine Rn.ret ?_
  refine Rn.bnd ?_
  refine Rn.gif (show vp_in (nI 32) 960 from vp_n (by decide) (by decide)) ?_
  refine Rn.wd S (i := 32) (by decide) (by decide) fun m S => ?_
  refine Rn.gif (show vp_in (nI 33) 960 from vp_n (by decide) (by decide)) ?_
  refine Rn.wd S (i := 33) (by decide) (by decide) fun m S => ?_
  refine Rn.gif (show vp_in (nI 34) 960 from vp_n (by decide) (by decide)) ?_
  refine Rn.wd S (i := 34) (by decide) (by decide) fun m S => ?_
  refine Rn.gif (show vp_in (nI 35) 960 from vp_n (by decide) (by decide)) ?_
  refine Rn.wd S (i := 35) (by decide) (by decide) fun m S => ?_
  refine Rn.gif (show vp_in (nI 36) 960 from vp_n (by decide) (by decide)) ?_
  refine Rn.wd S (i := 36) (by decide) (by decide) fun m S => ?_
  refine Rn.gif (show vp_in (nI 37) 960 from vp_n (by decide) (by decide)) ?_
  refine Rn.wd S (i := 37) (by decide) (by decide) fun m S => ?_
  refine Rn.gif (show vp_in (nI 38) 960 from vp_n (by decide) (by decide)) ?_
  refine Rn.wd S (i := 38) (by decide) (by decide) fun m S => ?_
  refine Rn.gif (show vp_in (nI 39) 960 from vp_n (by decide) (by decide)) ?_
  refine Rn.wd S (i := 39) (by decide) (by decide) fun m S => ?_
  refine Rn.ret ?_
  refine Rn.gref (S.rr 40 2 (some 42) (by decide)) ?_
  refine Rn.gif ⟨by rw [S.kk 42 (7, 6) (by decide)], by rw [S.kk 42 (7, 6) (by decide)]; exact (vp_n (by decide) (by decide) : vp_in (nI 0) 6)⟩ ?_
  refine Rn.wd S (i := 0) (by decide) (by decide) fun m S => ?_
  refine Rn.wd S (i := 3) (by decide) (by decide) fun m S => ?_
  exact Rn.ret (h m (by unfold tabM rlM dlM; simpa [Nat.add_assoc] using S))
