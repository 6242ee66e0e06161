section GO
variable {sp : Bool} {ini : IK} {cc : ByteArray} {nL d : Nat} {own : String} {m : Mem} {pc : Nat} {ls st : List Value}
theorem go_iconst {n : Int} {v : Int32} (hd : decode cc pc = .ok (.iconst n, 1)) (hv : Int32.ofInt n = v) : Go sp (cc, nL, own, d, ini) m pc ls (st) m (pc + 1) ls (.int v :: st) := by
  refine ⟨Gr.rf, ?_⟩
  intro b B
  obtain ⟨p, l, e, R, s, mi, args, below, meth, c, D, cy, ro, A, n0, s0, ad0, Q⟩ := b
  obtain ⟨hx, hb, hml, hown, hts, hlk, hrm, hK, hA, hRO⟩ := B
  intro hn hs hN hS ad H locs L hR he ho1 ho2 hl kk
  refine lv_iconst hx hb hd hv ?_
  exact kk ad H locs L hR he ho1 (okl.cons trivial ho2) hl
theorem go_bipush {n : Int} {v : Int32} (hd : decode cc pc = .ok (.bipush n, 2)) (hv : (Int8.ofInt n).toInt32 = v) : Go sp (cc, nL, own, d, ini) m pc ls (st) m (pc + 2) ls (.int v :: st) := by
  refine ⟨Gr.rf, ?_⟩
  intro b B
  obtain ⟨p, l, e, R, s, mi, args, below, meth, c, D, cy, ro, A, n0, s0, ad0, Q⟩ := b
  obtain ⟨hx, hb, hml, hown, hts, hlk, hrm, hK, hA, hRO⟩ := B
  intro hn hs hN hS ad H locs L hR he ho1 ho2 hl kk
  refine lv_bipush hx hb hd hv ?_
  exact kk ad H locs L hR he ho1 (okl.cons trivial ho2) hl
theorem go_sipush {n : Int} {v : Int32} (hd : decode cc pc = .ok (.sipush n, 3)) (hv : (Int16.ofInt n).toInt32 = v) : Go sp (cc, nL, own, d, ini) m pc ls (st) m (pc + 3) ls (.int v :: st) := by
  refine ⟨Gr.rf, ?_⟩
  intro b B
  obtain ⟨p, l, e, R, s, mi, args, below, meth, c, D, cy, ro, A, n0, s0, ad0, Q⟩ := b
  obtain ⟨hx, hb, hml, hown, hts, hlk, hrm, hK, hA, hRO⟩ := B
  intro hn hs hN hS ad H locs L hR he ho1 ho2 hl kk
  refine lv_sipush hx hb hd hv ?_
  exact kk ad H locs L hR he ho1 (okl.cons trivial ho2) hl
theorem go_lconst {n : Fin 2} {v : Int64} (hd : decode cc pc = .ok (.lconst n, 1)) (hv : Int64.ofNat (n : Nat) = v) : Go sp (cc, nL, own, d, ini) m pc ls (st) m (pc + 1) ls (.long v :: st) := by
  refine ⟨Gr.rf, ?_⟩
  intro b B
  obtain ⟨p, l, e, R, s, mi, args, below, meth, c, D, cy, ro, A, n0, s0, ad0, Q⟩ := b
  obtain ⟨hx, hb, hml, hown, hts, hlk, hrm, hK, hA, hRO⟩ := B
  intro hn hs hN hS ad H locs L hR he ho1 ho2 hl kk
  refine lv_lconst hx hb hd hv ?_
  exact kk ad H locs L hR he ho1 (okl.cons trivial ho2) hl
theorem go_iadd {x y : Int32} (hd : decode cc pc = .ok (.iadd, 1)) : Go sp (cc, nL, own, d, ini) m pc ls (.int y :: .int x :: st) m (pc + 1) ls (.int (x + y) :: st) := by
  refine ⟨Gr.rf, ?_⟩
  intro b B
  obtain ⟨p, l, e, R, s, mi, args, below, meth, c, D, cy, ro, A, n0, s0, ad0, Q⟩ := b
  obtain ⟨hx, hb, hml, hown, hts, hlk, hrm, hK, hA, hRO⟩ := B
  intro hn hs hN hS ad H locs L hR he ho1 ho2 hl kk
  refine lv_iadd hx hb hd ?_
  exact kk ad H locs L hR he ho1 (okl.cons trivial ho2.tail.tail) hl
theorem go_isub {x y : Int32} (hd : decode cc pc = .ok (.isub, 1)) : Go sp (cc, nL, own, d, ini) m pc ls (.int y :: .int x :: st) m (pc + 1) ls (.int (x - y) :: st) := by
  refine ⟨Gr.rf, ?_⟩
  intro b B
  obtain ⟨p, l, e, R, s, mi, args, below, meth, c, D, cy, ro, A, n0, s0, ad0, Q⟩ := b
  obtain ⟨hx, hb, hml, hown, hts, hlk, hrm, hK, hA, hRO⟩ := B
  intro hn hs hN hS ad H locs L hR he ho1 ho2 hl kk
  refine lv_isub hx hb hd ?_
  exact kk ad H locs L hR he ho1 (okl.cons trivial ho2.tail.tail) hl
theorem go_imul {x y : Int32} (hd : decode cc pc = .ok (.imul, 1)) : Go sp (cc, nL, own, d, ini) m pc ls (.int y :: .int x :: st) m (pc + 1) ls (.int (x * y) :: st) := by
  refine ⟨Gr.rf, ?_⟩
  intro b B
  obtain ⟨p, l, e, R, s, mi, args, below, meth, c, D, cy, ro, A, n0, s0, ad0, Q⟩ := b
  obtain ⟨hx, hb, hml, hown, hts, hlk, hrm, hK, hA, hRO⟩ := B
  intro hn hs hN hS ad H locs L hR he ho1 ho2 hl kk
  refine lv_imul hx hb hd ?_
  exact kk ad H locs L hR he ho1 (okl.cons trivial ho2.tail.tail) hl
theorem go_iand {x y : Int32} (hd : decode cc pc = .ok (.iand, 1)) : Go sp (cc, nL, own, d, ini) m pc ls (.int y :: .int x :: st) m (pc + 1) ls (.int (x &&& y) :: st) := by
  refine ⟨Gr.rf, ?_⟩
  intro b B
  obtain ⟨p, l, e, R, s, mi, args, below, meth, c, D, cy, ro, A, n0, s0, ad0, Q⟩ := b
  obtain ⟨hx, hb, hml, hown, hts, hlk, hrm, hK, hA, hRO⟩ := B
  intro hn hs hN hS ad H locs L hR he ho1 ho2 hl kk
  refine lv_iand hx hb hd ?_
  exact kk ad H locs L hR he ho1 (okl.cons trivial ho2.tail.tail) hl
theorem go_ior {x y : Int32} (hd : decode cc pc = .ok (.ior, 1)) : Go sp (cc, nL, own, d, ini) m pc ls (.int y :: .int x :: st) m (pc + 1) ls (.int (x ||| y) :: st) := by
  refine ⟨Gr.rf, ?_⟩
  intro b B
  obtain ⟨p, l, e, R, s, mi, args, below, meth, c, D, cy, ro, A, n0, s0, ad0, Q⟩ := b
  obtain ⟨hx, hb, hml, hown, hts, hlk, hrm, hK, hA, hRO⟩ := B
  intro hn hs hN hS ad H locs L hR he ho1 ho2 hl kk
  refine lv_ior hx hb hd ?_
  exact kk ad H locs L hR he ho1 (okl.cons trivial ho2.tail.tail) hl
theorem go_ixor {x y : Int32} (hd : decode cc pc = .ok (.ixor, 1)) : Go sp (cc, nL, own, d, ini) m pc ls (.int y :: .int x :: st) m (pc + 1) ls (.int (x ^^^ y) :: st) := by
  refine ⟨Gr.rf, ?_⟩
  intro b B
  obtain ⟨p, l, e, R, s, mi, args, below, meth, c, D, cy, ro, A, n0, s0, ad0, Q⟩ := b
  obtain ⟨hx, hb, hml, hown, hts, hlk, hrm, hK, hA, hRO⟩ := B
  intro hn hs hN hS ad H locs L hR he ho1 ho2 hl kk
  refine lv_ixor hx hb hd ?_
  exact kk ad H locs L hR he ho1 (okl.cons trivial ho2.tail.tail) hl
theorem go_ishl {x y : Int32} (hd : decode cc pc = .ok (.ishl, 1)) : Go sp (cc, nL, own, d, ini) m pc ls (.int y :: .int x :: st) m (pc + 1) ls (.int (x <<< (y &&& 31)) :: st) := by
  refine ⟨Gr.rf, ?_⟩
  intro b B
  obtain ⟨p, l, e, R, s, mi, args, below, meth, c, D, cy, ro, A, n0, s0, ad0, Q⟩ := b
  obtain ⟨hx, hb, hml, hown, hts, hlk, hrm, hK, hA, hRO⟩ := B
  intro hn hs hN hS ad H locs L hR he ho1 ho2 hl kk
  refine lv_ishl hx hb hd ?_
  exact kk ad H locs L hR he ho1 (okl.cons trivial ho2.tail.tail) hl
theorem go_ishr {x y : Int32} (hd : decode cc pc = .ok (.ishr, 1)) : Go sp (cc, nL, own, d, ini) m pc ls (.int y :: .int x :: st) m (pc + 1) ls (.int (x >>> (y &&& 31)) :: st) := by
  refine ⟨Gr.rf, ?_⟩
  intro b B
  obtain ⟨p, l, e, R, s, mi, args, below, meth, c, D, cy, ro, A, n0, s0, ad0, Q⟩ := b
  obtain ⟨hx, hb, hml, hown, hts, hlk, hrm, hK, hA, hRO⟩ := B
  intro hn hs hN hS ad H locs L hR he ho1 ho2 hl kk
  refine lv_ishr hx hb hd ?_
  exact kk ad H locs L hR he ho1 (okl.cons trivial ho2.tail.tail) hl
theorem go_iushr {x y : Int32} (hd : decode cc pc = .ok (.iushr, 1)) : Go sp (cc, nL, own, d, ini) m pc ls (.int y :: .int x :: st) m (pc + 1) ls (.int ((x.toUInt32 >>> (y.toUInt32 &&& Int32.toUInt32 31)).toInt32) :: st) := by
  refine ⟨Gr.rf, ?_⟩
  intro b B
  obtain ⟨p, l, e, R, s, mi, args, below, meth, c, D, cy, ro, A, n0, s0, ad0, Q⟩ := b
  obtain ⟨hx, hb, hml, hown, hts, hlk, hrm, hK, hA, hRO⟩ := B
  intro hn hs hN hS ad H locs L hR he ho1 ho2 hl kk
  refine lv_iushr hx hb hd rfl ?_
  exact kk ad H locs L hR he ho1 (okl.cons trivial ho2.tail.tail) hl
theorem go_idiv {x y : Int32} (hd : decode cc pc = .ok (.idiv, 1)) (hy : ¬ y = 0) : Go sp (cc, nL, own, d, ini) m pc ls (.int y :: .int x :: st) m (pc + 1) ls (.int (x / y) :: st) := by
  refine ⟨Gr.rf, ?_⟩
  intro b B
  obtain ⟨p, l, e, R, s, mi, args, below, meth, c, D, cy, ro, A, n0, s0, ad0, Q⟩ := b
  obtain ⟨hx, hb, hml, hown, hts, hlk, hrm, hK, hA, hRO⟩ := B
  intro hn hs hN hS ad H locs L hR he ho1 ho2 hl kk
  refine lv_idiv hx hb hd hy ?_
  exact kk ad H locs L hR he ho1 (okl.cons trivial ho2.tail.tail) hl
theorem go_irem {x y : Int32} (hd : decode cc pc = .ok (.irem, 1)) (hy : ¬ y = 0) : Go sp (cc, nL, own, d, ini) m pc ls (.int y :: .int x :: st) m (pc + 1) ls (.int (x - x / y * y) :: st) := by
  refine ⟨Gr.rf, ?_⟩
  intro b B
  obtain ⟨p, l, e, R, s, mi, args, below, meth, c, D, cy, ro, A, n0, s0, ad0, Q⟩ := b
  obtain ⟨hx, hb, hml, hown, hts, hlk, hrm, hK, hA, hRO⟩ := B
  intro hn hs hN hS ad H locs L hR he ho1 ho2 hl kk
  refine lv_irem hx hb hd hy ?_
  exact kk ad H locs L hR he ho1 (okl.cons trivial ho2.tail.tail) hl
theorem go_ineg {x : Int32} (hd : decode cc pc = .ok (.ineg, 1)) : Go sp (cc, nL, own, d, ini) m pc ls (.int x :: st) m (pc + 1) ls (.int (-x) :: st) := by
  refine ⟨Gr.rf, ?_⟩
  intro b B
  obtain ⟨p, l, e, R, s, mi, args, below, meth, c, D, cy, ro, A, n0, s0, ad0, Q⟩ := b
  obtain ⟨hx, hb, hml, hown, hts, hlk, hrm, hK, hA, hRO⟩ := B
  intro hn hs hN hS ad H locs L hR he ho1 ho2 hl kk
  refine lv_ineg hx hb hd ?_
  exact kk ad H locs L hR he ho1 (okl.cons trivial ho2.tail) hl
theorem go_ladd {x y : Int64} (hd : decode cc pc = .ok (.ladd, 1)) : Go sp (cc, nL, own, d, ini) m pc ls (.long y :: .long x :: st) m (pc + 1) ls (.long (x + y) :: st) := by
  refine ⟨Gr.rf, ?_⟩
  intro b B
  obtain ⟨p, l, e, R, s, mi, args, below, meth, c, D, cy, ro, A, n0, s0, ad0, Q⟩ := b
  obtain ⟨hx, hb, hml, hown, hts, hlk, hrm, hK, hA, hRO⟩ := B
  intro hn hs hN hS ad H locs L hR he ho1 ho2 hl kk
  refine lv_ladd hx hb hd ?_
  exact kk ad H locs L hR he ho1 (okl.cons trivial ho2.tail.tail) hl
theorem go_lsub {x y : Int64} (hd : decode cc pc = .ok (.lsub, 1)) : Go sp (cc, nL, own, d, ini) m pc ls (.long y :: .long x :: st) m (pc + 1) ls (.long (x - y) :: st) := by
  refine ⟨Gr.rf, ?_⟩
  intro b B
  obtain ⟨p, l, e, R, s, mi, args, below, meth, c, D, cy, ro, A, n0, s0, ad0, Q⟩ := b
  obtain ⟨hx, hb, hml, hown, hts, hlk, hrm, hK, hA, hRO⟩ := B
  intro hn hs hN hS ad H locs L hR he ho1 ho2 hl kk
  refine lv_lsub hx hb hd ?_
  exact kk ad H locs L hR he ho1 (okl.cons trivial ho2.tail.tail) hl
theorem go_lmul {x y : Int64} (hd : decode cc pc = .ok (.lmul, 1)) : Go sp (cc, nL, own, d, ini) m pc ls (.long y :: .long x :: st) m (pc + 1) ls (.long (x * y) :: st) := by
  refine ⟨Gr.rf, ?_⟩
  intro b B
  obtain ⟨p, l, e, R, s, mi, args, below, meth, c, D, cy, ro, A, n0, s0, ad0, Q⟩ := b
  obtain ⟨hx, hb, hml, hown, hts, hlk, hrm, hK, hA, hRO⟩ := B
  intro hn hs hN hS ad H locs L hR he ho1 ho2 hl kk
  refine lv_lmul hx hb hd ?_
  exact kk ad H locs L hR he ho1 (okl.cons trivial ho2.tail.tail) hl
theorem go_ldiv {x y : Int64} (hd : decode cc pc = .ok (.ldiv, 1)) (hy : ¬ y = 0) : Go sp (cc, nL, own, d, ini) m pc ls (.long y :: .long x :: st) m (pc + 1) ls (.long (x / y) :: st) := by
  refine ⟨Gr.rf, ?_⟩
  intro b B
  obtain ⟨p, l, e, R, s, mi, args, below, meth, c, D, cy, ro, A, n0, s0, ad0, Q⟩ := b
  obtain ⟨hx, hb, hml, hown, hts, hlk, hrm, hK, hA, hRO⟩ := B
  intro hn hs hN hS ad H locs L hR he ho1 ho2 hl kk
  refine lv_ldiv hx hb hd hy ?_
  exact kk ad H locs L hR he ho1 (okl.cons trivial ho2.tail.tail) hl
theorem go_lrem {x y : Int64} (hd : decode cc pc = .ok (.lrem, 1)) (hy : ¬ y = 0) : Go sp (cc, nL, own, d, ini) m pc ls (.long y :: .long x :: st) m (pc + 1) ls (.long (x - x / y * y) :: st) := by
  refine ⟨Gr.rf, ?_⟩
  intro b B
  obtain ⟨p, l, e, R, s, mi, args, below, meth, c, D, cy, ro, A, n0, s0, ad0, Q⟩ := b
  obtain ⟨hx, hb, hml, hown, hts, hlk, hrm, hK, hA, hRO⟩ := B
  intro hn hs hN hS ad H locs L hR he ho1 ho2 hl kk
  refine lv_lrem hx hb hd hy ?_
  exact kk ad H locs L hR he ho1 (okl.cons trivial ho2.tail.tail) hl
theorem go_i2l {x : Int32} (hd : decode cc pc = .ok (.i2l, 1)) : Go sp (cc, nL, own, d, ini) m pc ls (.int x :: st) m (pc + 1) ls (.long x.toInt64 :: st) := by
  refine ⟨Gr.rf, ?_⟩
  intro b B
  obtain ⟨p, l, e, R, s, mi, args, below, meth, c, D, cy, ro, A, n0, s0, ad0, Q⟩ := b
  obtain ⟨hx, hb, hml, hown, hts, hlk, hrm, hK, hA, hRO⟩ := B
  intro hn hs hN hS ad H locs L hR he ho1 ho2 hl kk
  refine lv_i2l hx hb hd rfl ?_
  exact kk ad H locs L hR he ho1 (okl.cons trivial ho2.tail) hl
theorem go_l2i {x : Int64} (hd : decode cc pc = .ok (.l2i, 1)) : Go sp (cc, nL, own, d, ini) m pc ls (.long x :: st) m (pc + 1) ls (.int x.toInt32 :: st) := by
  refine ⟨Gr.rf, ?_⟩
  intro b B
  obtain ⟨p, l, e, R, s, mi, args, below, meth, c, D, cy, ro, A, n0, s0, ad0, Q⟩ := b
  obtain ⟨hx, hb, hml, hown, hts, hlk, hrm, hK, hA, hRO⟩ := B
  intro hn hs hN hS ad H locs L hR he ho1 ho2 hl kk
  refine lv_l2i hx hb hd rfl ?_
  exact kk ad H locs L hR he ho1 (okl.cons trivial ho2.tail) hl
theorem go_i2b {x : Int32} (hd : decode cc pc = .ok (.i2b, 1)) : Go sp (cc, nL, own, d, ini) m pc ls (.int x :: st) m (pc + 1) ls (.int x.toInt8.toInt32 :: st) := by
  refine ⟨Gr.rf, ?_⟩
  intro b B
  obtain ⟨p, l, e, R, s, mi, args, below, meth, c, D, cy, ro, A, n0, s0, ad0, Q⟩ := b
  obtain ⟨hx, hb, hml, hown, hts, hlk, hrm, hK, hA, hRO⟩ := B
  intro hn hs hN hS ad H locs L hR he ho1 ho2 hl kk
  refine lv_i2b hx hb hd rfl ?_
  exact kk ad H locs L hR he ho1 (okl.cons trivial ho2.tail) hl
theorem go_i2s {x : Int32} (hd : decode cc pc = .ok (.i2s, 1)) : Go sp (cc, nL, own, d, ini) m pc ls (.int x :: st) m (pc + 1) ls (.int x.toInt16.toInt32 :: st) := by
  refine ⟨Gr.rf, ?_⟩
  intro b B
  obtain ⟨p, l, e, R, s, mi, args, below, meth, c, D, cy, ro, A, n0, s0, ad0, Q⟩ := b
  obtain ⟨hx, hb, hml, hown, hts, hlk, hrm, hK, hA, hRO⟩ := B
  intro hn hs hN hS ad H locs L hR he ho1 ho2 hl kk
  refine lv_i2s hx hb hd rfl ?_
  exact kk ad H locs L hR he ho1 (okl.cons trivial ho2.tail) hl
theorem go_i2c {x : Int32} (hd : decode cc pc = .ok (.i2c, 1)) : Go sp (cc, nL, own, d, ini) m pc ls (.int x :: st) m (pc + 1) ls (.int (x.toUInt32 % 65536).toInt32 :: st) := by
  refine ⟨Gr.rf, ?_⟩
  intro b B
  obtain ⟨p, l, e, R, s, mi, args, below, meth, c, D, cy, ro, A, n0, s0, ad0, Q⟩ := b
  obtain ⟨hx, hb, hml, hown, hts, hlk, hrm, hK, hA, hRO⟩ := B
  intro hn hs hN hS ad H locs L hR he ho1 ho2 hl kk
  refine lv_i2c hx hb hd rfl ?_
  exact kk ad H locs L hR he ho1 (okl.cons trivial ho2.tail) hl
theorem go_lcmp {x y : Int64} (hd : decode cc pc = .ok (.lcmp, 1)) : Go sp (cc, nL, own, d, ini) m pc ls (.long y :: .long x :: st) m (pc + 1) ls (.int (lg_cmp x y) :: st) := by
  refine ⟨Gr.rf, ?_⟩
  intro b B
  obtain ⟨p, l, e, R, s, mi, args, below, meth, c, D, cy, ro, A, n0, s0, ad0, Q⟩ := b
  obtain ⟨hx, hb, hml, hown, hts, hlk, hrm, hK, hA, hRO⟩ := B
  intro hn hs hN hS ad H locs L hR he ho1 ho2 hl kk
  refine W.lcmp hx hb hd ?_
  exact kk ad H locs L hR he ho1 (okl.cons trivial ho2.tail.tail) hl
theorem go_ldc {idx : Nat} {v : Int32} (hd : decode cc pc = .ok (.ldc idx, 2)) (hw : Cond.constant own idx v ∈ gtbl) : Go sp (cc, nL, own, d, ini) m pc ls st m (pc + 2) ls (.int v :: st) := by
  refine ⟨Gr.rf, ?_⟩
  intro b B
  obtain ⟨p, l, e, R, s, mi, args, below, meth, c, D, cy, ro, A, n0, s0, ad0, Q⟩ := b
  obtain ⟨hx, hb, hml, hown, hts, hlk, hrm, hK, hA, hRO⟩ := B
  intro hn hs hN hS ad H locs L hR he ho1 ho2 hl kk
  refine lv_ldc hx hb hown (hts _ hw) hd ?_
  exact kk ad H locs L hR he ho1 (okl.cons trivial ho2) hl
theorem go_ldcw {idx : Nat} {v : Int32} (hd : decode cc pc = .ok (.ldc_w idx, 3)) (hw : Cond.constant own idx v ∈ gtbl) : Go sp (cc, nL, own, d, ini) m pc ls st m (pc + 3) ls (.int v :: st) := by
  refine ⟨Gr.rf, ?_⟩
  intro b B
  obtain ⟨p, l, e, R, s, mi, args, below, meth, c, D, cy, ro, A, n0, s0, ad0, Q⟩ := b
  obtain ⟨hx, hb, hml, hown, hts, hlk, hrm, hK, hA, hRO⟩ := B
  intro hn hs hN hS ad H locs L hR he ho1 ho2 hl kk
  refine lv_ldcw hx hb hown (hts _ hw) hd ?_
  exact kk ad H locs L hR he ho1 (okl.cons trivial ho2) hl
theorem go_ldc2 {idx : Nat} {v : Int64} (hd : decode cc pc = .ok (.ldc2_w idx, 3)) (hw : Cond.constantLong own idx v ∈ gtbl) : Go sp (cc, nL, own, d, ini) m pc ls st m (pc + 3) ls (.long v :: st) := by
  refine ⟨Gr.rf, ?_⟩
  intro b B
  obtain ⟨p, l, e, R, s, mi, args, below, meth, c, D, cy, ro, A, n0, s0, ad0, Q⟩ := b
  obtain ⟨hx, hb, hml, hown, hts, hlk, hrm, hK, hA, hRO⟩ := B
  intro hn hs hN hS ad H locs L hR he ho1 ho2 hl kk
  refine lv_ldc2 hx hb hown (hts _ hw) hd ?_
  exact kk ad H locs L hR he ho1 (okl.cons trivial ho2) hl
theorem go_iload_n {k : Fin 4} {i : Nat} {x : Int32} (hd : decode cc pc = .ok (.iload_n k, 1)) (hi : (k : Nat) = i) (hv : ls[i]? = some (.int x)) : Go sp (cc, nL, own, d, ini) m pc ls st m (pc + 1) ls (.int x :: st) := by
  refine ⟨Gr.rf, ?_⟩
  intro b B
  obtain ⟨p, l, e, R, s, mi, args, below, meth, c, D, cy, ro, A, n0, s0, ad0, Q⟩ := b
  obtain ⟨hx, hb, hml, hown, hts, hlk, hrm, hK, hA, hRO⟩ := B
  intro hn hs hN hS ad H locs L hR he ho1 ho2 hl kk
  refine lv_iload_n hx hb hd hi (lvs_at hl hv (by intro z; cases z)) ?_
  exact kk ad H locs L hR he ho1 (okl.cons trivial ho2) hl
theorem go_iload {i : Nat} {x : Int32} (hd : decode cc pc = .ok (.iload i, 2)) (hv : ls[i]? = some (.int x)) : Go sp (cc, nL, own, d, ini) m pc ls st m (pc + 2) ls (.int x :: st) := by
  refine ⟨Gr.rf, ?_⟩
  intro b B
  obtain ⟨p, l, e, R, s, mi, args, below, meth, c, D, cy, ro, A, n0, s0, ad0, Q⟩ := b
  obtain ⟨hx, hb, hml, hown, hts, hlk, hrm, hK, hA, hRO⟩ := B
  intro hn hs hN hS ad H locs L hR he ho1 ho2 hl kk
  refine lv_iload hx hb hd (lvs_at hl hv (by intro z; cases z)) ?_
  exact kk ad H locs L hR he ho1 (okl.cons trivial ho2) hl
theorem go_lload_n {k : Fin 4} {i : Nat} {x : Int64} (hd : decode cc pc = .ok (.lload_n k, 1)) (hi : (k : Nat) = i) (hv : ls[i]? = some (.long x)) : Go sp (cc, nL, own, d, ini) m pc ls st m (pc + 1) ls (.long x :: st) := by
  refine ⟨Gr.rf, ?_⟩
  intro b B
  obtain ⟨p, l, e, R, s, mi, args, below, meth, c, D, cy, ro, A, n0, s0, ad0, Q⟩ := b
  obtain ⟨hx, hb, hml, hown, hts, hlk, hrm, hK, hA, hRO⟩ := B
  intro hn hs hN hS ad H locs L hR he ho1 ho2 hl kk
  refine lv_lload_n hx hb hd hi (lvs_at hl hv (by intro z; cases z)) ?_
  exact kk ad H locs L hR he ho1 (okl.cons trivial ho2) hl
theorem go_lload {i : Nat} {x : Int64} (hd : decode cc pc = .ok (.lload i, 2)) (hv : ls[i]? = some (.long x)) : Go sp (cc, nL, own, d, ini) m pc ls st m (pc + 2) ls (.long x :: st) := by
  refine ⟨Gr.rf, ?_⟩
  intro b B
  obtain ⟨p, l, e, R, s, mi, args, below, meth, c, D, cy, ro, A, n0, s0, ad0, Q⟩ := b
  obtain ⟨hx, hb, hml, hown, hts, hlk, hrm, hK, hA, hRO⟩ := B
  intro hn hs hN hS ad H locs L hR he ho1 ho2 hl kk
  refine lv_lload hx hb hd (lvs_at hl hv (by intro z; cases z)) ?_
  exact kk ad H locs L hR he ho1 (okl.cons trivial ho2) hl
theorem go_aload_n {k : Fin 4} {i x : Nat} (hd : decode cc pc = .ok (.aload_n k, 1)) (hi : (k : Nat) = i) (hv : ls[i]? = some (.ref x)) : Go sp (cc, nL, own, d, ini) m pc ls st m (pc + 1) ls (.ref x :: st) := by
  refine ⟨Gr.rf, ?_⟩
  intro b B
  obtain ⟨p, l, e, R, s, mi, args, below, meth, c, D, cy, ro, A, n0, s0, ad0, Q⟩ := b
  obtain ⟨hx, hb, hml, hown, hts, hlk, hrm, hK, hA, hRO⟩ := B
  intro hn hs hN hS ad H locs L hR he ho1 ho2 hl kk
  refine lv_aload_n hx hb hd hi (lvs_at hl hv (by intro z; cases z)) ?_
  exact kk ad H locs L hR he ho1 (okl.cons (ho1 _ (List.mem_of_getElem? hv)) ho2) hl
theorem go_aload {i x : Nat} (hd : decode cc pc = .ok (.aload i, 2)) (hv : ls[i]? = some (.ref x)) : Go sp (cc, nL, own, d, ini) m pc ls st m (pc + 2) ls (.ref x :: st) := by
  refine ⟨Gr.rf, ?_⟩
  intro b B
  obtain ⟨p, l, e, R, s, mi, args, below, meth, c, D, cy, ro, A, n0, s0, ad0, Q⟩ := b
  obtain ⟨hx, hb, hml, hown, hts, hlk, hrm, hK, hA, hRO⟩ := B
  intro hn hs hN hS ad H locs L hR he ho1 ho2 hl kk
  refine lv_aload hx hb hd (lvs_at hl hv (by intro z; cases z)) ?_
  exact kk ad H locs L hR he ho1 (okl.cons (ho1 _ (List.mem_of_getElem? hv)) ho2) hl
/-- what is only read may lie in a local too -/
theorem go_aload_nr {k : Fin 4} {i x : Nat} (hd : decode cc pc = .ok (.aload_n k, 1)) (hi : (k : Nat) = i) (hv : ls[i]? = some (.retAddr x)) : Go sp (cc, nL, own, d, ini) m pc ls st m (pc + 1) ls (.retAddr x :: st) := by
  refine ⟨Gr.rf, ?_⟩
  intro b B
  obtain ⟨p, l, e, R, s, mi, args, below, meth, c, D, cy, ro, A, n0, s0, ad0, Q⟩ := b
  obtain ⟨hx, hb, hml, hown, hts, hlk, hrm, hK, hA, hRO⟩ := B
  intro hn hs hN hS ad H locs L hR he ho1 ho2 hl kk
  have hg := lvs_at hl hv (by intro z; cases z)
  have k0 := kk ad H locs L hR he ho1 (okl.cons trivial ho2) hl
  rcases hRO.1 x with h | ⟨q, h⟩
  · exact lv_aload_nN hx hb hd hi (by rw [hg]; show some (Slot.val (ro x)) = _; rw [h]) (by rw [← h]; exact k0)
  · exact lv_aload_n hx hb hd hi (x := q) (by rw [hg]; show some (Slot.val (ro x)) = _; rw [h]) (by rw [← h]; exact k0)
theorem go_dup_i {x : Int32} (hd : decode cc pc = .ok (.dup, 1)) : Go sp (cc, nL, own, d, ini) m pc ls (.int x :: st) m (pc + 1) ls (.int x :: .int x :: st) := by
  refine ⟨Gr.rf, ?_⟩
  intro b B
  obtain ⟨p, l, e, R, s, mi, args, below, meth, c, D, cy, ro, A, n0, s0, ad0, Q⟩ := b
  obtain ⟨hx, hb, hml, hown, hts, hlk, hrm, hK, hA, hRO⟩ := B
  intro hn hs hN hS ad H locs L hR he ho1 ho2 hl kk
  refine lv_dup hx hb hd rfl ?_
  exact kk ad H locs L hR he ho1 (okl.cons ho2.head ho2) hl
theorem go_pop_i {x : Int32} (hd : decode cc pc = .ok (.pop, 1)) : Go sp (cc, nL, own, d, ini) m pc ls (.int x :: st) m (pc + 1) ls st := by
  refine ⟨Gr.rf, ?_⟩
  intro b B
  obtain ⟨p, l, e, R, s, mi, args, below, meth, c, D, cy, ro, A, n0, s0, ad0, Q⟩ := b
  obtain ⟨hx, hb, hml, hown, hts, hlk, hrm, hK, hA, hRO⟩ := B
  intro hn hs hN hS ad H locs L hR he ho1 ho2 hl kk
  refine lv_pop hx hb hd rfl ?_
  exact kk ad H locs L hR he ho1 ho2.tail hl
theorem go_dup_a {x : Nat} (hd : decode cc pc = .ok (.dup, 1)) : Go sp (cc, nL, own, d, ini) m pc ls (.ref x :: st) m (pc + 1) ls (.ref x :: .ref x :: st) := by
  refine ⟨Gr.rf, ?_⟩
  intro b B
  obtain ⟨p, l, e, R, s, mi, args, below, meth, c, D, cy, ro, A, n0, s0, ad0, Q⟩ := b
  obtain ⟨hx, hb, hml, hown, hts, hlk, hrm, hK, hA, hRO⟩ := B
  intro hn hs hN hS ad H locs L hR he ho1 ho2 hl kk
  refine lv_dup hx hb hd rfl ?_
  exact kk ad H locs L hR he ho1 (okl.cons ho2.head ho2) hl
theorem go_pop_a {x : Nat} (hd : decode cc pc = .ok (.pop, 1)) : Go sp (cc, nL, own, d, ini) m pc ls (.ref x :: st) m (pc + 1) ls st := by
  refine ⟨Gr.rf, ?_⟩
  intro b B
  obtain ⟨p, l, e, R, s, mi, args, below, meth, c, D, cy, ro, A, n0, s0, ad0, Q⟩ := b
  obtain ⟨hx, hb, hml, hown, hts, hlk, hrm, hK, hA, hRO⟩ := B
  intro hn hs hN hS ad H locs L hR he ho1 ho2 hl kk
  refine lv_pop hx hb hd rfl ?_
  exact kk ad H locs L hR he ho1 ho2.tail hl
theorem go_if_eq_t {x : Int32} {off : Int} {tgt : Nat} (hd : decode cc pc = .ok (.ifCond .eq off, 3)) (ht : (pc : Int) + off = (tgt : Int)) (h : x = 0) : Go sp (cc, nL, own, d, ini) m pc ls (.int x :: st) m tgt ls st := by
  refine ⟨Gr.rf, ?_⟩
  intro b B
  obtain ⟨p, l, e, R, s, mi, args, below, meth, c, D, cy, ro, A, n0, s0, ad0, Q⟩ := b
  obtain ⟨hx, hb, hml, hown, hts, hlk, hrm, hK, hA, hRO⟩ := B
  intro hn hs hN hS ad H locs L hR he ho1 ho2 hl kk
  refine lv_if_eq (tgt := tgt) hx hb hd ht ?_ ?_ <;> intro q <;> first | exact absurd h q | exact absurd q h | exact kk ad H locs L hR he ho1 ho2.tail hl
theorem go_if_eq_f {x : Int32} {off : Int} (tgt : Nat) (hd : decode cc pc = .ok (.ifCond .eq off, 3)) (ht : (pc : Int) + off = (tgt : Int)) (h : ¬ x = 0) : Go sp (cc, nL, own, d, ini) m pc ls (.int x :: st) m (pc + 3) ls st := by
  refine ⟨Gr.rf, ?_⟩
  intro b B
  obtain ⟨p, l, e, R, s, mi, args, below, meth, c, D, cy, ro, A, n0, s0, ad0, Q⟩ := b
  obtain ⟨hx, hb, hml, hown, hts, hlk, hrm, hK, hA, hRO⟩ := B
  intro hn hs hN hS ad H locs L hR he ho1 ho2 hl kk
  refine lv_if_eq (tgt := tgt) hx hb hd ht ?_ ?_ <;> intro q <;> first | exact absurd h q | exact absurd q h | exact kk ad H locs L hR he ho1 ho2.tail hl
theorem go_icmp_eq_t {x y : Int32} {off : Int} {tgt : Nat} (hd : decode cc pc = .ok (.if_icmp .eq off, 3)) (ht : (pc : Int) + off = (tgt : Int)) (h : x = y) : Go sp (cc, nL, own, d, ini) m pc ls (.int y :: .int x :: st) m tgt ls st := by
  refine ⟨Gr.rf, ?_⟩
  intro b B
  obtain ⟨p, l, e, R, s, mi, args, below, meth, c, D, cy, ro, A, n0, s0, ad0, Q⟩ := b
  obtain ⟨hx, hb, hml, hown, hts, hlk, hrm, hK, hA, hRO⟩ := B
  intro hn hs hN hS ad H locs L hR he ho1 ho2 hl kk
  refine lv_icmp_eq (tgt := tgt) hx hb hd ht ?_ ?_ <;> intro q <;> first | exact absurd h q | exact absurd q h | exact kk ad H locs L hR he ho1 ho2.tail.tail hl
theorem go_icmp_eq_f {x y : Int32} {off : Int} (tgt : Nat) (hd : decode cc pc = .ok (.if_icmp .eq off, 3)) (ht : (pc : Int) + off = (tgt : Int)) (h : ¬ x = y) : Go sp (cc, nL, own, d, ini) m pc ls (.int y :: .int x :: st) m (pc + 3) ls st := by
  refine ⟨Gr.rf, ?_⟩
  intro b B
  obtain ⟨p, l, e, R, s, mi, args, below, meth, c, D, cy, ro, A, n0, s0, ad0, Q⟩ := b
  obtain ⟨hx, hb, hml, hown, hts, hlk, hrm, hK, hA, hRO⟩ := B
  intro hn hs hN hS ad H locs L hR he ho1 ho2 hl kk
  refine lv_icmp_eq (tgt := tgt) hx hb hd ht ?_ ?_ <;> intro q <;> first | exact absurd h q | exact absurd q h | exact kk ad H locs L hR he ho1 ho2.tail.tail hl
theorem go_if_ne_t {x : Int32} {off : Int} {tgt : Nat} (hd : decode cc pc = .ok (.ifCond .ne off, 3)) (ht : (pc : Int) + off = (tgt : Int)) (h : ¬ x = 0) : Go sp (cc, nL, own, d, ini) m pc ls (.int x :: st) m tgt ls st := by
  refine ⟨Gr.rf, ?_⟩
  intro b B
  obtain ⟨p, l, e, R, s, mi, args, below, meth, c, D, cy, ro, A, n0, s0, ad0, Q⟩ := b
  obtain ⟨hx, hb, hml, hown, hts, hlk, hrm, hK, hA, hRO⟩ := B
  intro hn hs hN hS ad H locs L hR he ho1 ho2 hl kk
  refine lv_if_ne (tgt := tgt) hx hb hd ht ?_ ?_ <;> intro q <;> first | exact absurd h q | exact absurd q h | exact kk ad H locs L hR he ho1 ho2.tail hl
theorem go_if_ne_f {x : Int32} {off : Int} (tgt : Nat) (hd : decode cc pc = .ok (.ifCond .ne off, 3)) (ht : (pc : Int) + off = (tgt : Int)) (h : x = 0) : Go sp (cc, nL, own, d, ini) m pc ls (.int x :: st) m (pc + 3) ls st := by
  refine ⟨Gr.rf, ?_⟩
  intro b B
  obtain ⟨p, l, e, R, s, mi, args, below, meth, c, D, cy, ro, A, n0, s0, ad0, Q⟩ := b
  obtain ⟨hx, hb, hml, hown, hts, hlk, hrm, hK, hA, hRO⟩ := B
  intro hn hs hN hS ad H locs L hR he ho1 ho2 hl kk
  refine lv_if_ne (tgt := tgt) hx hb hd ht ?_ ?_ <;> intro q <;> first | exact absurd h q | exact absurd q h | exact kk ad H locs L hR he ho1 ho2.tail hl
theorem go_icmp_ne_t {x y : Int32} {off : Int} {tgt : Nat} (hd : decode cc pc = .ok (.if_icmp .ne off, 3)) (ht : (pc : Int) + off = (tgt : Int)) (h : ¬ x = y) : Go sp (cc, nL, own, d, ini) m pc ls (.int y :: .int x :: st) m tgt ls st := by
  refine ⟨Gr.rf, ?_⟩
  intro b B
  obtain ⟨p, l, e, R, s, mi, args, below, meth, c, D, cy, ro, A, n0, s0, ad0, Q⟩ := b
  obtain ⟨hx, hb, hml, hown, hts, hlk, hrm, hK, hA, hRO⟩ := B
  intro hn hs hN hS ad H locs L hR he ho1 ho2 hl kk
  refine lv_icmp_ne (tgt := tgt) hx hb hd ht ?_ ?_ <;> intro q <;> first | exact absurd h q | exact absurd q h | exact kk ad H locs L hR he ho1 ho2.tail.tail hl
theorem go_icmp_ne_f {x y : Int32} {off : Int} (tgt : Nat) (hd : decode cc pc = .ok (.if_icmp .ne off, 3)) (ht : (pc : Int) + off = (tgt : Int)) (h : x = y) : Go sp (cc, nL, own, d, ini) m pc ls (.int y :: .int x :: st) m (pc + 3) ls st := by
  refine ⟨Gr.rf, ?_⟩
  intro b B
  obtain ⟨p, l, e, R, s, mi, args, below, meth, c, D, cy, ro, A, n0, s0, ad0, Q⟩ := b
  obtain ⟨hx, hb, hml, hown, hts, hlk, hrm, hK, hA, hRO⟩ := B
  intro hn hs hN hS ad H locs L hR he ho1 ho2 hl kk
  refine lv_icmp_ne (tgt := tgt) hx hb hd ht ?_ ?_ <;> intro q <;> first | exact absurd h q | exact absurd q h | exact kk ad H locs L hR he ho1 ho2.tail.tail hl
theorem go_if_lt_t {x : Int32} {off : Int} {tgt : Nat} (hd : decode cc pc = .ok (.ifCond .lt off, 3)) (ht : (pc : Int) + off = (tgt : Int)) (h : x < 0) : Go sp (cc, nL, own, d, ini) m pc ls (.int x :: st) m tgt ls st := by
  refine ⟨Gr.rf, ?_⟩
  intro b B
  obtain ⟨p, l, e, R, s, mi, args, below, meth, c, D, cy, ro, A, n0, s0, ad0, Q⟩ := b
  obtain ⟨hx, hb, hml, hown, hts, hlk, hrm, hK, hA, hRO⟩ := B
  intro hn hs hN hS ad H locs L hR he ho1 ho2 hl kk
  refine lv_if_lt (tgt := tgt) hx hb hd ht ?_ ?_ <;> intro q <;> first | exact absurd h q | exact absurd q h | exact kk ad H locs L hR he ho1 ho2.tail hl
theorem go_if_lt_f {x : Int32} {off : Int} (tgt : Nat) (hd : decode cc pc = .ok (.ifCond .lt off, 3)) (ht : (pc : Int) + off = (tgt : Int)) (h : ¬ x < 0) : Go sp (cc, nL, own, d, ini) m pc ls (.int x :: st) m (pc + 3) ls st := by
  refine ⟨Gr.rf, ?_⟩
  intro b B
  obtain ⟨p, l, e, R, s, mi, args, below, meth, c, D, cy, ro, A, n0, s0, ad0, Q⟩ := b
  obtain ⟨hx, hb, hml, hown, hts, hlk, hrm, hK, hA, hRO⟩ := B
  intro hn hs hN hS ad H locs L hR he ho1 ho2 hl kk
  refine lv_if_lt (tgt := tgt) hx hb hd ht ?_ ?_ <;> intro q <;> first | exact absurd h q | exact absurd q h | exact kk ad H locs L hR he ho1 ho2.tail hl
theorem go_icmp_lt_t {x y : Int32} {off : Int} {tgt : Nat} (hd : decode cc pc = .ok (.if_icmp .lt off, 3)) (ht : (pc : Int) + off = (tgt : Int)) (h : x < y) : Go sp (cc, nL, own, d, ini) m pc ls (.int y :: .int x :: st) m tgt ls st := by
  refine ⟨Gr.rf, ?_⟩
  intro b B
  obtain ⟨p, l, e, R, s, mi, args, below, meth, c, D, cy, ro, A, n0, s0, ad0, Q⟩ := b
  obtain ⟨hx, hb, hml, hown, hts, hlk, hrm, hK, hA, hRO⟩ := B
  intro hn hs hN hS ad H locs L hR he ho1 ho2 hl kk
  refine lv_icmp_lt (tgt := tgt) hx hb hd ht ?_ ?_ <;> intro q <;> first | exact absurd h q | exact absurd q h | exact kk ad H locs L hR he ho1 ho2.tail.tail hl
theorem go_icmp_lt_f {x y : Int32} {off : Int} (tgt : Nat) (hd : decode cc pc = .ok (.if_icmp .lt off, 3)) (ht : (pc : Int) + off = (tgt : Int)) (h : ¬ x < y) : Go sp (cc, nL, own, d, ini) m pc ls (.int y :: .int x :: st) m (pc + 3) ls st := by
  refine ⟨Gr.rf, ?_⟩
  intro b B
  obtain ⟨p, l, e, R, s, mi, args, below, meth, c, D, cy, ro, A, n0, s0, ad0, Q⟩ := b
  obtain ⟨hx, hb, hml, hown, hts, hlk, hrm, hK, hA, hRO⟩ := B
  intro hn hs hN hS ad H locs L hR he ho1 ho2 hl kk
  refine lv_icmp_lt (tgt := tgt) hx hb hd ht ?_ ?_ <;> intro q <;> first | exact absurd h q | exact absurd q h | exact kk ad H locs L hR he ho1 ho2.tail.tail hl
theorem go_if_ge_t {x : Int32} {off : Int} {tgt : Nat} (hd : decode cc pc = .ok (.ifCond .ge off, 3)) (ht : (pc : Int) + off = (tgt : Int)) (h : 0 ≤ x) : Go sp (cc, nL, own, d, ini) m pc ls (.int x :: st) m tgt ls st := by
  refine ⟨Gr.rf, ?_⟩
  intro b B
  obtain ⟨p, l, e, R, s, mi, args, below, meth, c, D, cy, ro, A, n0, s0, ad0, Q⟩ := b
  obtain ⟨hx, hb, hml, hown, hts, hlk, hrm, hK, hA, hRO⟩ := B
  intro hn hs hN hS ad H locs L hR he ho1 ho2 hl kk
  refine lv_if_ge (tgt := tgt) hx hb hd ht ?_ ?_ <;> intro q <;> first | exact absurd h q | exact absurd q h | exact kk ad H locs L hR he ho1 ho2.tail hl
theorem go_if_ge_f {x : Int32} {off : Int} (tgt : Nat) (hd : decode cc pc = .ok (.ifCond .ge off, 3)) (ht : (pc : Int) + off = (tgt : Int)) (h : ¬ 0 ≤ x) : Go sp (cc, nL, own, d, ini) m pc ls (.int x :: st) m (pc + 3) ls st := by
  refine ⟨Gr.rf, ?_⟩
  intro b B
  obtain ⟨p, l, e, R, s, mi, args, below, meth, c, D, cy, ro, A, n0, s0, ad0, Q⟩ := b
  obtain ⟨hx, hb, hml, hown, hts, hlk, hrm, hK, hA, hRO⟩ := B
  intro hn hs hN hS ad H locs L hR he ho1 ho2 hl kk
  refine lv_if_ge (tgt := tgt) hx hb hd ht ?_ ?_ <;> intro q <;> first | exact absurd h q | exact absurd q h | exact kk ad H locs L hR he ho1 ho2.tail hl
theorem go_icmp_ge_t {x y : Int32} {off : Int} {tgt : Nat} (hd : decode cc pc = .ok (.if_icmp .ge off, 3)) (ht : (pc : Int) + off = (tgt : Int)) (h : y ≤ x) : Go sp (cc, nL, own, d, ini) m pc ls (.int y :: .int x :: st) m tgt ls st := by
  refine ⟨Gr.rf, ?_⟩
  intro b B
  obtain ⟨p, l, e, R, s, mi, args, below, meth, c, D, cy, ro, A, n0, s0, ad0, Q⟩ := b
  obtain ⟨hx, hb, hml, hown, hts, hlk, hrm, hK, hA, hRO⟩ := B
  intro hn hs hN hS ad H locs L hR he ho1 ho2 hl kk
  refine lv_icmp_ge (tgt := tgt) hx hb hd ht ?_ ?_ <;> intro q <;> first | exact absurd h q | exact absurd q h | exact kk ad H locs L hR he ho1 ho2.tail.tail hl
theorem go_icmp_ge_f {x y : Int32} {off : Int} (tgt : Nat) (hd : decode cc pc = .ok (.if_icmp .ge off, 3)) (ht : (pc : Int) + off = (tgt : Int)) (h : ¬ y ≤ x) : Go sp (cc, nL, own, d, ini) m pc ls (.int y :: .int x :: st) m (pc + 3) ls st := by
  refine ⟨Gr.rf, ?_⟩
  intro b B
  obtain ⟨p, l, e, R, s, mi, args, below, meth, c, D, cy, ro, A, n0, s0, ad0, Q⟩ := b
  obtain ⟨hx, hb, hml, hown, hts, hlk, hrm, hK, hA, hRO⟩ := B
  intro hn hs hN hS ad H locs L hR he ho1 ho2 hl kk
  refine lv_icmp_ge (tgt := tgt) hx hb hd ht ?_ ?_ <;> intro q <;> first | exact absurd h q | exact absurd q h | exact kk ad H locs L hR he ho1 ho2.tail.tail hl
theorem go_if_gt_t {x : Int32} {off : Int} {tgt : Nat} (hd : decode cc pc = .ok (.ifCond .gt off, 3)) (ht : (pc : Int) + off = (tgt : Int)) (h : 0 < x) : Go sp (cc, nL, own, d, ini) m pc ls (.int x :: st) m tgt ls st := by
  refine ⟨Gr.rf, ?_⟩
  intro b B
  obtain ⟨p, l, e, R, s, mi, args, below, meth, c, D, cy, ro, A, n0, s0, ad0, Q⟩ := b
  obtain ⟨hx, hb, hml, hown, hts, hlk, hrm, hK, hA, hRO⟩ := B
  intro hn hs hN hS ad H locs L hR he ho1 ho2 hl kk
  refine lv_if_gt (tgt := tgt) hx hb hd ht ?_ ?_ <;> intro q <;> first | exact absurd h q | exact absurd q h | exact kk ad H locs L hR he ho1 ho2.tail hl
theorem go_if_gt_f {x : Int32} {off : Int} (tgt : Nat) (hd : decode cc pc = .ok (.ifCond .gt off, 3)) (ht : (pc : Int) + off = (tgt : Int)) (h : ¬ 0 < x) : Go sp (cc, nL, own, d, ini) m pc ls (.int x :: st) m (pc + 3) ls st := by
  refine ⟨Gr.rf, ?_⟩
  intro b B
  obtain ⟨p, l, e, R, s, mi, args, below, meth, c, D, cy, ro, A, n0, s0, ad0, Q⟩ := b
  obtain ⟨hx, hb, hml, hown, hts, hlk, hrm, hK, hA, hRO⟩ := B
  intro hn hs hN hS ad H locs L hR he ho1 ho2 hl kk
  refine lv_if_gt (tgt := tgt) hx hb hd ht ?_ ?_ <;> intro q <;> first | exact absurd h q | exact absurd q h | exact kk ad H locs L hR he ho1 ho2.tail hl
theorem go_icmp_gt_t {x y : Int32} {off : Int} {tgt : Nat} (hd : decode cc pc = .ok (.if_icmp .gt off, 3)) (ht : (pc : Int) + off = (tgt : Int)) (h : y < x) : Go sp (cc, nL, own, d, ini) m pc ls (.int y :: .int x :: st) m tgt ls st := by
  refine ⟨Gr.rf, ?_⟩
  intro b B
  obtain ⟨p, l, e, R, s, mi, args, below, meth, c, D, cy, ro, A, n0, s0, ad0, Q⟩ := b
  obtain ⟨hx, hb, hml, hown, hts, hlk, hrm, hK, hA, hRO⟩ := B
  intro hn hs hN hS ad H locs L hR he ho1 ho2 hl kk
  refine lv_icmp_gt (tgt := tgt) hx hb hd ht ?_ ?_ <;> intro q <;> first | exact absurd h q | exact absurd q h | exact kk ad H locs L hR he ho1 ho2.tail.tail hl
theorem go_icmp_gt_f {x y : Int32} {off : Int} (tgt : Nat) (hd : decode cc pc = .ok (.if_icmp .gt off, 3)) (ht : (pc : Int) + off = (tgt : Int)) (h : ¬ y < x) : Go sp (cc, nL, own, d, ini) m pc ls (.int y :: .int x :: st) m (pc + 3) ls st := by
  refine ⟨Gr.rf, ?_⟩
  intro b B
  obtain ⟨p, l, e, R, s, mi, args, below, meth, c, D, cy, ro, A, n0, s0, ad0, Q⟩ := b
  obtain ⟨hx, hb, hml, hown, hts, hlk, hrm, hK, hA, hRO⟩ := B
  intro hn hs hN hS ad H locs L hR he ho1 ho2 hl kk
  refine lv_icmp_gt (tgt := tgt) hx hb hd ht ?_ ?_ <;> intro q <;> first | exact absurd h q | exact absurd q h | exact kk ad H locs L hR he ho1 ho2.tail.tail hl
theorem go_if_le_t {x : Int32} {off : Int} {tgt : Nat} (hd : decode cc pc = .ok (.ifCond .le off, 3)) (ht : (pc : Int) + off = (tgt : Int)) (h : x ≤ 0) : Go sp (cc, nL, own, d, ini) m pc ls (.int x :: st) m tgt ls st := by
  refine ⟨Gr.rf, ?_⟩
  intro b B
  obtain ⟨p, l, e, R, s, mi, args, below, meth, c, D, cy, ro, A, n0, s0, ad0, Q⟩ := b
  obtain ⟨hx, hb, hml, hown, hts, hlk, hrm, hK, hA, hRO⟩ := B
  intro hn hs hN hS ad H locs L hR he ho1 ho2 hl kk
  refine lv_if_le (tgt := tgt) hx hb hd ht ?_ ?_ <;> intro q <;> first | exact absurd h q | exact absurd q h | exact kk ad H locs L hR he ho1 ho2.tail hl
theorem go_if_le_f {x : Int32} {off : Int} (tgt : Nat) (hd : decode cc pc = .ok (.ifCond .le off, 3)) (ht : (pc : Int) + off = (tgt : Int)) (h : ¬ x ≤ 0) : Go sp (cc, nL, own, d, ini) m pc ls (.int x :: st) m (pc + 3) ls st := by
  refine ⟨Gr.rf, ?_⟩
  intro b B
  obtain ⟨p, l, e, R, s, mi, args, below, meth, c, D, cy, ro, A, n0, s0, ad0, Q⟩ := b
  obtain ⟨hx, hb, hml, hown, hts, hlk, hrm, hK, hA, hRO⟩ := B
  intro hn hs hN hS ad H locs L hR he ho1 ho2 hl kk
  refine lv_if_le (tgt := tgt) hx hb hd ht ?_ ?_ <;> intro q <;> first | exact absurd h q | exact absurd q h | exact kk ad H locs L hR he ho1 ho2.tail hl
theorem go_icmp_le_t {x y : Int32} {off : Int} {tgt : Nat} (hd : decode cc pc = .ok (.if_icmp .le off, 3)) (ht : (pc : Int) + off = (tgt : Int)) (h : x ≤ y) : Go sp (cc, nL, own, d, ini) m pc ls (.int y :: .int x :: st) m tgt ls st := by
  refine ⟨Gr.rf, ?_⟩
  intro b B
  obtain ⟨p, l, e, R, s, mi, args, below, meth, c, D, cy, ro, A, n0, s0, ad0, Q⟩ := b
  obtain ⟨hx, hb, hml, hown, hts, hlk, hrm, hK, hA, hRO⟩ := B
  intro hn hs hN hS ad H locs L hR he ho1 ho2 hl kk
  refine lv_icmp_le (tgt := tgt) hx hb hd ht ?_ ?_ <;> intro q <;> first | exact absurd h q | exact absurd q h | exact kk ad H locs L hR he ho1 ho2.tail.tail hl
theorem go_icmp_le_f {x y : Int32} {off : Int} (tgt : Nat) (hd : decode cc pc = .ok (.if_icmp .le off, 3)) (ht : (pc : Int) + off = (tgt : Int)) (h : ¬ x ≤ y) : Go sp (cc, nL, own, d, ini) m pc ls (.int y :: .int x :: st) m (pc + 3) ls st := by
  refine ⟨Gr.rf, ?_⟩
  intro b B
  obtain ⟨p, l, e, R, s, mi, args, below, meth, c, D, cy, ro, A, n0, s0, ad0, Q⟩ := b
  obtain ⟨hx, hb, hml, hown, hts, hlk, hrm, hK, hA, hRO⟩ := B
  intro hn hs hN hS ad H locs L hR he ho1 ho2 hl kk
  refine lv_icmp_le (tgt := tgt) hx hb hd ht ?_ ?_ <;> intro q <;> first | exact absurd h q | exact absurd q h | exact kk ad H locs L hR he ho1 ho2.tail.tail hl
theorem go_goto {off : Int} {tgt : Nat} (hd : decode cc pc = .ok (.goto off, 3)) (ht : (pc : Int) + off = (tgt : Int)) : Go sp (cc, nL, own, d, ini) m pc ls st m tgt ls st := by
  refine ⟨Gr.rf, ?_⟩
  intro b B
  obtain ⟨p, l, e, R, s, mi, args, below, meth, c, D, cy, ro, A, n0, s0, ad0, Q⟩ := b
  obtain ⟨hx, hb, hml, hown, hts, hlk, hrm, hK, hA, hRO⟩ := B
  intro hn hs hN hS ad H locs L hR he ho1 ho2 hl kk
  refine lv_goto (tgt := tgt) hx hb hd ht ?_
  exact kk ad H locs L hR he ho1 ho2 hl
theorem go_tsIn {dflt lo hi : Int} {offs : Array Int} {len : Nat} {x : Int32} {off : Int} {tgt : Nat} (hd : decode cc pc = .ok (.tableswitch dflt lo hi offs, len)) (h1 : ¬ x.toInt < lo) (h2 : ¬ hi < x.toInt) (h3 : offs[(x.toInt - lo).toNat]? = some off) (ht : (pc : Int) + off = (tgt : Int)) : Go sp (cc, nL, own, d, ini) m pc ls (.int x :: st) m tgt ls st := by
  refine ⟨Gr.rf, ?_⟩
  intro b B
  obtain ⟨p, l, e, R, s, mi, args, below, meth, c, D, cy, ro, A, n0, s0, ad0, Q⟩ := b
  obtain ⟨hx, hb, hml, hown, hts, hlk, hrm, hK, hA, hRO⟩ := B
  intro hn hs hN hS ad H locs L hR he ho1 ho2 hl kk
  refine lv_tableIn (tgt := tgt) hx hb hd h1 h2 h3 ht ?_
  exact kk ad H locs L hR he ho1 ho2.tail hl
theorem go_tsOut {dflt lo hi : Int} {offs : Array Int} {len : Nat} {x : Int32} {tgt : Nat} (hd : decode cc pc = .ok (.tableswitch dflt lo hi offs, len)) (h : x.toInt < lo ∨ hi < x.toInt) (ht : (pc : Int) + dflt = (tgt : Int)) : Go sp (cc, nL, own, d, ini) m pc ls (.int x :: st) m tgt ls st := by
  refine ⟨Gr.rf, ?_⟩
  intro b B
  obtain ⟨p, l, e, R, s, mi, args, below, meth, c, D, cy, ro, A, n0, s0, ad0, Q⟩ := b
  obtain ⟨hx, hb, hml, hown, hts, hlk, hrm, hK, hA, hRO⟩ := B
  intro hn hs hN hS ad H locs L hR he ho1 ho2 hl kk
  refine lv_tableOut (tgt := tgt) hx hb hd h ht ?_
  exact kk ad H locs L hR he ho1 ho2.tail hl
end GO
