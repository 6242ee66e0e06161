theorem gIf_inv {α : Type} {p : Prop} {x : Option α} {y : α} (h : gIf p x = some y) : p ∧ x = some y := by
  by_cases hp : p
  · rw [gIf_pos hp] at h; exact ⟨hp, h⟩
  · unfold gIf at h; rw [if_neg hp] at h; cases h
theorem gRef_inv {α : Type} {r : Option Nat} {k : Nat → Option α} {y : α} (h : gRef r k = some y) : ∃ q, r = some q ∧ k q = some y := by
  cases r with
  | none => cases h
  | some q => exact ⟨q, rfl, h⟩
theorem theRule_isT {m m1 : Mem} {q : Nat} (z : SameSh m m1) (h : F_X5_theRule m = some (q, m1)) (hS : ShX m1) : isT m1 q := by
  unfold F_X5_theRule at h
  obtain ⟨-, h⟩ := gIf_inv h
  obtain ⟨r, h1, h2⟩ := gRef_inv h
  cases h2
  exact sx_e6 hS h1
