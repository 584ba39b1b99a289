/-! the class's table with a change -/
/-- no square has the piece that is only tried out -/
def zT59 (σ : zPH) (t : Nat) : Prop := ∀ p, p < 144 → σ (t + 2) p ≠ 59
