/-- the code so far, in the model's bank i -/
def zmc (σ W : zPH) (i : Nat) : Prop := σ 58 34 = W 0 7 ∧ 0 ≤ W 0 7 ∧ ∀ k : Nat, (k : Int) < W 0 7 → σ 75 (1600 * i + k) = W 9 k ∧ (W 9 k = 1 → σ 76 (1600 * i + k) = W 10 k ∧ zWd (W 13 k) (σ 78 k) ∧ σ 79 k = W 14 k)
/-- only the code has changed -/
def zfo (i : Nat) (σ σ' : zPH) : Prop := ∀ q, (q = 75 ∨ q = 76 ∨ q = 77) → ∀ k, (k < 1600 * i ∨ 1600 * i + 1600 ≤ k) → σ' q k = σ q k
theorem yadd_v (W : zPH) (s c : Int) : yadd W s c 0 7 = W 0 7 + 1 ∧ (∀ k, k ≠ 7 → yadd W s c 0 k = W 0 k) ∧ (∀ k, yadd W s c 9 k = if k = (W 0 7).toNat then s else W 9 k) ∧ (∀ k, yadd W s c 10 k = if k = (W 0 7).toNat then c else W 10 k) ∧ (∀ k, yadd W s c 11 k = if k = (W 0 7).toNat then 0 else W 11 k) ∧ ∀ r, r ≠ 0 → r ≠ 9 → r ≠ 10 → r ≠ 11 → yadd W s c r = W r := by
  unfold yadd
  refine ⟨by rw [zupd_same], fun k hk => by rw [zupd_nk hk, zupd_row (by decide), zupd_row (by decide), zupd_row (by decide)], fun k => ?_, fun k => ?_, fun k => ?_, fun r h0 h9 h10 h11 => by rw [zupd_row h0, zupd_row h11, zupd_row h10, zupd_row h9]⟩
  · rw [zupd_row (by decide), zupd_row (by decide), zupd_row (by decide)]
    split
    · rename_i q; rw [q, zupd_same]
    · rename_i q; rw [zupd_nk q]
  · rw [zupd_row (by decide), zupd_row (by decide)]
    split
    · rename_i q; rw [q, zupd_same]
    · rename_i q; rw [zupd_nk q, zupd_row (by decide)]
  · rw [zupd_row (by decide)]
    split
    · rename_i q; rw [q, zupd_same]
    · rename_i q; rw [zupd_nk q, zupd_row (by decide), zupd_row (by decide)]
section MC
variable {G : zG} {σ W : zPH} {X : zX}
end MC
