/-! The model's light: row 84, the stack 85, its height 58 55 -/
def zsm (f : Nat → Int) : Nat → Int
  | 0 => 0
  | n + 1 => zsm f n + f n
/-- how many bits of light there are -/
def zBs (σ : zPH) (n : Nat) : Int := zsm (fun m => zpp (σ 84 m)) n
/-- some light was added, and what it fell on is on the stack -/
def zAd (σ σ' : zPH) (P : Nat → Nat → Prop) : Prop := (∀ m b, zbt (σ' 84 m) b ↔ zbt (σ 84 m) b ∨ P m b) ∧ σ 58 55 ≤ σ' 58 55 ∧ (∀ j : Nat, (j : Int) < σ 58 55 → σ' 85 j = σ 85 j) ∧ ((∀ m, σ' 84 m ≠ σ 84 m → ∃ j : Nat, σ 58 55 ≤ (j : Int) ∧ (j : Int) < σ' 58 55 ∧ σ' 85 j = (m : Int)) ∧ ∀ j : Nat, σ 58 55 ≤ (j : Int) → (j : Int) < σ' 58 55 → ∃ m b : Nat, σ' 85 j = (m : Int) ∧ zbt (σ' 84 m) b ∧ ¬ zbt (σ 84 m) b) ∧ σ' 58 55 - σ 58 55 ≤ zBs σ' 576 - zBs σ 576 ∧ (∀ q, q ≠ 58 → q ≠ 84 → q ≠ 85 → σ' q = σ q) ∧ ∀ k, k ≠ 55 → σ' 58 k = σ 58 k
theorem zAd.rf {σ : zPH} : zAd σ σ (fun _ _ => False) := ⟨fun m b => by simp, Int.le_refl _, fun _ _ => rfl, ⟨fun m z => absurd rfl z, fun j a b => by omega⟩, by omega, fun _ _ _ _ => rfl, fun _ _ => rfl⟩
section MS
variable {G : zG} {σ V : zPH} {X : zX}
end MS
