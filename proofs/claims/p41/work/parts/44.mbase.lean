/-! The model's object -/
def zMD (σ V D : zPH) : Prop := (σ 58 42 = D 0 0 ∧ σ 58 43 = D 0 1 ∧ σ 58 68 = D 0 2 ∧ σ 58 1 = D 0 3 ∧ σ 58 2 = D 0 4 ∧ σ 58 3 = D 0 5 ∧ σ 58 72 = D 0 6) ∧ (∀ e : Nat, (e : Int) < V 0 5 → σ 83 e = D 1 e) ∧ (∀ j : Nat, (j : Int) < D 0 2 → σ 90 j = D 2 j ∧ σ 91 j = D 3 j) ∧ (∀ j : Nat, (j : Int) < D 0 3 → σ 59 j = D 4 j) ∧ (∀ j : Nat, (j : Int) < D 0 6 → σ 92 j = D 5 j)
def zWd (E W : Int) : Prop := 0 ≤ W ∧ ∀ j : Nat, (E / 27 ^ j = 0 ↔ W / 256 ^ j = 0) ∧ (E / 27 ^ j ≠ 0 → W / 256 ^ j % 256 = 96 + E / 27 ^ j % 27)
/-- nothing of the class has changed -/
def zfA (σ σ' : zPH) : Prop := ∀ q, q < 58 → σ' q = σ q
theorem zfA.rf {σ : zPH} : zfA σ σ := fun _ _ => rfl
theorem zfA.trans {σ σ1 σ2 : zPH} (h1 : zfA σ σ1) (h2 : zfA σ1 σ2) : zfA σ σ2 := fun q h => by rw [h2 q h, h1 q h]
/-- what looking changes -/
def zfW (σ σ' : zPH) : Prop := (∀ q, (q < 84 ∨ 89 < q) → q ≠ 58 → σ' q = σ q) ∧ ∀ k, k ≠ 55 → (k < 59 ∨ 65 < k) → σ' 58 k = σ 58 k
theorem zfW.rf {σ : zPH} : zfW σ σ := ⟨fun _ _ _ => rfl, fun _ _ _ => rfl⟩
theorem zfW.trans {σ σ1 σ2 : zPH} (h : zfW σ σ1) (h2 : zfW σ1 σ2) : zfW σ σ2 := ⟨fun q a b => by rw [h2.1 q a b, h.1 q a b], fun k hk a => by rw [h2.2 k hk a, h.2 k hk a]⟩
theorem zMD.to {σ σ' V D : zPH} (h : zMD σ V D) (r : ∀ q, q = 83 ∨ q = 90 ∨ q = 91 ∨ q = 59 ∨ q = 92 → σ' q = σ q) (r0 : ∀ k, k = 42 ∨ k = 43 ∨ k = 68 ∨ k = 1 ∨ k = 2 ∨ k = 3 ∨ k = 72 → σ' 58 k = σ 58 k) : zMD σ' V D := by
  unfold zMD at *
  rw [r0 42 (by omega), r0 43 (by omega), r0 68 (by omega), r0 1 (by omega), r0 2 (by omega), r0 3 (by omega), r0 72 (by omega), r 83 (by omega), r 90 (by omega), r 91 (by omega), r 59 (by omega), r 92 (by omega)]
  exact h
section MB
variable {G : zG} {σ V D : zPH} {X : zX}
end MB
