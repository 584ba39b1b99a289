section MW
variable {G : zG} {σ V : zPH} {X : zX}
/-- what a step changes -/
def zfS (σ σ' : zPH) : Prop := (∀ q, q ≠ 58 → q ≠ 84 → q ≠ 85 → q ≠ 86 → σ' q = σ q) ∧ ∀ k, k ≠ 55 → σ' 58 k = σ 58 k
theorem zfS.rf {σ : zPH} : zfS σ σ := ⟨fun _ _ _ _ _ => rfl, fun _ _ => rfl⟩
theorem zfS.trans {σ σ1 σ2 : zPH} (h : zfS σ σ1) (h2 : zfS σ1 σ2) : zfS σ σ2 := ⟨fun q a b c d => by rw [h2.1 q a b c d, h.1 q a b c d], fun k hk => by rw [h2.2 k hk, h.2 k hk]⟩
/-- what a walk changes -/
def zfN (σ σ' : zPH) : Prop := (∀ q, (q < 84 ∨ 87 < q) → q ≠ 58 → σ' q = σ q) ∧ ∀ k, k ≠ 55 → (k < 59 ∨ 62 < k) → σ' 58 k = σ 58 k
theorem zfN.rf {σ : zPH} : zfN σ σ := ⟨fun _ _ _ => rfl, fun _ _ _ => rfl⟩
theorem zfN.trans {σ σ1 σ2 : zPH} (h : zfN σ σ1) (h2 : zfN σ1 σ2) : zfN σ σ2 := ⟨fun q a b => by rw [h2.1 q a b, h.1 q a b], fun k hk a => by rw [h2.2 k hk a, h.2 k hk a]⟩
end MW
