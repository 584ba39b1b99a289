/-! What the model finds out by changing something for a while -/
def zfX (σ σ' : zPH) : Prop := (∀ q, (q < 84 ∨ 89 < q) → q ≠ 58 → σ' q = σ q) ∧ ∀ k, (k < 42 ∨ 65 < k) → σ' 58 k = σ 58 k
theorem zfX.rf {σ : zPH} : zfX σ σ := ⟨fun _ _ _ => rfl, fun _ _ => rfl⟩
theorem zfX.trans {σ σ1 σ2 : zPH} (h : zfX σ σ1) (h2 : zfX σ1 σ2) : zfX σ σ2 := ⟨fun q a b => by rw [h2.1 q a b, h.1 q a b], fun k hk => by rw [h2.2 k hk, h.2 k hk]⟩
section MX
variable {G : zG} {σ V D : zPH} {X : zX}
end MX
