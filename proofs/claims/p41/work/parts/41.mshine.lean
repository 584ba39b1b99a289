section MT
variable {G : zG} {σ V : zPH} {X : zX}
/-- only light has changed -/
def zfM (σ σ' : zPH) : Prop := (∀ q, q ≠ 58 → q ≠ 84 → q ≠ 85 → σ' q = σ q) ∧ ∀ k, k ≠ 55 → σ' 58 k = σ 58 k
theorem zfM.rf {σ : zPH} : zfM σ σ := ⟨fun _ _ _ _ => rfl, fun _ _ => rfl⟩
theorem zfM.trans {σ σ1 σ2 : zPH} (h : zfM σ σ1) (h2 : zfM σ1 σ2) : zfM σ σ2 := ⟨fun q a b c => by rw [h2.1 q a b c, h.1 q a b c], fun k hk => by rw [h2.2 k hk, h.2 k hk]⟩
end MT
