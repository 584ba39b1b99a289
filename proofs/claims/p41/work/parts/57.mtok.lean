section MK
variable {G : zG} {σ V D : zPH} {X : zX}
/-- the model reads: no fault, the token behind p is looked at -/
def zmP (σ : zPH) (T : Nat → Int) (n p : Nat) : Prop := zmX σ T n ∧ σ 58 10 = 0 ∧ p ≤ n ∧ zmk σ T n p ∧ ztK T n p ≠ 5
def zfq (σ σ' : zPH) : Prop := (∀ q, q ≠ 58 → σ' q = σ q) ∧ ∀ k, (k < 5 ∨ 12 < k) → σ' 58 k = σ 58 k
theorem zfq.rf {σ : zPH} : zfq σ σ := ⟨fun _ _ => rfl, fun _ _ => rfl⟩
theorem zfq.trans {σ σ1 σ2 : zPH} (h : zfq σ σ1) (h2 : zfq σ1 σ2) : zfq σ σ2 := ⟨fun q a => by rw [h2.1 q a, h.1 q a], fun k a => by rw [h2.2 k a, h.2 k a]⟩
end MK
