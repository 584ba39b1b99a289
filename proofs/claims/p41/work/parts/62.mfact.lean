/-- a test's frame -/
def zfk (i : Nat) (σ σ' : zPH) : Prop := (∀ q, q ≠ 58 → (q < 75 ∨ 82 < q) → σ' q = σ q) ∧ (∀ k, (k < 5 ∨ (12 < k ∧ k ≠ 34 ∧ k ≠ 39 ∧ k ≠ 40 ∧ k ≠ 41)) → σ' 58 k = σ 58 k) ∧ zfo i σ σ'
theorem zfk.rf {i : Nat} {σ : zPH} : zfk i σ σ := ⟨fun _ _ _ => rfl, fun _ _ => rfl, fun _ _ _ _ => rfl⟩
theorem zfk.trans {i : Nat} {σ σ1 σ2 : zPH} (h : zfk i σ σ1) (h2 : zfk i σ1 σ2) : zfk i σ σ2 := ⟨fun q a b => by rw [h2.1 q a b, h.1 q a b], fun k a => by rw [h2.2.1 k a, h.2.1 k a], fun q a k b => by rw [h2.2.2 q a k b, h.2.2 q a k b]⟩
theorem zmP.to {σ σ' : zPH} {T : Nat → Int} {n p : Nat} (h : zmP σ T n p) (r59 : σ' 59 = σ 59) (r : ∀ k, 4 ≤ k → k ≤ 12 → σ' 58 k = σ 58 k) : zmP σ' T n p := by
  unfold zmP zmX zmk at *
  rw [r59, r 4 (by omega) (by omega), r 5 (by omega) (by omega), r 6 (by omega) (by omega), r 7 (by omega) (by omega), r 8 (by omega) (by omega), r 9 (by omega) (by omega), r 10 (by omega) (by omega), r 11 (by omega) (by omega), r 12 (by omega) (by omega)]
  exact h
theorem zmc.to {σ σ' W : zPH} {i : Nat} (h : zmc σ W i) (r : ∀ q, (q = 75 ∨ q = 76 ∨ q = 78 ∨ q = 79) → σ' q = σ q) (r0 : σ' 58 34 = σ 58 34) : zmc σ' W i := by
  unfold zmc at *
  rw [r0, r 75 (by omega), r 76 (by omega), r 78 (by omega), r 79 (by omega)]
  exact h
theorem zfR.to {σ σ' : zPH} {l : List (Int × Bool × Bool)} (h : zfR σ l) (r : ∀ q, (q = 80 ∨ q = 81 ∨ q = 82) → σ' q = σ q) : zfR σ' l := zfR_to h (fun j _ => by rw [r 80 (by omega), r 81 (by omega), r 82 (by omega)]; exact ⟨rfl, rfl, rfl⟩)
section MFA
variable {G : zG} {σ W : zPH} {X : zX} {T : Nat → Int} {n p i : Nat} {l : List (Int × Bool × Bool)}
end MFA
