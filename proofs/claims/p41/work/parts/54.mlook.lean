section ML
variable {G : zG} {σ V D : zPH} {X : zX}
/-- the model's text -/
def zmX (σ : zPH) (T : Nat → Int) (n : Nat) : Prop := (∀ k, k < n → σ 59 k = T k) ∧ (σ 58 4 = (n : Int) ∧ σ 58 11 = -1) ∧ n ≤ 1600 ∧ ∀ k, 0 ≤ T k ∧ T k < 256
theorem zmX.to {σ σ' : zPH} {T : Nat → Int} {n : Nat} (h : zmX σ T n) (r : σ' 59 = σ 59) (r0 : σ' 58 4 = σ 58 4) (r1 : σ' 58 11 = σ 58 11) : zmX σ' T n := by
  unfold zmX at *
  rw [r, r0, r1]; exact h
/-- the token as the model keeps it -/
def zmk (σ : zPH) (T : Nat → Int) (n p : Nat) : Prop := σ 58 5 = (ztS T n p : Int) ∧ (ztK T n p = 5 → σ 58 12 = (ztF T n p : Int) ∧ σ 58 7 ≠ 0) ∧ (ztK T n p ≠ 5 → σ 58 12 = -1 ∧ σ 58 6 = (ztE T n p : Int)) ∧ (ztK T n p = 4 → σ 58 7 = 0) ∧ (ztK T n p = 0 → σ 58 7 = 1 ∧ zow (σ 58 8) = ztV T n p) ∧ (ztK T n p = 1 → σ 58 7 = 1 ∧ zow (σ 58 8) = -1 ∧ zWd (ztV T n p) (σ 58 8)) ∧ (ztK T n p = 2 → σ 58 7 = 2 ∧ σ 58 9 = ztV T n p) ∧ (ztK T n p = 3 → σ 58 7 = 3) ∧ (0 ≤ σ 58 8 ∧ σ 58 8 < 9223372036854775808) ∧ (0 ≤ σ 58 9 ∧ σ 58 9 < 100000) ∧ (0 ≤ σ 58 7 ∧ σ 58 7 ≤ 3)
/-- only the token has changed -/
def zfl (σ σ' : zPH) : Prop := (∀ q, q ≠ 58 → σ' q = σ q) ∧ ∀ k, k ≠ 5 → k ≠ 6 → k ≠ 7 → k ≠ 8 → k ≠ 9 → k ≠ 12 → σ' 58 k = σ 58 k
theorem zfl.rf {σ : zPH} : zfl σ σ := ⟨fun _ _ => rfl, fun _ _ _ _ _ _ _ => rfl⟩
end ML
