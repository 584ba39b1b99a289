/-! The model's board under construction, in bank i; g: the group whose count is one behind -/
def zbk (q : Nat) : Nat := if q ≤ 66 then 1 else if q ≤ 70 then 144 else if q ≤ 72 then 8 else if q ≤ 74 then 6 else 1600
/-- what reading a board changes -/
def zfp (i : Nat) (σ σ' : zPH) : Prop := (∀ q, q ≠ 58 → (q < 60 ∨ 82 < q) → σ' q = σ q) ∧ (∀ k, (k < 5 ∨ (12 < k ∧ k ≠ 34 ∧ k ≠ 39 ∧ k ≠ 40 ∧ k ≠ 41)) → σ' 58 k = σ 58 k) ∧ ∀ q, 60 ≤ q → q ≤ 77 → ∀ k, (k < zbk q * i ∨ zbk q * i + zbk q ≤ k) → σ' q k = σ q k
theorem zfp.rf {i : Nat} {σ : zPH} : zfp i σ σ := ⟨fun _ _ _ => rfl, fun _ _ => rfl, fun _ _ _ _ _ => rfl⟩
theorem zfp.trans {i : Nat} {σ σ1 σ2 : zPH} (h : zfp i σ σ1) (h2 : zfp i σ1 σ2) : zfp i σ σ2 := ⟨fun q a b => by rw [h2.1 q a b, h.1 q a b], fun k a => by rw [h2.2.1 k a, h.2.1 k a], fun q a b k c => by rw [h2.2.2 q a b k c, h.2.2 q a b k c]⟩
def zbw (σ W : zPH) (i g : Nat) : Prop := (σ 60 i = W 0 0 ∧ σ 61 i = W 0 1 ∧ σ 62 i = W 0 6 ∧ σ 63 i = W 0 2 - (if g = 2 then 1 else 0) ∧ σ 64 i = W 0 3 - (if g = 3 then 1 else 0) ∧ σ 65 i = W 0 4 - (if g = 4 then 1 else 0) ∧ σ 66 i = W 0 5 - (if g = 5 then 1 else 0)) ∧ (∀ q : Nat, q < 144 → σ 67 (144 * i + q) = W 1 q ∧ (W 1 q ≠ 0 → σ 68 (144 * i + q) = W 2 q ∧ (W 1 q ≠ 8 → σ 69 (144 * i + q) = W 3 q) ∧ σ 70 (144 * i + q) = W 4 q)) ∧ (∀ e : Nat, (e : Int) < W 0 5 → zWd (W 20 e) (σ 71 (8 * i + e)) ∧ σ 72 (8 * i + e) = W 5 e) ∧ ∀ m : Nat, (m : Int) < W 0 4 → σ 73 (6 * i + m) = W 7 m ∧ σ 74 (6 * i + m) = W 8 m
theorem zbw.to {σ σ' W : zPH} {i g : Nat} (h : zbw σ W i g) (r : ∀ q, 60 ≤ q → q ≤ 74 → σ' q = σ q) : zbw σ' W i g := by
  unfold zbw at *
  rw [r 60 (by omega) (by omega), r 61 (by omega) (by omega), r 62 (by omega) (by omega), r 63 (by omega) (by omega), r 64 (by omega) (by omega), r 65 (by omega) (by omega), r 66 (by omega) (by omega), r 67 (by omega) (by omega), r 68 (by omega) (by omega), r 69 (by omega) (by omega), r 70 (by omega) (by omega), r 71 (by omega) (by omega), r 72 (by omega) (by omega), r 73 (by omega) (by omega), r 74 (by omega) (by omega)]
  exact h
/-- the board under construction is in its bounds -/
def yWm (W : zPH) : Prop := (2 ≤ W 0 0 ∧ W 0 0 ≤ 12 ∧ 2 ≤ W 0 1 ∧ W 0 1 ≤ 12) ∧ (0 ≤ W 0 2 ∧ W 0 2 ≤ 8 ∧ 0 ≤ W 0 3 ∧ W 0 3 ≤ 8 ∧ 0 ≤ W 0 4 ∧ W 0 4 ≤ 6 ∧ 0 ≤ W 0 5 ∧ W 0 5 ≤ 8) ∧ (∀ q, 0 ≤ W 1 q ∧ W 1 q ≤ 9)
theorem yput_0 (W : zPH) (s f w : Int) (q k : Nat) : yput W s f w q 0 k = if k = 6 then W 0 6 + 1 else if k = ygr s then W 0 k + 1 else W 0 k := by
  unfold yput; rw [if_pos rfl]
