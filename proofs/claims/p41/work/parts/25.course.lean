theorem s_JA_fill {G : zG} {σ : zPH} {X : zX} {q n : Nat} {v : Int} (hs : zsh G.2.2.2 q = .inr (0, n)) (hn : n < 2147483648) (hq : q < 58) (hX : ∀ σ', (∀ q', q' ≠ q → σ' q' = σ q') → (∀ k, k < n → σ' q k = v) → (∀ k, n ≤ k → σ' q k = σ q k) → X none σ') : MS G zm_JA_fill 0 [zr G q, iZ v] σ X := by
  refine k_JA_fill hs (by omega) hq ?_
  rintro x3 rfl
  refine zLP2_ind (fun x y σ1 => y = (n : Int) ∧ ∃ i : Nat, x = (i : Int) ∧ i ≤ n ∧ (∀ q', q' ≠ q → σ1 q' = σ q') ∧ (∀ k, k < i → σ1 q k = v) ∧ ∀ k, i ≤ k → σ1 q k = σ q k) (fun x _ _ => ((n : Int) - x).toNat) ?_ ⟨rfl, 0, rfl, by omega, fun _ _ => rfl, fun k hk => by omega, fun _ _ => rfl⟩
  rintro K x y σ1 ⟨rfl, i, rfl, hi, h1, h2, h3⟩ hK
  refine ⟨by omega, fun h => hX σ1 h1 (fun k hk => h2 k (by omega)) (fun k hk => h3 k (by omega)), fun h => ⟨by omega, ?_⟩⟩
  rintro σ2 e
  rw [Int.toNat_natCast] at e
  refine hK _ _ _ ⟨rfl, i + 1, by omega, by omega, fun q' hq' => by rw [e, zupd_row hq', h1 q' hq'], fun k hk => ?_, fun k hk => by rw [e, zupd_nk (by omega), h3 k (by omega)]⟩ (by omega)
  rw [e]
  rcases (show k < i ∨ k = i by omega) with q1 | rfl
  · rw [zupd_nk (by omega), h2 k q1]
  · rw [zupd_same]
/-! steps -/
theorem zpow_le {k n : Nat} (h : k ≤ n) : (2 : Int) ^ k ≤ 2 ^ n := by
  rw [zpow_c, zpow_c]
  have := Nat.pow_le_pow_right (n := 2) (by decide) h
  omega
