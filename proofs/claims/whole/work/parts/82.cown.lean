/-- the class's text: bytes from 0 on -/
def zkT (σ : zPH) (T : Nat → Int) (n : Nat) : Prop := (∀ k, k < n → σ 1 k = T k) ∧ n ≤ 1600 ∧ ∀ k, 0 ≤ T k ∧ T k < 256
section KO
variable {G : zG} {σ : zPH} {X : zX} {T : Nat → Int} {n : Nat}
theorem s_K_ownWord {s m : Nat} (ht : zkT σ T n) (h8 : σ 8 5 = ((1 : Nat) : Int)) (hm : 0 < m) (hs : s + m ≤ n) (hl : ∀ k, k < m → 97 ≤ T (s + k) ∧ T (s + k) ≤ 122) (hX : X (some (iZ (zow (zpkw T s m)))) σ) : MS G zm_K_ownWord 6 [zr G 8, iZ (s : Int), iZ (m : Int)] σ X := by
  sorry
end KO
