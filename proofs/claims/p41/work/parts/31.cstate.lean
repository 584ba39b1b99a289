/-- how many of eight bits -/
def zpp (x : Int) : Int := x % 2 + x / 2 % 2 + x / 4 % 2 + x / 8 % 2 + x / 16 % 2 + x / 32 % 2 + x / 64 % 2 + x / 128 % 2
theorem zCI_dyn {σ σ' V D D' : zPH} {t u : Nat} (h : zCI σ V D t u) (r : ∀ q, 4 < q → q < 29 → σ' q = σ q) (r2 : ∀ q, 32 ≤ q → q < 58 → σ' q = σ q) (e0 : σ' 0 3 = σ 0 3) (e4 : σ' 4 4 = σ 4 4) (hd : zDc σ' V D') : zCI σ' V D' t u := by
  obtain ⟨⟨a1, a2, a3, a4, a5⟩, ⟨b1, b2, b3⟩, c, ⟨g1, g2⟩, -⟩ := h
  have ht : t = 32 ∨ t = 45 := a1
  have hu : u = 32 ∨ u = 45 := a2
  have tb : ∀ q, t ≤ q → q ≤ t + 12 → σ' q = σ q := fun q h1 h2 => r2 q (by omega) (by omega)
  refine ⟨⟨a1, a2, a3, by rw [e0]; exact a4, by rw [e4]; exact a5⟩, ⟨b1.to tb, ?_, ?_⟩, c.to (fun q h1 h2 => r2 q (by omega) (by omega)), ⟨zLG_to g1 (fun q h1 h2 => r q (by omega) (by omega)), zLG_to g2 (fun q h1 h2 => r q (by omega) (by omega))⟩, hd⟩
  · unfold zT59 at *; rw [tb _ (by omega) (by omega)]; exact b2
  · unfold zNc at *; rw [tb _ (by omega) (by omega)]; exact b3
section CS
variable {G : zG} {σ V D : zPH} {X : zX} {t u : Nat}
end CS
