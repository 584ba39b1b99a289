/-- what is open in a test, the latest first: its kind, whether an and, an or waits -/
def zfR (σ : zPH) : List (Int × Bool × Bool) → Prop
  | [] => True
  | x :: r => (σ 80 r.length = x.1 ∧ σ 81 r.length = (if x.2.1 then 1 else 0) ∧ σ 82 r.length = (if x.2.2 then 1 else 0)) ∧ zfR σ r
theorem zfR_to {σ σ' : zPH} {l : List (Int × Bool × Bool)} (h : zfR σ l) (hu : ∀ j, j < l.length → σ' 80 j = σ 80 j ∧ σ' 81 j = σ 81 j ∧ σ' 82 j = σ 82 j) : zfR σ' l := by
  induction l with
  | nil => trivial
  | cons x r ih =>
    obtain ⟨u1, u2, u3⟩ := hu r.length (by simp)
    exact ⟨by rw [u1, u2, u3]; exact h.1, ih h.2 (fun j hj => hu j (by simp; omega))⟩
section MF
variable {G : zG} {σ W : zPH} {X : zX}
theorem s_M_pushes {k : Int} {l : List (Int × Bool × Bool)} (hl : σ 58 39 = (l.length : Int)) (h12 : l.length < 12) (h : zfR σ l) (hX : ∀ σ', σ' 58 39 = ((l.length + 1 : Nat) : Int) → zfR σ' ((k, false, false) :: l) → (∀ q, q ≠ 58 → q ≠ 80 → q ≠ 81 → q ≠ 82 → σ' q = σ q) → (∀ j, j ≠ 39 → σ' 58 j = σ 58 j) → X none σ') : MS G zm_M_pushes 0 [zr G 58, iZ k] σ X := by
  refine k_M_pushes ?_
  unfold w_M_pushes
  rw [hl, Int.toNat_natCast]
  refine ⟨by omega, ?_⟩
  rintro σ1 e1
  have k1 : σ1 58 = σ 58 := by rw [e1, zupd_row (by decide)]
  rw [k1, hl, Int.toNat_natCast]
  refine ⟨by omega, ?_⟩
  rintro σ2 e2
  have k2 : σ2 58 = σ 58 := by rw [e2, zupd_row (by decide), k1]
  rw [k2, hl, Int.toNat_natCast]
  refine ⟨by omega, ?_⟩
  rintro σ3 e3
  have k3 : σ3 58 = σ 58 := by rw [e3, zupd_row (by decide), k2]
  rw [k3, hl]
  rintro σ4 e4
  refine hX σ4 (by rw [e4, zupd_same]; rfl) ⟨⟨?_, ?_, ?_⟩, zfR_to h (fun j hj => ⟨?_, ?_, ?_⟩)⟩ (fun q a b c d => by rw [e4, zupd_row a, e3, zupd_row d, e2, zupd_row c, e1, zupd_row b]) (fun j hj => by rw [e4, zupd_nk hj, k3])
  · rw [e4, zupd_row (by decide), e3, zupd_row (by decide), e2, zupd_row (by decide), e1, zupd_same]
  · rw [e4, zupd_row (by decide), e3, zupd_row (by decide), e2, zupd_same]; rfl
  · rw [e4, zupd_row (by decide), e3, zupd_same]; rfl
  · rw [e4, zupd_row (by decide), e3, zupd_row (by decide), e2, zupd_row (by decide), e1, zupd_nk (by omega)]
  · rw [e4, zupd_row (by decide), e3, zupd_row (by decide), e2, zupd_nk (by omega), e1, zupd_row (by decide)]
  · rw [e4, zupd_row (by decide), e3, zupd_nk (by omega), e2, zupd_row (by decide), e1, zupd_row (by decide)]
end MF
