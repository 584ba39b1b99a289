/-- what is open in a test, the latest first: its kind, whether an and, an or waits -/
def zfR (σ : zPH) : List (Int × Bool × Bool) → Prop
  | [] => True
  | x :: r => (σ 80 r.length = x.1 ∧ σ 81 r.length = (if x.2.1 then 1 else 0) ∧ σ 82 r.length = (if x.2.2 then 1 else 0)) ∧ zfR σ r
theorem zfR_to {σ σ' : zPH} {l : List (Int × Bool × Bool)} (h : zfR σ l) (hu : ∀ j, j < l.length → σ' 80 j = σ 80 j ∧ σ' 81 j = σ 81 j ∧ σ' 82 j = σ 82 j) : zfR σ' l := by
  induction l with
  | nil => trivial
  | cons x r ih =>
    obtain ⟨u1, u2, u3⟩ := hu r.length (by simp)
    exact ⟨by rw [u1, u2, u3]; exact h.1, ih h.2 (fun j hj => hu j (by simp; omega))⟩
section MF
variable {G : zG} {σ W : zPH} {X : zX}
end MF
