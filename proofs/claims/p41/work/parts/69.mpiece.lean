theorem yeN_hit {W : zPH} {e : Int} {k : Nat} (h : yeN W e k = -1) (he : W 20 k = e) : ∀ m, k < m → yeN W e m = (k : Int) := by
  intro m
  induction m with
  | zero => intro h; omega
  | succ m ih =>
    intro hm
    unfold yeN
    by_cases q : k = m
    · subst q; rw [if_neg (fun z => z h), if_pos he]
    · rw [ih (by omega), if_pos (by omega)]
/-- names of eyes -/
def yNr (W : zPH) : Prop := ∀ e : Nat, (e : Int) < W 0 5 → 0 ≤ W 20 e ∧ W 20 e < 387420489
section MQ
variable {G : zG} {σ : zPH} {X : zX} {T : Nat → Int} {n i g : Nat} {P : zPH → Prop} {R : zPR}
end MQ
