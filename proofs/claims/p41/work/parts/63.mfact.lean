section MFB
variable {G : zG} {σ W : zPH} {X : zX} {T : Nat → Int} {n p i : Nat} {l : List (Int × Bool × Bool)}
theorem yCh_n {T : Nat → Int} {n p : Nat} {a b : Int} {f : Int → zPH → Nat → zPR} {W : zPH} (h : ¬ (ztK T n p = 0 ∧ a ≤ ztV T n p ∧ ztV T n p ≤ b)) : yCh T n a b f W p = yNo T n p := by unfold yCh; rw [if_neg h]
theorem yCh_y {T : Nat → Int} {n p : Nat} {a b : Int} {f : Int → zPH → Nat → zPR} {W : zPH} (h : ztK T n p = 0 ∧ a ≤ ztV T n p ∧ ztV T n p ≤ b) : yCh T n a b f W p = f (ztV T n p - a) W (ztE T n p) := by unfold yCh; rw [if_pos h]
end MFB
