def yid : zPH → Nat → zPR := fun W p => .inl (W, p)
theorem yEx_n {T : Nat → Int} {n p : Nat} {k v : Int} {W : zPH} (h : ¬ yIs T n p k v) : yEx T n k v W p = yNo T n p := by unfold yEx; rw [if_neg h]
theorem yEx_y {T : Nat → Int} {n p : Nat} {k v : Int} {W : zPH} (h : yIs T n p k v) : yEx T n k v W p = .inl (W, ztE T n p) := by unfold yEx; rw [if_pos h]
section MP
variable {G : zG} {σ : zPH} {X : zX} {T : Nat → Int} {n i g : Nat} {P : zPH → Prop} {R : zPR}
end MP
