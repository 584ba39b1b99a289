theorem ztV_n {T : Nat → Int} {n p : Nat} (hp : p ≤ n) (h : ztK T n p = 1) : 0 ≤ ztV T n p ∧ ztV T n p < 387420489 := by
  obtain ⟨a, b, c, d, e⟩ := ztw_l hp (Or.inr h)
  have he := e h
  have hv : ztV T n p = zpkn T (ztS T n p) (ztE T n p - ztS T n p) := by unfold ztV; rw [if_neg (by omega), if_pos h]
  have hr := zpkn_r (T := T) (s := ztS T n p) (k := ztE T n p - ztS T n p) (fun j hj => c _ (by omega) (by omega))
  rw [hv]
  refine ⟨hr.1, ?_⟩
  have : (27 : Int) ^ (ztE T n p - ztS T n p) ≤ 27 ^ 6 := by
    exact_mod_cast Nat.pow_le_pow_right (n := 27) (by decide) he
  have h6 : (27 : Int) ^ 6 = 387420489 := by decide
  omega
theorem yName_n {T : Nat → Int} {n p : Nat} {W : zPH} (h : ztK T n p ≠ 1) : yName T n W p = yNo T n p := by unfold yName; rw [if_pos h]
theorem yeN_r (W : zPH) (e : Int) : ∀ m : Nat, -1 ≤ yeN W e m ∧ yeN W e m < (m : Int) ∨ yeN W e m = -1 := fun m => by
  induction m with
  | zero => exact Or.inr rfl
  | succ m ih =>
    unfold yeN
    split
    · omega
    · split
      · left; omega
      · right; rfl
section MV2
variable {G : zG} {σ : zPH} {X : zX} {T : Nat → Int} {n i g : Nat} {P : zPH → Prop} {R : zPR}
end MV2
