theorem yfrom_r (W : zPH) {r : Nat} (hr : r ≠ 7) : yfrom W r = W r := by unfold yfrom; rw [zupd_row hr]
section MST
variable {G : zG} {σ : zPH} {X : zX} {T : Nat → Int} {n i g : Nat} {P : zPH → Prop} {R : zPR}
end MST
