section MJ
variable {G : zG} {σ V D : zPH} {X : zX}
/-- behind next(): the token behind p, or its fault -/
def zmN (σ : zPH) (T : Nat → Int) (n p : Nat) : Prop := (ztK T n p ≠ 5 ∧ zmP σ T n p) ∨ (ztK T n p = 5 ∧ zmFt σ 1 (ztF T n p))
theorem s_M_nextN {T : Nat → Int} {n p : Nat} (h : zmP σ T n p) (hX : ∀ σ', zmN σ' T n (ztE T n p) → zfq σ σ' → X none σ') : MS G zm_M_next 2 [zr G 58] σ X :=
  s_M_next h (fun σ' a f => hX σ' (Or.inl ⟨a.2.2.2.2, a⟩) f) (fun q σ' a f => hX σ' (Or.inr ⟨q, a⟩) f)
theorem ztF_S {T : Nat → Int} {n p : Nat} (h : ztK T n p ≠ 5) : ztF T n p = ztS T n p := by
  unfold ztF; rw [if_neg (fun z => h z.1)]
theorem s_M_isWord' {a b w : Int} (h : zmFt σ a b) (hX : X (some (iZ 0)) σ) : MS G zm_M_isWord 0 [zr G 58, lZ w] σ X :=
  k_M_isWord ⟨by have := h.1; have := h.2.2; omega, fun _ => hX, fun z => by have := h.1; have := h.2.2; omega⟩
theorem s_M_isSign' {a b c : Int} (h : zmFt σ a b) (hX : X (some (iZ 0)) σ) : MS G zm_M_isSign 1 [zr G 58, iZ c] σ X :=
  k_M_isSign ⟨by have := h.1; have := h.2.2; omega, fun _ => hX, fun z => by have := h.1; have := h.2.2; omega⟩
theorem s_M_mustWord {T : Nat → Int} {n p : Nat} (h : zmP σ T n p) {w i : Int} (hw : ∀ x : Int, x = w ↔ zow x = i) (hi : 0 ≤ i) (hJ : zJ w) (h1 : yIs T n p 0 i → ∀ σ', zmN σ' T n (ztE T n p) → zfq σ σ' → X none σ') (h0 : ¬ yIs T n p 0 i → ∀ σ', zmFt σ' 1 (ztF T n p) → zfq σ σ' → X none σ') : MS G zm_M_mustWord 3 [zr G 58, lZ w] σ X := by
  have h10 := h.2.1
  refine k_M_mustWord ⟨by omega, fun _ => ?_, fun z => by omega⟩
  refine s_M_isWord h hw hi hJ (fun q => Or.inr ⟨rfl, by omega, fun z => absurd h10 z, fun _ => s_M_nextN h (fun σ1 a f => ⟨rfl, h1 q σ1 a f⟩)⟩) (fun q => Or.inl ⟨rfl, ?_⟩)
  rw [h.2.2.2.1.1, ← ztF_S h.2.2.2.2]
  exact s_M_blame h10 (by decide) (fun σ1 F f _ => ⟨rfl, by have := F.1; omega, fun _ => h0 q σ1 F f, fun z => by have := F.1; omega⟩)
theorem s_M_mustWord' {a b w : Int} (h : zmFt σ a b) (hX : X none σ) : MS G zm_M_mustWord 3 [zr G 58, lZ w] σ X :=
  k_M_mustWord ⟨by have := h.1; have := h.2.2; omega, fun z => by have := h.1; have := h.2.2; omega, fun _ => hX⟩
end MJ
