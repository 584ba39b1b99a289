/-- a fault is told, the code's count is in range -/
def zFt (σ : zPH) (k pl : Int) : Prop := zmFt σ k pl ∧ 0 ≤ σ 58 34 ∧ σ 58 34 ≤ 1600
/-- a test's frame -/
def zfk (i : Nat) (σ σ' : zPH) : Prop := (∀ q, q ≠ 58 → (q < 75 ∨ 82 < q) → σ' q = σ q) ∧ (∀ k, (k < 5 ∨ (12 < k ∧ k ≠ 34 ∧ k ≠ 39 ∧ k ≠ 40 ∧ k ≠ 41)) → σ' 58 k = σ 58 k) ∧ zfo i σ σ'
theorem zfk.rf {i : Nat} {σ : zPH} : zfk i σ σ := ⟨fun _ _ _ => rfl, fun _ _ => rfl, fun _ _ _ _ => rfl⟩
theorem zfk.trans {i : Nat} {σ σ1 σ2 : zPH} (h : zfk i σ σ1) (h2 : zfk i σ1 σ2) : zfk i σ σ2 := ⟨fun q a b => by rw [h2.1 q a b, h.1 q a b], fun k a => by rw [h2.2.1 k a, h.2.1 k a], fun q a k b => by rw [h2.2.2 q a k b, h.2.2 q a k b]⟩
theorem zfq.k {i : Nat} {σ σ' : zPH} (h : zfq σ σ') (h34 : σ' 58 34 = σ 58 34 ∨ True) : zfk i σ σ' := ⟨fun q a _ => h.1 q a, fun k a => h.2 k (by omega), fun q a k _ => by rw [h.1 q (by omega)]⟩
theorem zfc.k {i : Nat} {σ σ' : zPH} (h : zfc i σ σ') : zfk i σ σ' := ⟨fun q a b => h.1 q a (by omega) (by omega) (by omega), fun k a => h.2.1 k (by omega), h.2.2⟩
theorem zfj.k {i : Nat} {σ σ' : zPH} (h : zfj i σ σ') : zfk i σ σ' := ⟨fun q a b => h.1 q a (by omega) (by omega) (by omega) (by omega) (by omega) (by omega), fun k a => h.2.1 k (by omega) (by omega), h.2.2⟩
theorem zfk.u {i : Nat} {σ σ1 σ2 : zPH} {r k : Nat} {x : Int} (h : zfk i σ σ1) (e : σ2 = zupd σ1 r k x) (hr : (r = 58 ∧ (k = 34 ∨ k = 39 ∨ k = 40 ∨ k = 41)) ∨ (78 ≤ r ∧ r ≤ 82) ∨ (r = 77 ∧ 1600 * i ≤ k ∧ k < 1600 * i + 1600)) : zfk i σ σ2 := by
  refine h.trans ⟨fun q a b => by rw [e, zupd_row (by omega)], fun q a => ?_, fun q a j b => ?_⟩
  · rcases hr with y | y | y
    · rw [e, y.1, zupd_nk (by omega)]
    · rw [e, zupd_row (by omega)]
    · rw [e, zupd_row (by omega)]
  · by_cases y : q = r
    · rw [e, ← y, zupd_nk (by omega)]
    · rw [e, zupd_row y]
/-- what waits in the open frames -/
def zpn : List (Int × Bool × Bool) → Int
  | [] => 0
  | x :: r => (if x.1 = 2 then 1 else 0) + (if x.2.1 then 1 else 0) + (if x.2.2 then 1 else 0) + zpn r
theorem zpn_nn (l : List (Int × Bool × Bool)) : 0 ≤ zpn l := by
  induction l with
  | nil => decide
  | cons x r ih => unfold zpn; split <;> split <;> split <;> omega
theorem zmP.to {σ σ' : zPH} {T : Nat → Int} {n p : Nat} (h : zmP σ T n p) (r59 : σ' 59 = σ 59) (r : ∀ k, 4 ≤ k → k ≤ 12 → σ' 58 k = σ 58 k) : zmP σ' T n p := by
  unfold zmP zmX zmk at *
  rw [r59, r 4 (by omega) (by omega), r 5 (by omega) (by omega), r 6 (by omega) (by omega), r 7 (by omega) (by omega), r 8 (by omega) (by omega), r 9 (by omega) (by omega), r 10 (by omega) (by omega), r 11 (by omega) (by omega), r 12 (by omega) (by omega)]
  exact h
theorem zmc.to {σ σ' W : zPH} {i : Nat} (h : zmc σ W i) (r : ∀ q, (q = 75 ∨ q = 76 ∨ q = 78 ∨ q = 79) → σ' q = σ q) (r0 : σ' 58 34 = σ 58 34) : zmc σ' W i := by
  unfold zmc at *
  rw [r0, r 75 (by omega), r 76 (by omega), r 78 (by omega), r 79 (by omega)]
  exact h
theorem zfR.to {σ σ' : zPH} {l : List (Int × Bool × Bool)} (h : zfR σ l) (r : ∀ q, (q = 80 ∨ q = 81 ∨ q = 82) → σ' q = σ q) : zfR σ' l := zfR_to h (fun j _ => by rw [r 80 (by omega), r 81 (by omega), r 82 (by omega)]; exact ⟨rfl, rfl, rfl⟩)
theorem zmc_b {σ W : zPH} {i : Nat} (h : zmc σ W i) (hb : W 0 7 ≤ 1600) : 0 ≤ σ 58 34 ∧ σ 58 34 ≤ 1600 := by
  obtain ⟨a, b, -⟩ := h; omega
theorem zmk_1 {σ : zPH} {T : Nat → Int} {n p : Nat} (h : zmP σ T n p) : (σ 58 7 = 1 → zow (σ 58 8) = -1 → ztK T n p = 1) ∧ (ztK T n p = 1 → σ 58 7 = 1 ∧ zow (σ 58 8) = -1 ∧ zWd (ztV T n p) (σ 58 8)) ∧ zJ (σ 58 8) ∧ (σ 58 7 = 0 → ztK T n p = 4) := by
  obtain ⟨hx, h10, hp, ⟨k1, k2, k3, k4, k5, k6, k7, k8, k9, k10, k11⟩, hK⟩ := h
  have r := ztK_r T n p
  refine ⟨fun a b => ?_, k6, by omega, fun z => ?_⟩
  · by_cases a0 : ztK T n p = 0
    · have := k5 a0
      exfalso
      have hv : ztV T n p ≠ -1 := by
        exact ((ztw_l hp (Or.inl a0)).2.2.2.1 a0).2
      omega
    · by_cases a2 : ztK T n p = 2
      · have := (k7 a2).1; omega
      · by_cases a3 : ztK T n p = 3
        · have := k8 a3; omega
        · by_cases a4 : ztK T n p = 4
          · have := k4 a4; omega
          · omega
  · by_cases a0 : ztK T n p = 0
    · have := (k5 a0).1; omega
    · by_cases a1 : ztK T n p = 1
      · have := (k6 a1).1; omega
      · by_cases a2 : ztK T n p = 2
        · have := (k7 a2).1; omega
        · by_cases a3 : ztK T n p = 3
          · have := k8 a3; omega
          · omega
/-- in a test: the token behind p, the code W, open frames l, whether a fact is there -/
def ztT (σ W : zPH) (T : Nat → Int) (n p i : Nat) (l : List (Int × Bool × Bool)) (th : Int) : Prop := zmP σ T n p ∧ zmc σ W i ∧ (σ 58 35 = (i : Int) ∧ i ≤ 1) ∧ (σ 58 39 = (l.length : Int) ∧ σ 58 40 = (l.length : Int) - 1 ∧ l.length ≤ 7) ∧ zfR σ l ∧ σ 58 41 = th ∧ 2 * (W 0 7 + zpn l) ≤ (p : Int) ∧ 0 < p
def ztN (σ W : zPH) (T : Nat → Int) (n p i : Nat) (l : List (Int × Bool × Bool)) (th : Int) : Prop := (ztK T n p ≠ 5 ∧ ztT σ W T n p i l th) ∨ (ztK T n p = 5 ∧ zFt σ 1 (ztF T n p))
theorem ztT.b {σ W : zPH} {T : Nat → Int} {n p i : Nat} {l : List (Int × Bool × Bool)} {th : Int} (h : ztT σ W T n p i l th) : 0 ≤ W 0 7 ∧ W 0 7 + zpn l ≤ 800 ∧ 0 ≤ zpn l ∧ p ≤ n ∧ n ≤ 1600 ∧ ztK T n p ≠ 5 := by
  obtain ⟨a, b, c, d, e, f, g⟩ := h
  have := a.1.2.2.1
  have := a.2.2.1
  have := b.2.1
  have := zpn_nn l
  exact ⟨by omega, by omega, by omega, by omega, by omega, a.2.2.2.2⟩
theorem zfq.N {σ σ' W : zPH} {T : Nat → Int} {n p i : Nat} {l : List (Int × Bool × Bool)} {th : Int} (f : zfq σ σ') (a : zmN σ' T n p) (hc : zmc σ W i) (hi : σ 58 35 = (i : Int) ∧ i ≤ 1) (hl : σ 58 39 = (l.length : Int) ∧ σ 58 40 = (l.length : Int) - 1 ∧ l.length ≤ 7) (hr : zfR σ l) (ht : σ 58 41 = th) (hb : 2 * (W 0 7 + zpn l) ≤ (p : Int) ∧ 0 < p) (hw : W 0 7 ≤ 1600) : ztN σ' W T n p i l th := by
  rcases a with ⟨a0, a⟩ | ⟨a0, a⟩
  · exact Or.inl ⟨a0, a, hc.to (fun q _ => f.1 q (by omega)) (f.2 34 (by decide)), by rw [f.2 35 (by decide)]; exact hi, by rw [f.2 39 (by decide), f.2 40 (by decide)]; exact hl, hr.to (fun q _ => f.1 q (by omega)), by rw [f.2 41 (by decide)]; exact ht, hb⟩
  · exact Or.inr ⟨a0, a, by rw [f.2 34 (by decide)]; exact zmc_b hc hw⟩
section MFA
variable {G : zG} {σ W : zPH} {X : zX} {T : Nat → Int} {n p i : Nat} {l : List (Int × Bool × Bool)}
theorem s_M_opens {k : Int} (h : ztT σ W T n p i l 0) (hk : p < ztE T n p ∧ (k = 2 → p + 2 ≤ ztE T n p)) (h1 : l.length ≤ 6 → ∀ σ', ztN σ' W T n (ztE T n p) i ((k, false, false) :: l) 0 → zfk i σ σ' → X none σ') (h0 : l.length = 7 → ∀ σ', zFt σ' 4 (ztS T n p) → zfk i σ σ' → X none σ') : MS G zm_M_opens 3 [zr G 58, iZ k] σ X := by
  have hb := h.b
  obtain ⟨a, c, ci, cl, cr, ct, cb⟩ := h
  have h10 := a.2.1
  refine k_M_opens ⟨by omega, fun z => ⟨by omega, fun _ => ?_, fun y => by omega⟩, fun z => ?_⟩
  · rintro σ1 e1
    have r1 : ∀ q, q ≠ 58 → σ1 q = σ q := fun q hq => by rw [e1, zupd_row hq]
    have k1 : ∀ q, q ≠ 40 → σ1 58 q = σ 58 q := fun q hq => by rw [e1, zupd_nk hq]
    refine s_M_pushes (by rw [k1 39 (by decide)]; exact cl.1) (by omega) (cr.to (fun q _ => r1 q (by omega))) (fun σ2 d2 R2 q2 k2 => ⟨rfl, ?_⟩)
    have a2 : zmP σ2 T n p := a.to (by rw [q2 59 (by decide) (by decide) (by decide) (by decide), r1 59 (by decide)]) (fun k _ _ => by rw [k2 k (by omega), k1 k (by omega)])
    refine s_M_nextN a2 (fun σ3 a3 f3 => ⟨rfl, h1 (by omega) σ3 (f3.N a3 (W := W) (c.to (fun q _ => by rw [q2 q (by omega) (by omega) (by omega) (by omega), r1 q (by omega)]) (by rw [k2 34 (by decide), k1 34 (by decide)])) (by rw [k2 35 (by decide), k1 35 (by decide)]; exact ci) ⟨by rw [d2]; rfl, ?_, by simp; omega⟩ R2 (by rw [k2 41 (by decide), k1 41 (by decide)]; exact ct) ⟨?_, by omega⟩ (by omega)) ?_⟩)
    · rw [k2 40 (by decide), e1, zupd_same, cl.2.1]; simp
    · unfold zpn
      simp only [if_neg (show ¬ (false = true) by decide)]
      split <;> omega
    · refine zfk.trans ((zfk.rf.u e1 (by omega)).trans ⟨fun q a b => q2 q a (by omega) (by omega) (by omega), fun q a => k2 q (by omega), fun q a k b => by rw [q2 q (by omega) (by omega) (by omega) (by omega)]⟩) (f3.k (Or.inr trivial))
  · rw [a.2.2.2.1.1]
    exact s_M_blame h10 (by decide) (fun σ1 F f _ => ⟨rfl, by have := F.1; omega, fun z => by have := F.1; omega, fun _ => h0 (by omega) σ1 ⟨F, by rw [f.2 34 (by decide)]; exact zmc_b c (by omega)⟩ (f.k (Or.inr trivial))⟩)
theorem s_M_colour' {a b : Int} (h : zmFt σ a b) (hX : X (some (iZ 0)) σ) : MS G zm_M_colour 3 [zr G 58] σ X := by
  have e := h.1
  have e2 := h.2.2
  refine k_M_colour (s_M_isWord' h (Or.inl ⟨rfl, s_M_isWord' h (Or.inl ⟨rfl, s_M_isWord' h (Or.inl ⟨rfl, s_M_isWord' h (Or.inl ⟨rfl, ⟨by decide, fun z => absurd rfl z, fun _ => s_M_blame' h ⟨rfl, by omega, fun _ => hX, fun z => by omega⟩⟩⟩)⟩)⟩)⟩))
theorem s_M_ways' {a b : Int} (h : zmFt σ a b) (hX : X (some (iZ (-1))) σ) : MS G zm_M_ways 3 [zr G 58] σ X := by
  have e := h.1
  have e2 := h.2.2
  refine k_M_ways (s_M_isWord' h (Or.inl ⟨rfl, s_M_isWord' h (Or.inl ⟨rfl, s_M_isWord' h (Or.inl ⟨rfl, s_M_isWord' h (Or.inl ⟨rfl, ⟨by decide, fun z => absurd rfl z, fun _ => s_M_blame' h ⟨rfl, by omega, fun _ => hX, fun z => by omega⟩⟩⟩)⟩)⟩)⟩))
theorem s_M_forms' {a b : Int} (h : zmFt σ a b) (hX : X (some (iZ (-1))) σ) : MS G zm_M_forms 3 [zr G 58] σ X := by
  have e := h.1
  have e2 := h.2.2
  refine k_M_forms (s_M_isWord' h (Or.inl ⟨rfl, s_M_isWord' h (Or.inl ⟨rfl, ⟨by decide, fun z => absurd rfl z, fun _ => s_M_blame' h ⟨rfl, by omega, fun _ => hX, fun z => by omega⟩⟩⟩)⟩))
theorem s_M_number' {a b lo hi : Int} (h : zmFt σ a b) (hX : X (some (iZ 0)) σ) : MS G zm_M_number 3 [zr G 58, iZ lo, iZ hi] σ X :=
  k_M_number ⟨by have := h.1; have := h.2.2; omega, fun z => by have := h.1; have := h.2.2; omega, fun _ => hX⟩
end MFA
