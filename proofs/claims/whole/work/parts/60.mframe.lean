/-- what is open in a test, the latest first: its kind, whether an and, an or waits -/
def zfR (σ : zPH) : List (Int × Bool × Bool) → Prop
  | [] => True
  | x :: r => (σ 80 r.length = x.1 ∧ σ 81 r.length = (if x.2.1 then 1 else 0) ∧ σ 82 r.length = (if x.2.2 then 1 else 0)) ∧ zfR σ r
theorem zfR_to {σ σ' : zPH} {l : List (Int × Bool × Bool)} (h : zfR σ l) (hu : ∀ j, j < l.length → σ' 80 j = σ 80 j ∧ σ' 81 j = σ 81 j ∧ σ' 82 j = σ 82 j) : zfR σ' l := by
  induction l with
  | nil => trivial
  | cons x r ih =>
    obtain ⟨u1, u2, u3⟩ := hu r.length (by simp)
    exact ⟨by rw [u1, u2, u3]; exact h.1, ih h.2 (fun j hj => hu j (by simp; omega))⟩
section MF
variable {G : zG} {σ W : zPH} {X : zX}
theorem s_M_pushes {k : Int} {l : List (Int × Bool × Bool)} (hl : σ 58 39 = (l.length : Int)) (h12 : l.length < 12) (h : zfR σ l) (hX : ∀ σ', σ' 58 39 = ((l.length + 1 : Nat) : Int) → zfR σ' ((k, false, false) :: l) → (∀ q, q ≠ 58 → q ≠ 80 → q ≠ 81 → q ≠ 82 → σ' q = σ q) → (∀ j, j ≠ 39 → σ' 58 j = σ 58 j) → X none σ') : MS G zm_M_pushes 0 [zr G 58, iZ k] σ X := by
  refine k_M_pushes ?_
  unfold w_M_pushes
  rw [hl, Int.toNat_natCast]
  refine ⟨by omega, ?_⟩
  rintro σ1 e1
  have k1 : σ1 58 = σ 58 := by rw [e1, zupd_row (by decide)]
  rw [k1, hl, Int.toNat_natCast]
  refine ⟨by omega, ?_⟩
  rintro σ2 e2
  have k2 : σ2 58 = σ 58 := by rw [e2, zupd_row (by decide), k1]
  rw [k2, hl, Int.toNat_natCast]
  refine ⟨by omega, ?_⟩
  rintro σ3 e3
  have k3 : σ3 58 = σ 58 := by rw [e3, zupd_row (by decide), k2]
  rw [k3, hl]
  rintro σ4 e4
  refine hX σ4 (by rw [e4, zupd_same]; rfl) ⟨⟨?_, ?_, ?_⟩, zfR_to h (fun j hj => ⟨?_, ?_, ?_⟩)⟩ (fun q a b c d => by rw [e4, zupd_row a, e3, zupd_row d, e2, zupd_row c, e1, zupd_row b]) (fun j hj => by rw [e4, zupd_nk hj, k3])
  · rw [e4, zupd_row (by decide), e3, zupd_row (by decide), e2, zupd_row (by decide), e1, zupd_same]
  · rw [e4, zupd_row (by decide), e3, zupd_row (by decide), e2, zupd_same]; rfl
  · rw [e4, zupd_row (by decide), e3, zupd_same]; rfl
  · rw [e4, zupd_row (by decide), e3, zupd_row (by decide), e2, zupd_row (by decide), e1, zupd_nk (by omega)]
  · rw [e4, zupd_row (by decide), e3, zupd_row (by decide), e2, zupd_nk (by omega), e1, zupd_row (by decide)]
  · rw [e4, zupd_row (by decide), e3, zupd_nk (by omega), e2, zupd_row (by decide), e1, zupd_row (by decide)]
/-- code and what waits have changed -/
def zfj (i : Nat) (σ σ' : zPH) : Prop := (∀ q, q ≠ 58 → q ≠ 75 → q ≠ 76 → q ≠ 77 → q ≠ 80 → q ≠ 81 → q ≠ 82 → σ' q = σ q) ∧ (∀ k, k ≠ 34 → k ≠ 39 → σ' 58 k = σ 58 k) ∧ zfo i σ σ'
def yjo (W : zPH) (a o : Bool) : zPH := if o then yadd (if a then yadd W 2 0 else W) 3 0 else if a then yadd W 2 0 else W
theorem zmc_u {σ σ' W : zPH} {i r j : Nat} {x : Int} (h : zmc σ W i) (e : σ' = zupd σ r j x) (hr : r = 80 ∨ r = 81 ∨ r = 82) : zmc σ' W i := by
  unfold zmc at *
  rw [e, zupd_row (by omega), zupd_row (by omega), zupd_row (by omega), zupd_row (by omega), zupd_row (by omega)]
  exact h
theorem s_M_joins {ors k : Int} {a o : Bool} {l : List (Int × Bool × Bool)} {i : Nat} (ho : zI ors) (hl : σ 58 39 = ((l.length + 1 : Nat) : Int)) (h12 : l.length < 12) (h : zfR σ ((k, a, o) :: l)) (hc : zmc σ W i) (hi : σ 58 35 = (i : Int)) (hi1 : i ≤ 1) (hb : W 0 7 + 2 ≤ 1600) (hX : ∀ σ', zfR σ' ((k, false, if ors = 0 then o else false) :: l) → zmc σ' (yjo W a (if ors = 0 then false else o)) i → zfj i σ σ' → σ' 58 39 = σ 58 39 → X none σ') : MS G zm_M_joins 1 [zr G 58, iZ ors] σ X := by
  obtain ⟨⟨f1, f2, f3⟩, fr⟩ := h
  have f1' : σ 80 l.length = k := f1
  have f2' : σ 81 l.length = if a then 1 else 0 := f2
  have f3' : σ 82 l.length = if o then 1 else 0 := f3
  have main : ∀ (σ1 : zPH) (W1 : zPH), W1 = (if a then yadd W 2 0 else W) → zmc σ1 W1 i → zfc i σ σ1 → b_M_joins_22 G ors X (l.length : Int) σ1 := by
    intro σ1 W1 hW1 c1 F1
    have hb1 : W1 0 7 + 1 ≤ 1600 := by
      rw [hW1]; split
      · rw [(yadd_v W 2 0).1]; omega
      · omega
    refine ⟨by omega, ?_⟩
    rw [Int.toNat_natCast]
    rintro σ2 e2
    have r2 : ∀ q, q ≠ 81 → σ2 q = σ1 q := fun q hq => by rw [e2, zupd_row hq]
    have c2 := zmc_u c1 e2 (by decide)
    have old : ∀ σ' : zPH, (∀ q j, (q = 80 ∨ ((q = 81 ∨ q = 82) ∧ j ≠ l.length)) → σ' q j = σ q j) → zfR σ' l := fun σ' hσ => zfR_to fr (fun j hj => ⟨hσ 80 j (Or.inl rfl), hσ 81 j (Or.inr ⟨Or.inl rfl, by omega⟩), hσ 82 j (Or.inr ⟨Or.inr rfl, by omega⟩)⟩)
    refine ⟨ho, fun z => ⟨by omega, by rw [r2 82 (by decide), F1.1 82 (by decide) (by decide) (by decide) (by decide), f3']; split <;> decide, fun y => ⟨by omega, ?_⟩, fun y => ?_⟩, fun z => ?_⟩
    · rintro σ3 e3
      have ho0 : o = false := by
        rw [r2 82 (by decide), F1.1 82 (by decide) (by decide) (by decide) (by decide), f3'] at y
        cases o <;> simp at y ⊢
      have r3 : ∀ q, q ≠ 81 → q ≠ 82 → σ3 q = σ1 q := fun q a b => by rw [e3, zupd_row b, r2 q a]
      refine hX σ3 ⟨⟨?_, ?_, ?_⟩, old σ3 (fun q j hq => ?_)⟩ ?_ ⟨fun q a b c d e f g => by rw [r3 q f g, F1.1 q a b c d], fun q a _ => by rw [r3 58 (by decide) (by decide), F1.2.1 q a], fun q a k b => by rw [r3 q (by omega) (by omega), F1.2.2 q a k b]⟩ (by rw [r3 58 (by decide) (by decide), F1.2.1 39 (by decide)])
      · rw [r3 80 (by decide) (by decide), F1.1 80 (by decide) (by decide) (by decide) (by decide)]; exact f1'
      · rw [e3, zupd_row (by decide), e2, zupd_same]; rfl
      · rw [e3, zupd_same, if_neg z]; rfl
      · rcases hq with rfl | ⟨rfl | rfl, hj⟩
        · rw [r3 80 (by decide) (by decide), F1.1 80 (by decide) (by decide) (by decide) (by decide)]
        · rw [e3, zupd_row (by decide), e2, zupd_nk hj, F1.1 81 (by decide) (by decide) (by decide) (by decide)]
        · rw [e3, zupd_nk hj, r2 82 (by decide), F1.1 82 (by decide) (by decide) (by decide) (by decide)]
      · have := zmc_u c2 e3 (by decide)
        unfold yjo
        rw [if_neg z, ho0]
        simp only [if_neg (show ¬ (false = true) by decide)]
        rw [hW1] at this; exact this
    · have ho1 : o = true := by
        rw [r2 82 (by decide), F1.1 82 (by decide) (by decide) (by decide) (by decide), f3'] at y
        cases o <;> simp at y ⊢
      refine s_M_add c2 (by rw [r2 58 (by decide), F1.2.1 35 (by decide)]; exact hi) hi1 (by omega) (fun w => absurd w (by decide)) (fun σ3 c3 F3 => ⟨rfl, by omega, ?_⟩)
      rintro σ4 e4
      have r4 : ∀ q, q ≠ 58 → q ≠ 75 → q ≠ 76 → q ≠ 77 → q ≠ 81 → q ≠ 82 → σ4 q = σ q := fun q a b c d e f => by rw [e4, zupd_row f, F3.1 q a b c d, r2 q e, F1.1 q a b c d]
      have k4 : ∀ q, q ≠ 34 → σ4 58 q = σ 58 q := fun q a => by rw [e4, zupd_row (by decide), F3.2.1 q a, r2 58 (by decide), F1.2.1 q a]
      refine hX σ4 ⟨⟨?_, ?_, ?_⟩, old σ4 (fun q j hq => ?_)⟩ ?_ ⟨fun q a b c d e f g => r4 q a b c d f g, fun q a _ => k4 q a, fun q a k b => by rw [e4, zupd_row (by omega), F3.2.2 q a k b, r2 q (by omega), F1.2.2 q a k b]⟩ (k4 39 (by decide))
      · rw [r4 80 (by decide) (by decide) (by decide) (by decide) (by decide) (by decide)]; exact f1'
      · rw [e4, zupd_row (by decide), F3.1 81 (by decide) (by decide) (by decide) (by decide), e2, zupd_same]; rfl
      · rw [e4, zupd_same, if_neg z]; rfl
      · rcases hq with rfl | ⟨rfl | rfl, hj⟩
        · rw [r4 80 (by decide) (by decide) (by decide) (by decide) (by decide) (by decide)]
        · rw [e4, zupd_row (by decide), F3.1 81 (by decide) (by decide) (by decide) (by decide), e2, zupd_nk hj, F1.1 81 (by decide) (by decide) (by decide) (by decide)]
        · rw [e4, zupd_nk hj, F3.1 82 (by decide) (by decide) (by decide) (by decide), r2 82 (by decide), F1.1 82 (by decide) (by decide) (by decide) (by decide)]
      · have := zmc_u c3 e4 (by decide)
        unfold yjo
        rw [if_neg z, ho1, if_pos rfl, ← hW1]; exact this
    · refine hX σ2 ⟨⟨?_, ?_, ?_⟩, old σ2 (fun q j hq => ?_)⟩ ?_ ⟨fun q a b c d e f g => by rw [r2 q f, F1.1 q a b c d], fun q a _ => by rw [r2 58 (by decide), F1.2.1 q a], fun q a k b => by rw [r2 q (by omega), F1.2.2 q a k b]⟩ (by rw [r2 58 (by decide), F1.2.1 39 (by decide)])
      · rw [r2 80 (by decide), F1.1 80 (by decide) (by decide) (by decide) (by decide)]; exact f1'
      · rw [e2, zupd_same]; rfl
      · rw [r2 82 (by decide), F1.1 82 (by decide) (by decide) (by decide) (by decide), if_pos z]; exact f3'
      · rcases hq with rfl | ⟨rfl | rfl, hj⟩
        · rw [r2 80 (by decide), F1.1 80 (by decide) (by decide) (by decide) (by decide)]
        · rw [e2, zupd_nk hj, F1.1 81 (by decide) (by decide) (by decide) (by decide)]
        · rw [r2 82 (by decide), F1.1 82 (by decide) (by decide) (by decide) (by decide)]
      · unfold yjo
        rw [if_pos z]
        simp only [if_neg (show ¬ (false = true) by decide)]
        rw [← hW1]; exact c2
  refine k_M_joins ?_
  rintro x2 e2
  have hx2 : x2 = (l.length : Int) := by rw [e2, hl]; omega
  subst hx2
  clear e2
  rw [Int.toNat_natCast, f2']
  refine ⟨by omega, by split <;> decide, fun z => ?_, fun z => ?_⟩
  · have ha : a = false := by cases a <;> simp at z ⊢
    exact main σ W (by rw [ha]; rfl) hc ⟨fun _ _ _ _ _ => rfl, fun _ _ => rfl, fun _ _ _ _ => rfl⟩
  · have ha : a = true := by cases a <;> simp at z ⊢
    exact s_M_add hc hi hi1 (by omega) (fun w => absurd w (by decide)) (fun σ1 c1 F1 => ⟨rfl, main σ1 _ (by rw [ha]; rfl) c1 F1⟩)
end MF
