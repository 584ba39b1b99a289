section CT
variable {G : zG} {σ V D : zPH} {X : zX} {t u : Nat}
/-- one byte comes behind the tape -/
def zpb (D : zPH) (x : Int) : zPH := zupd (zupd D 4 (D 0 3).toNat x) 0 3 (D 0 3 + 1)
def zpk (D : zPH) (a : Int) : Nat → zPH
  | 0 => D
  | i + 1 => zpb (zpk D a i) (a / 2 ^ (24 - 8 * i) % 256)
theorem zpb_v (D : zPH) (x : Int) : zpb D x 0 3 = D 0 3 + 1 ∧ (∀ k, k ≠ 3 → zpb D x 0 k = D 0 k) ∧ (∀ r, r ≠ 0 → r ≠ 4 → zpb D x r = D r) ∧ ∀ k, zpb D x 4 k = if k = (D 0 3).toNat then x else D 4 k := by
  refine ⟨by unfold zpb; rw [zupd_same], fun k h => by unfold zpb; rw [zupd_nk h, zupd_row (by decide)], fun r h1 h2 => by unfold zpb; rw [zupd_row h1, zupd_row h2], fun k => ?_⟩
  unfold zpb
  rw [zupd_row (by decide)]
  split
  · rename_i q; rw [q, zupd_same]
  · rename_i q; rw [zupd_nk q]
theorem zpb_D {x : Int} (hB : zBD V D) (hx : 0 ≤ x ∧ x < 256) (hl : D 0 3 < 1600) : zBD V (zpb D x) := by
  obtain ⟨v1, v2, v3, v4⟩ := zpb_v D x
  obtain ⟨hV, ht, h1, h2, h3, h4, h5, h6, h7, h8, h9⟩ := hB
  refine ⟨hV, ht, by rw [v2 0 (by decide)]; exact h1, by rw [v2 1 (by decide)]; exact h2, by rw [v2 2 (by decide)]; exact h3, by rw [v1]; omega, by rw [v2 4 (by decide), v2 5 (by decide)]; exact h5, by rw [v2 6 (by decide)]; exact h6, by rw [v3 1 (by decide) (by decide)]; exact h7, by rw [v2 2 (by decide), v3 2 (by decide) (by decide), v3 3 (by decide) (by decide)]; exact h8, fun j => ?_⟩
  rw [v4]; split
  · exact hx
  · exact h9 j
theorem zpb_C {σ1 σ2 : zPH} {x : Int} (hB : zBD V D) (h : zCI σ V D t u) (hl : D 0 3 < 1600) (e1 : σ1 = zupd σ 1 (σ 0 1).toNat x) (e2 : σ2 = zupd σ1 0 1 (σ1 0 1 + 1)) : zCI σ2 V (zpb D x) t u ∧ zfB σ σ2 := by
  obtain ⟨v1, v2, v3, v4⟩ := zpb_v D x
  obtain ⟨⟨d1, d2, d3, d4, d5, d6, d7⟩, w, p1, tp, im⟩ := id h.2.2.2.2
  have r : ∀ q, q ≠ 0 → q ≠ 1 → σ2 q = σ q := fun q h1 h2 => by rw [e2, zupd_row h1, e1, zupd_row h2]
  have r0 : ∀ k, k ≠ 1 → σ2 0 k = σ 0 k := fun k h1 => by rw [e2, zupd_nk h1, e1, zupd_row (by decide)]
  have e01 : σ1 0 1 = D 0 3 := by rw [e1, zupd_row (by decide)]; exact d4
  refine ⟨zCI_dyn h (fun q h1 h2 => r q (by omega) (by omega)) (fun q h1 h2 => r q (by omega) (by omega)) (r0 3 (by decide)) (by rw [r 4 (by decide) (by decide)]) ?_, fun q hq => r q (by omega) (by omega)⟩
  refine ⟨⟨by rw [v2 0 (by decide), r0 7 (by decide)]; exact d1, by rw [v2 1 (by decide), r0 8 (by decide)]; exact d2, by rw [v2 2 (by decide), r 29 (by decide) (by decide)]; exact d3, by rw [v1, e2, zupd_same, e01], by rw [v2 4 (by decide), r 4 (by decide) (by decide)]; exact d5, by rw [v2 5 (by decide), r 4 (by decide) (by decide)]; exact d6, by rw [v2 6 (by decide), r0 13 (by decide)]; exact d7⟩, ?_, ?_, fun j => ?_, ?_⟩
  · rw [r0 9 (by decide), r0 10 (by decide), v3 1 (by decide) (by decide)]; exact w
  · rw [v2 2 (by decide), v3 2 (by decide) (by decide), v3 3 (by decide) (by decide), r 30 (by decide) (by decide), r 31 (by decide) (by decide)]; exact p1
  · rw [v4, e2, zupd_row (by decide), e1, d4]
    split
    · rename_i q; rw [q, zupd_same]
    · rename_i q; rw [zupd_nk q]; exact tp j
  · rw [v2 6 (by decide), v3 5 (by decide) (by decide), r 3 (by decide) (by decide)]; exact im
theorem zpk_D {a : Int} (hB : zBD V D) (i : Nat) (hl : D 0 3 + i ≤ 1600) : zBD V (zpk D a i) ∧ zpk D a i 0 3 = D 0 3 + i := by
  induction i with
  | zero => exact ⟨hB, (Int.add_zero _).symm⟩
  | succ i ih =>
    obtain ⟨b, e⟩ := ih (by omega)
    refine ⟨zpb_D b (by omega) (by rw [e]; omega), ?_⟩
    show zpb _ _ 0 3 = _
    rw [(zpb_v _ _).1, e]; omega
theorem s_B_putOnTape (hB : zBD V D) (h : zCI σ V D t u) {a : Int} (ha : zI a) (hl : D 0 3 + 4 ≤ 1600) (hX : ∀ σ', zCI σ' V (zpk D a 4) t u → zfB σ σ' → X none σ') : MS G zm_B_putOnTape 0 [zr G 0, iZ a] σ X := by
  have h3 := hB.2.2.2.2.2.1
  refine k_B_putOnTape ?_
  refine zLP1_ind (fun x2 σ2 => ∃ i : Nat, i ≤ 4 ∧ x2 = 24 - 8 * (i : Int) ∧ zCI σ2 V (zpk D a i) t u ∧ zfB σ σ2) (fun x2 _ => (x2 + 8).toNat) ?_ ⟨0, by decide, rfl, h, zfB.rf⟩
  rintro K x2 σ2 ⟨i, hi, rfl, c2, f2⟩ hK
  obtain ⟨b2, e2⟩ := zpk_D (a := a) hB i (by omega)
  refine ⟨by omega, fun q => ?_, fun q => ?_⟩
  · have : i = 4 := by omega
    subst this
    exact hX σ2 c2 f2
  · have d4 := c2.2.2.2.2.1.2.2.2.1
    rw [e2] at d4
    rw [d4]
    refine ⟨by omega, fun q2 => by omega, fun q2 => ⟨by omega, by omega, ?_⟩⟩
    rintro σ32 e32 σ40 e40
    rw [← d4] at e32
    obtain ⟨c3, f3⟩ := zpb_C (x := a / 2 ^ (24 - 8 * i) % 256) b2 c2 (by rw [e2]; omega) (by rw [e32]; rw [show (24 - 8 * (i : Int)).toNat = 24 - 8 * i by omega]) e40
    exact hK _ _ ⟨i + 1, by omega, by omega, c3, f2.trans f3⟩ (by omega)
/-- twenty bytes more -/
def zfed (D : zPH) (a b c d e : Int) : zPH := zpk (zpk (zpk (zpk (zpk D a 4) b 4) c 4) d 4) e 4
/-- what feed() answers -/
def zFee (D : zPH) (a b c d e x : Int) (D' : zPH) : Prop := (D 0 3 + 20 ≤ 1600 ∧ D' = zfed D a b c d e ∧ x = D 0 3 + 20) ∨ (¬ D 0 3 + 20 ≤ 1600 ∧ D' = D ∧ x = -1)
theorem zfed_D {a b c d e : Int} (hB : zBD V D) (hl : D 0 3 + 20 ≤ 1600) : zBD V (zfed D a b c d e) ∧ zfed D a b c d e 0 3 = D 0 3 + 20 := by
  obtain ⟨b1, e1⟩ := zpk_D (a := a) hB 4 (by omega)
  obtain ⟨b2, e2⟩ := zpk_D (a := b) b1 4 (by omega)
  obtain ⟨b3, e3⟩ := zpk_D (a := c) b2 4 (by omega)
  obtain ⟨b4, e4⟩ := zpk_D (a := d) b3 4 (by omega)
  obtain ⟨b5, e5⟩ := zpk_D (a := e) b4 4 (by omega)
  exact ⟨b5, by unfold zfed; omega⟩
theorem zFee_D {D' : zPH} {a b c d e x : Int} (hB : zBD V D) (h : zFee D a b c d e x D') : zBD V D' := by
  rcases h with ⟨q, rfl, -⟩ | ⟨-, rfl, -⟩
  · exact (zfed_D hB q).1
  · exact hB
theorem s_B_feed (hB : zBD V D) (h : zCI σ V D t u) {a b c d e : Int} (ha : zI a) (hb : zI b) (hc : zI c) (hd : zI d) (he : zI e) (hX : ∀ σ' x D', zFee D a b c d e x D' → zCI σ' V D' t u → zfB σ σ' → X (some (iZ x)) σ') : MS G zm_B_feed 1 [zr G 0, iZ a, iZ b, iZ c, iZ d, iZ e] σ X := by
  have h3 := hB.2.2.2.2.2.1
  have d4 := h.2.2.2.2.1.2.2.2.1
  refine k_B_feed ⟨by omega, fun q => ?_, fun q => hX σ _ _ (Or.inr ⟨by omega, rfl, rfl⟩) h zfB.rf⟩
  obtain ⟨b1, e1⟩ := zpk_D (a := a) hB 4 (by omega)
  obtain ⟨b2, e2⟩ := zpk_D (a := b) b1 4 (by omega)
  obtain ⟨b3, e3⟩ := zpk_D (a := c) b2 4 (by omega)
  obtain ⟨b4, e4⟩ := zpk_D (a := d) b3 4 (by omega)
  obtain ⟨b5, e5⟩ := zpk_D (a := e) b4 4 (by omega)
  refine s_B_putOnTape hB h ha (by omega) (fun σ1 c1 f1 => ⟨rfl, ?_⟩)
  refine s_B_putOnTape b1 c1 hb (by omega) (fun σ2 c2 f2 => ⟨rfl, ?_⟩)
  refine s_B_putOnTape b2 c2 hc (by omega) (fun σ3 c3 f3 => ⟨rfl, ?_⟩)
  refine s_B_putOnTape b3 c3 hd (by omega) (fun σ4 c4 f4 => ⟨rfl, ?_⟩)
  refine s_B_putOnTape b4 c4 he (by omega) (fun σ5 c5 f5 => ⟨rfl, ?_⟩)
  rw [c5.2.2.2.2.1.2.2.2.1, e5, e4, e3, e2, e1]
  exact hX σ5 _ _ (Or.inl ⟨by omega, rfl, by omega⟩) c5 ((((f1.trans f2).trans f3).trans f4).trans f5)
/-- what end() answers -/
def zEnf (D : zPH) (n x : Int) (D' : zPH) : Prop := ((0 ≤ n ∧ n ≤ D 0 3) ∧ D' = zupd D 0 3 n ∧ x = 1) ∨ (¬ (0 ≤ n ∧ n ≤ D 0 3) ∧ D' = D ∧ x = 0)
theorem zlen_D {n : Int} (hB : zBD V D) (hn : 0 ≤ n ∧ n ≤ 1600) : zBD V (zupd D 0 3 n) := by
  obtain ⟨hV, ht, h1, h2, h3, h4, h5, h6, h7, h8, h9⟩ := hB
  have k0 : ∀ k, k ≠ 3 → zupd D 0 3 n 0 k = D 0 k := fun k hk => zupd_nk hk
  have rr : ∀ r, r ≠ 0 → zupd D 0 3 n r = D r := fun r hr => zupd_row hr
  exact ⟨hV, ht, by rw [k0 0 (by decide)]; exact h1, by rw [k0 1 (by decide)]; exact h2, by rw [k0 2 (by decide)]; exact h3, by rw [zupd_same]; exact hn, by rw [k0 4 (by decide), k0 5 (by decide)]; exact h5, by rw [k0 6 (by decide)]; exact h6, by rw [rr 1 (by decide)]; exact h7, by rw [k0 2 (by decide), rr 2 (by decide), rr 3 (by decide)]; exact h8, by rw [rr 4 (by decide)]; exact h9⟩
theorem zlen_C {σ1 : zPH} {n : Int} (h : zCI σ V D t u) (e1 : σ1 = zupd σ 0 1 n) : zCI σ1 V (zupd D 0 3 n) t u ∧ zfB σ σ1 := by
  obtain ⟨⟨d1, d2, d3, d4, d5, d6, d7⟩, w, p1, tp, im⟩ := id h.2.2.2.2
  have k0 : ∀ k, k ≠ 3 → zupd D 0 3 n 0 k = D 0 k := fun k hk => zupd_nk hk
  have rr : ∀ r, r ≠ 0 → zupd D 0 3 n r = D r := fun r hr => zupd_row hr
  have r : ∀ q, q ≠ 0 → σ1 q = σ q := fun q h1 => by rw [e1, zupd_row h1]
  have r0 : ∀ k, k ≠ 1 → σ1 0 k = σ 0 k := fun k h1 => by rw [e1, zupd_nk h1]
  refine ⟨zCI_dyn h (fun q h1 h2 => r q (by omega)) (fun q h1 h2 => r q (by omega)) (r0 3 (by decide)) (by rw [r 4 (by decide)]) ?_, fun q hq => r q (by omega)⟩
  refine ⟨⟨by rw [k0 0 (by decide), r0 7 (by decide)]; exact d1, by rw [k0 1 (by decide), r0 8 (by decide)]; exact d2, by rw [k0 2 (by decide), r 29 (by decide)]; exact d3, by rw [zupd_same, e1, zupd_same], by rw [k0 4 (by decide), r 4 (by decide)]; exact d5, by rw [k0 5 (by decide), r 4 (by decide)]; exact d6, by rw [k0 6 (by decide), r0 13 (by decide)]; exact d7⟩, ?_, ?_, ?_, ?_⟩
  · rw [r0 9 (by decide), r0 10 (by decide), rr 1 (by decide)]; exact w
  · rw [k0 2 (by decide), rr 2 (by decide), rr 3 (by decide), r 30 (by decide), r 31 (by decide)]; exact p1
  · rw [rr 4 (by decide), r 1 (by decide)]; exact tp
  · rw [k0 6 (by decide), rr 5 (by decide), r 3 (by decide)]; exact im
theorem zEnf_D {D' : zPH} {n x : Int} (hB : zBD V D) (h : zEnf D n x D') : zBD V D' := by
  have := hB.2.2.2.2.2.1
  rcases h with ⟨q, rfl, -⟩ | ⟨-, rfl, -⟩
  · exact zlen_D hB (by omega)
  · exact hB
theorem s_B_end (h : zCI σ V D t u) (hB : zBD V D) {n : Int} (hn : zI n) (hX : ∀ σ' x D', zEnf D n x D' → zCI σ' V D' t u → zfB σ σ' → X (some (iZ x)) σ') : MS G zm_B_end 0 [zr G 0, iZ n] σ X := by
  have h3 := hB.2.2.2.2.2.1
  have d4 := h.2.2.2.2.1.2.2.2.1
  refine k_B_end ⟨hn, fun q => hX σ _ _ (Or.inr ⟨by omega, rfl, rfl⟩) h zfB.rf, fun q => ⟨⟨hn, by omega⟩, fun q2 => ?_, fun q2 => hX σ _ _ (Or.inr ⟨by omega, rfl, rfl⟩) h zfB.rf⟩⟩
  rintro σ1 e1
  obtain ⟨c1, f1⟩ := zlen_C h e1
  exact hX σ1 _ _ (Or.inl ⟨by omega, rfl, rfl⟩) c1 f1
end CT
