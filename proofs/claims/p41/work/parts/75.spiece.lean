section YQ
variable {T : Nat → Int} {n p p' : Nat} {W W' : zPH}
/-- what a piece leaves -/
def yAft (T : Nat → Int) (n : Nat) (W : zPH) (p : Nat) (W' : zPH) (p' : Nat) : Prop := yOk W' ∧ yBp W' p' ∧ (p < p' ∧ p' ≤ n) ∧ W' 0 6 = W 0 6 + 1
theorem yAft_sq {s f w : Int} {p1 : Nat} (h : yOk W) (hb : yBp W p) (hp : p < p1 ∧ p1 ≤ n) (hs : 1 ≤ s ∧ s ≤ 7) (hc : ypc W s f w) (e : ySq T n (fun q W p => .inl (yput W s f w q, p)) W p1 = .inl (W', p')) : yAft T n W p W' p' := by
  obtain ⟨q, p2, a, b, c, d⟩ := ySq_i h.1.2.1 hp.2 e
  simp only [Sum.inl.injEq, Prod.mk.injEq] at d
  obtain ⟨d1, d2⟩ := d
  subst d1 d2
  obtain ⟨x, y, z⟩ := yOk_put (W := W) (s := s) (f := f) (w := w) (q := q) h.1 h.2.1 h.2.2.1 h.2.2.2 hs a b hc
  exact ⟨x, y _ (hb.le (by omega)), by omega, z⟩
theorem yAft_move {s f : Int} {p1 p2 : Nat} {W1 : zPH} (hn : n ≤ 1600) (h : yOk W) (hb : yBp W p) (hp : p < p1 ∧ p1 ≤ n) (hs : s = 8 ∨ s = 9) (hf : (s = 9 → f = 0 ∨ f = 1) ∧ (s = 8 → f = 0)) (h6 : W 0 4 < 6) (e1 : yTest T n (yFact T n 6) (yfrom W) p1 = .inl (W1, p2)) (e : ySq T n (fun q W p => .inl (yput W s f (-1) q, p)) W1 p2 = .inl (W', p')) : yAft T n W p W' p' := by
  have f07 : yfrom W 0 7 = W 0 7 := by rw [yfrom_r W (by decide)]
  have h07 := h.2.2.2.1
  have hT := yTest_b T hn (yFact_b T hn 6) (by rw [f07]; exact h07) (by omega) hp.2 e1
  obtain ⟨b1, z⟩ := hT
  have z0 := z.2.1
  have zr := z.1
  have hM : yWm W1 := by
    have := h.1.2.1
    unfold yWm at this ⊢
    rw [z0 0 (by decide), z0 1 (by decide), z0 2 (by decide), z0 3 (by decide), z0 4 (by decide), z0 5 (by decide), zr 1 (by decide) (by decide) (by decide) (by decide) (by decide) (by decide), yfrom_r W (by decide), yfrom_r W (by decide)]
    exact this
  obtain ⟨q, p3, a, b, c, d⟩ := ySq_i hM b1.2 e
  simp only [Sum.inl.injEq, Prod.mk.injEq] at d
  obtain ⟨d1, d2⟩ := d
  subst d1 d2
  have d0 : ydp (W 0 7).toNat (yfrom W) = 0 := by unfold ydp; rw [f07, Nat.sub_self]; rfl
  obtain ⟨r1, r2⟩ := yTest_s T hn (yFact_b T hn 6) (yFact_s T hn 6) (by omega) (f := (W 0 7).toNat) (by rw [f07]; omega) (by omega) hp.2 d0 (by decide) (by decide) e1
  have hg : ygr s = 4 := by unfold ygr; rw [if_neg (by omega), if_neg (by omega), if_pos hs]
  have we := ywe_r T p1
  obtain ⟨x, y, zz⟩ := yOk_move (p := p) (p' := p3) (W := W) (W1 := W1) (s := s) (f := f) (w := -1) (q := q) h z (by omega) (by omega) r1 (by omega) hb hs a b ⟨fun y => by omega, fun y => hf.1 (by omega), fun y => by omega, fun y => by omega, hf.2, fun y => by omega, fun _ => by rw [hg, z0 4 (by decide), yfrom_r W (by decide)]; exact h6⟩
  exact ⟨x, y, by omega, zz⟩
theorem yPiece_ok (hn : n ≤ 1600) (h : yOk W) (hb : yBp W p) (hp : p ≤ n) (e : yPiece T n W p = .inl (W', p')) : yAft T n W p W' p' := by
  unfold yPiece at e
  split at e
  · exact absurd e (by unfold yNo; exact fun z => nomatch z)
  rename_i hk
  obtain ⟨k0, k1, k9⟩ := Decidable.not_not.mp hk
  have h1 := ztE_p hp (show ztK T n p ≠ 4 by omega)
  have h2 := (ztE_s (T := T) hp).2.1
  split at e
  · exact nomatch e
  rename_i hcnt
  obtain ⟨g1, g2, g3, g4, g5, -⟩ := ygr_s ⟨k1, k9⟩
  have cm : ygr (ztV T n p) ≠ 8 → W 0 (ygr (ztV T n p)) < ymx (ygr (ztV T n p)) := fun z => by
    by_cases y : ymx (ygr (ztV T n p)) ≤ W 0 (ygr (ztV T n p))
    · exact absurd ⟨z, y⟩ hcnt
    · omega
  split at e
  · rename_i v
    rw [v] at cm
    obtain ⟨a0, a1, a2, e⟩ := yCh_i e
    have h3 := (ztE_s (T := T) h2).2.1
    have h4 := ztE_p h2 (show ztK T n (ztE T n p) ≠ 4 by omega)
    obtain ⟨b0, b1, b2, e⟩ := yCh_i e
    have h5 := (ztE_s (T := T) h3).2.1
    have h6 := ztE_p h3 (show ztK T n (ztE T n (ztE T n p)) ≠ 4 by omega)
    have hc := yco_r (x := ztV T n (ztE T n p) - 12) (by omega)
    exact yAft_sq h hb ⟨by omega, h5⟩ (by decide) ⟨fun _ => by omega, fun y => by omega, fun y => by omega, fun y => by omega, fun y => by omega, fun y => by omega, cm⟩ e
  split at e
  · rename_i v0 v
    obtain ⟨a0, a1, a2, e⟩ := yCh_i e
    have h3 := (ztE_s (T := T) h2).2.1
    have h4 := ztE_p h2 (show ztK T n (ztE T n p) ≠ 4 by omega)
    exact yAft_sq h hb ⟨by omega, h3⟩ (by omega) ⟨fun y => by omega, fun y => by omega, fun y => by omega, fun y => by omega, fun y => by omega, fun y => by omega, cm⟩ e
  split at e
  · rename_i v0 v1 v
    rw [v] at cm
    obtain ⟨a0, a1, a2, e⟩ := yCh_i e
    have h3 := (ztE_s (T := T) h2).2.1
    have h4 := ztE_p h2 (show ztK T n (ztE T n p) ≠ 4 by omega)
    have hc := yco_r (x := ztV T n (ztE T n p) - 12) (by omega)
    exact yAft_sq h hb ⟨by omega, h3⟩ (by decide) ⟨fun y => by omega, fun y => by omega, fun y => by omega, fun y => by omega, fun y => by omega, fun y => by omega, cm⟩ e
  split at e
  · rename_i v0 v1 v2 v
    exact yAft_sq h hb ⟨by omega, h2⟩ (by omega) ⟨fun y => by omega, fun y => by omega, fun y => by omega, fun y => by omega, fun y => by omega, fun y => by omega, cm⟩ e
  split at e
  · rename_i v0 v1 v2 v3 v
    rw [v] at cm
    obtain ⟨W1, p1, e1, e2⟩ := ybn_i e
    unfold yName at e1
    split at e1
    · exact absurd e1 (by unfold yNo; exact fun z => nomatch z)
    split at e1
    · exact nomatch e1
    rename_i q1 q2
    simp only [Sum.inl.injEq, Prod.mk.injEq] at e1
    obtain ⟨e3, e4⟩ := e1
    have h3 := (ztE_s (T := T) h2).2.1
    have h4 := ztE_p h2 (show ztK T n (ztE T n p) ≠ 4 by omega)
    have hv := ztV_n h2 (show ztK T n (ztE T n p) = 1 by omega)
    have r1 : ∀ r, r ≠ 20 → W1 r = W r := fun r hr => by rw [← e3, zupd_row hr]
    have h1A : yOa W1 := yOa_to h.1 (fun r hr => r1 r (by omega)) (fun k _ => by rw [r1 0 (by decide)]) (fun e he => by rw [← e3, zupd_nk (by omega)])
    have h1 : yOk W1 := by
      refine ⟨h1A, ?_, ?_, ?_⟩
      · intro m hm
        rw [r1 0 (by decide)] at hm
        obtain ⟨a, b, c⟩ := h.2.1 m hm
        rw [r1 0 (by decide), r1 7 (by decide), r1 8 (by decide)]
        exact ⟨a, b, fun j hj => yrj_c (W := W) (fun r k hr _ => by rw [r1 r (by omega)]) (c.1 j hj), by rw [zdp_c (W := W) (fun j _ => by rw [r1 9 (by decide)])]; exact c.2⟩
      · have := h.2.2.1
        unfold yTl at this ⊢
        rw [r1 0 (by decide), r1 8 (by decide)]; exact this
      · have := h.2.2.2
        unfold yCs at this ⊢
        rw [r1 0 (by decide), r1 9 (by decide), r1 10 (by decide), r1 13 (by decide), r1 14 (by decide)]; exact this
    have hb1 : yBp W1 p := by
      unfold yBp at hb ⊢
      rw [r1 0 (by decide), ysn_c (W := W) (fun k _ => by rw [r1 9 (by decide)])]; exact hb
    have := yAft_sq (s := 7) (f := -1) (w := -1) (p1 := p1) h1 hb1 ⟨by omega, by omega⟩ (by decide) ⟨fun y => by omega, fun y => by omega, fun y => by omega, fun y => rfl, fun y => by omega, fun _ => by rw [r1 0 (by decide), ← e3, zupd_same]; exact hv, by rw [r1 0 (by decide)]; exact cm⟩ e2
    unfold yAft at this ⊢
    rw [r1 0 (by decide)] at this; exact this
  split at e
  · rename_i v0 v1 v2 v3 v4 v
    rw [v] at cm
    obtain ⟨W1, p1, e1, e2⟩ := ybn_i e
    obtain ⟨a, b, c⟩ := yEx_i e1
    subst b c
    obtain ⟨W2, p2, e3, e4⟩ := ybn_i e2
    have h3 := (ztE_s (T := T) h2).2.1
    have h4 := ztE_p h2 (show ztK T n (ztE T n p) ≠ 4 by have := a.1; omega)
    exact yAft_move hn h hb ⟨by omega, h3⟩ (Or.inl rfl) ⟨fun y => by omega, fun _ => rfl⟩ (cm (by decide)) e3 e4
  · rename_i v0 v1 v2 v3 v4 v5
    have v : ztV T n p = 9 := by omega
    rw [v] at cm
    obtain ⟨a0, a1, a2, e⟩ := yCh_i e
    have h3 := (ztE_s (T := T) h2).2.1
    have h4 := ztE_p h2 (show ztK T n (ztE T n p) ≠ 4 by omega)
    obtain ⟨W1, p1, e1, e2⟩ := ybn_i e
    obtain ⟨a, b, c⟩ := yEx_i e1
    subst b c
    obtain ⟨W2, p2, e3, e4⟩ := ybn_i e2
    have h5 := (ztE_s (T := T) h3).2.1
    have h6 := ztE_p h3 (show ztK T n (ztE T n (ztE T n p)) ≠ 4 by have := a.1; omega)
    exact yAft_move hn h hb ⟨by omega, h5⟩ (Or.inr rfl) ⟨fun _ => by omega, fun y => by omega⟩ (cm (by decide)) e3 e4
end YQ
