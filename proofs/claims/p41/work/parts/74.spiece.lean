theorem yCh_i {T : Nat → Int} {n p : Nat} {a b : Int} {f : Int → zPH → Nat → zPR} {W : zPH} {x : zPH × Nat} (h : yCh T n a b f W p = .inl x) : ztK T n p = 0 ∧ a ≤ ztV T n p ∧ ztV T n p ≤ b ∧ f (ztV T n p - a) W (ztE T n p) = .inl x := by
  unfold yCh at h
  split at h
  · rename_i q; exact ⟨q.1, q.2.1, q.2.2, h⟩
  · exact absurd h (by unfold yNo; exact fun z => nomatch z)
theorem zqo_in {W : zPH} {c r : Int} (h0 : W 0 0 ≤ 12) (hc : 0 ≤ c ∧ c < W 0 0) (hr : 0 ≤ r ∧ r < W 0 1) : zva W (zqo c r) := by
  unfold zva zqo; omega
theorem ySq_i {T : Nat → Int} {n p : Nat} {f : Nat → zPH → Nat → zPR} {W : zPH} {x : zPH × Nat} (hW : yWm W) (hp : p ≤ n) (h : ySq T n f W p = .inl x) : ∃ q p', zva W q ∧ W 1 q = 0 ∧ (p < p' ∧ p' ≤ n) ∧ f q W p' = .inl x := by
  unfold ySq at h
  obtain ⟨W1, p1, e1, e2⟩ := ybn_i h
  obtain ⟨a, b, c⟩ := yEx_i e1
  have h1 := ztE_p hp (show ztK T n p ≠ 4 by have := a.1; omega)
  have h2 := (ztE_s (T := T) hp).2.1
  subst b c
  unfold yNum at e2
  split at e2
  · exact absurd e2 (by unfold yNo; exact fun z => nomatch z)
  split at e2
  · exact nomatch e2
  dsimp only at e2
  split at e2
  · exact absurd e2 (by unfold yNo; exact fun z => nomatch z)
  split at e2
  · exact nomatch e2
  split at e2
  · exact nomatch e2
  rename_i q1 q2 q3 q4 q5
  have h3 := (ztE_s (T := T) h2).2.1
  have h4 := ztE_p h2 (show ztK T n (ztE T n p) ≠ 4 by omega)
  have h5 := (ztE_s (T := T) h3).2.1
  have h6 := ztE_p h3 (show ztK T n (ztE T n (ztE T n p)) ≠ 4 by omega)
  have hd := hW.1
  exact ⟨_, _, zqo_in hd.2.1 (by omega) (by omega), by omega, by omega, e2⟩
theorem yOa_to {W W1 : zPH} (h : yOa W) (hr : ∀ r, (r = 1 ∨ r = 2 ∨ r = 3 ∨ r = 4 ∨ r = 5 ∨ r = 6 ∨ r = 12) → W1 r = W r) (h0 : ∀ k, k ≤ 5 → W1 0 k = W 0 k) (hN : ∀ e : Nat, (e : Int) < W 0 5 → W1 20 e = W 20 e) : yOa W1 := by
  obtain ⟨a, b, c, d, e, f⟩ := h
  refine ⟨?_, ?_, ?_, ?_, ?_, ?_⟩
  · unfold zVd zva at *
    rw [h0 0 (by decide), h0 1 (by decide), h0 2 (by decide), h0 3 (by decide), h0 4 (by decide), h0 5 (by decide), hr 1 (by decide), hr 2 (by decide), hr 3 (by decide), hr 4 (by decide), hr 5 (by decide), hr 6 (by decide), hr 12 (by decide)]
    exact a
  · unfold yWm at *
    rw [h0 0 (by decide), h0 1 (by decide), h0 2 (by decide), h0 3 (by decide), h0 4 (by decide), h0 5 (by decide), hr 1 (by decide)]
    exact b
  · unfold zva at *
    rw [h0 0 (by decide), h0 1 (by decide), hr 1 (by decide)]
    exact c
  · rw [hr 1 (by decide), hr 2 (by decide)]; exact d
  · rw [h0 2 (by decide), h0 4 (by decide), h0 5 (by decide), hr 5 (by decide), hr 6 (by decide), hr 12 (by decide)]; exact e
  · intro k hk
    rw [h0 5 (by decide)] at hk
    rw [hN k hk]; exact f k hk
/-- code and places -/
def yBp (W : zPH) (p : Nat) : Prop := 3 * W 0 7 ≤ (p : Int) ∧ 10 * (ysn W (W 0 7).toNat : Int) ≤ p
theorem yBp.le {W : zPH} {p p' : Nat} (h : yBp W p) (hp : p ≤ p') : yBp W p' := by
  obtain ⟨a, b⟩ := h; exact ⟨by omega, by omega⟩
section YK
variable {T : Nat → Int} {n p p' : Nat} {W W' : zPH} {s f w : Int} {q : Nat}
/-- a piece that doesn't move -/
theorem yOk_put (h : yOa W) (ht : yTa W) (hl : W 0 7 = yTl W) (hcs : yCs W) (hs : 1 ≤ s ∧ s ≤ 7) (hq : zva W q) (hq0 : W 1 q = 0) (hc : ypc W s f w) : yOk (yput W s f w q) ∧ (∀ p, yBp W p → yBp (yput W s f w q) p) ∧ yput W s f w q 0 6 = W 0 6 + 1 := by
  obtain ⟨⟨d0, d1, d6, d7⟩, k2, k3, k4, k5⟩ := yput_cnt (W := W) (f := f) (w := w) (q := q) (s := s) (by omega)
  have c4 : yput W s f w q 0 4 = W 0 4 := by rcases k4 with z | z <;> omega
  have h4 := h.2.1.2.1.2.2.2.2.1
  have e8 : yput W s f w q 8 = W 8 := by funext k; rw [yput_8 h4, if_neg (fun z => by omega)]
  have e7 : yput W s f w q 7 = W 7 := yput_r (by decide)
  have e9 : yput W s f w q 9 = W 9 := yput_r (by decide)
  have e10 : yput W s f w q 10 = W 10 := yput_r (by decide)
  have e13 : yput W s f w q 13 = W 13 := yput_r (by decide)
  have e14 : yput W s f w q 14 = W 14 := yput_r (by decide)
  refine ⟨⟨yOa_put h (by omega) hq hq0 hc, fun m hm => ?_, ?_, ?_⟩, fun p hp => ?_, d6⟩
  · rw [c4] at hm
    obtain ⟨a, b, c⟩ := ht m hm
    rw [d7, e7, e8]
    refine ⟨a, b, fun j hj => yrj_c (W := W) (fun r k hr _ => by rcases hr with rfl | rfl | rfl | rfl <;> simp [e9, e10, e13, e14]) (c.1 j hj), ?_⟩
    rw [zdp_c (W := W) (fun j _ => by rw [e9])]; exact c.2
  · rw [d7, hl]; unfold yTl; rw [c4, e8]
  · unfold yCs at *; rw [d7, e9, e10, e13, e14]; exact hcs
  · unfold yBp at *; rw [d7, ysn_c (W := W) (fun k _ => by rw [e9])]; exact hp
/-- a mover, behind its test -/
theorem yOk_move {W1 : zPH} {x y : Int} (h : yOk W) (hz : zyc (yfrom W) W1 x y) (hx : x ≤ (p' : Int) - p) (hy : y ≤ (p' : Int) - p) (hr : yrq (W 0 7).toNat (yfrom W) W1) (hd : ydp (W 0 7).toNat W1 = 1) (hp : yBp W p) (hs : s = 8 ∨ s = 9) (hq : zva W1 q) (hq0 : W1 1 q = 0) (hc : ypc W1 s f w) : yOk (yput W1 s f w q) ∧ yBp (yput W1 s f w q) p' ∧ yput W1 s f w q 0 6 = W 0 6 + 1 := by
  obtain ⟨hA, ht, hl, hc0, hcs⟩ := h
  obtain ⟨z1, z2, z3, z4, z5, z6⟩ := hz
  have f07 : yfrom W 0 7 = W 0 7 := by rw [yfrom_r W (by decide)]
  rw [f07] at z3 z4 z6
  have r1 : ∀ r, r ≠ 0 → r ≠ 7 → r ≠ 9 → r ≠ 10 → r ≠ 11 → r ≠ 13 → r ≠ 14 → W1 r = W r := fun r h0 h7 h9 h10 h11 h13 h14 => by rw [z1 r h0 h9 h10 h11 h13 h14, yfrom_r W h7]
  have r0 : ∀ k, k ≠ 7 → W1 0 k = W 0 k := fun k hk => by rw [z2 k hk, yfrom_r W (by decide)]
  have r7 : ∀ k, W1 7 k = if k = (W 0 4).toNat then W 0 7 else W 7 k := fun k => by
    rw [z1 7 (by decide) (by decide) (by decide) (by decide) (by decide) (by decide)]
    unfold yfrom
    split
    · rename_i z; rw [z, zupd_same]
    · rename_i z; rw [zupd_nk z]
  have hA1 : yOa W1 := yOa_to hA (fun r hr => r1 r (by omega) (by omega) (by omega) (by omega) (by omega) (by omega) (by omega)) (fun k hk => r0 k (by omega)) (fun e _ => by rw [r1 20 (by decide) (by decide) (by decide) (by decide) (by decide) (by decide) (by decide)])
  have h4 := hA.2.1.2.1.2.2.2.2.1
  have h41 : 0 ≤ W1 0 4 := by rw [r0 4 (by decide)]; exact h4
  obtain ⟨⟨d0, d1, d6, d7⟩, -, -, k4, -⟩ := yput_cnt (W := W1) (f := f) (w := w) (q := q) (s := s) (by omega)
  have c4 : yput W1 s f w q 0 4 = W 0 4 + 1 := by rw [← r0 4 (by decide)]; rcases k4 with z | z <;> omega
  have e8 : ∀ k, yput W1 s f w q 8 k = if k = (W 0 4).toNat then W1 0 7 else W 8 k := fun k => by
    rw [yput_8 h41, r0 4 (by decide), r1 8 (by decide) (by decide) (by decide) (by decide) (by decide) (by decide) (by decide)]
    by_cases z : k = (W 0 4).toNat
    · rw [if_pos ⟨hs, z⟩, if_pos z]
    · rw [if_neg (fun u => z u.2), if_neg z]
  have e7 : yput W1 s f w q 7 = W1 7 := yput_r (by decide)
  have e9 : yput W1 s f w q 9 = W1 9 := yput_r (by decide)
  have e10 : yput W1 s f w q 10 = W1 10 := yput_r (by decide)
  have e13 : yput W1 s f w q 13 = W1 13 := yput_r (by decide)
  have e14 : yput W1 s f w q 14 = W1 14 := yput_r (by decide)
  have same' : ∀ f' j, yrj W1 f' j → yrj (yput W1 s f w q) f' j := fun f' j hj => yrj_c (W := W1) (fun r k hr _ => by rcases hr with rfl | rfl | rfl | rfl <;> simp [e9, e10, e13, e14]) hj
  refine ⟨⟨yOa_put hA1 (by omega) hq hq0 hc, fun m hm => ?_, ?_, ?_⟩, ?_, by rw [d6, r0 6 (by decide)]⟩
  · rw [c4] at hm
    rw [d7, e7, r7, e8]
    by_cases z : m = (W 0 4).toNat
    · rw [if_pos z, if_pos z]
      refine ⟨by omega, ?_, fun j hj => same' _ _ (hr j (by rw [f07]; omega) (by omega)), ?_⟩
      · rw [hl]; unfold yTl
        by_cases y : W 0 4 = 0
        · rw [if_pos y, if_pos (by omega)]
        · rw [if_neg y, if_neg (by omega), e8, if_neg (by omega), z]
      · rw [zdp_c (W := W1) (fun j _ => by rw [e9])]
        unfold ydp at hd
        rw [show (W1 0 7 - W 0 7).toNat = (W1 0 7).toNat - (W 0 7).toNat by omega]; exact hd
    · rw [if_neg z, if_neg z]
      obtain ⟨a, b, c⟩ := ht m (by omega)
      refine ⟨by omega, ?_, fun j hj => same' _ _ (yrj_c (fun r k hr hk => ?_) (c.1 j hj)), ?_⟩
      · by_cases y : m = 0
        · rw [if_pos y] at b ⊢; exact b
        · rw [if_neg y] at b ⊢; rw [e8, if_neg (by omega)]; exact b
      · rw [z6 r k (by omega) (by omega), yfrom_r W (by omega)]
      · rw [zdp_c (W := W) (fun j hj => ?_)]
        · exact c.2
        · rw [e9, z6 9 _ (by omega) (by omega), yfrom_r W (by decide)]
  · rw [d7]; unfold yTl
    rw [c4, if_neg (by omega), e8, if_pos (by omega)]
  · refine ⟨by rw [d7]; omega, fun k hk => ?_⟩
    rw [d7] at hk
    rw [e9, e10, e13, e14]
    by_cases z : (k : Int) < W 0 7
    · rw [z6 9 k (by omega) z, z6 10 k (by omega) z, z6 13 k (by omega) z, z6 14 k (by omega) z, yfrom_r W (by decide), yfrom_r W (by decide), yfrom_r W (by decide), yfrom_r W (by decide)]
      exact hcs k z
    · have := hr (k - (W 0 7).toNat) (by rw [f07]; omega) (by omega)
      unfold yrj at this
      rw [show (W 0 7).toNat + (k - (W 0 7).toNat) = k by omega] at this
      exact ⟨this.1, this.2.1⟩
  · unfold yBp at *
    rw [d7, ysn_c (W := W1) (fun k _ => by rw [e9])]
    have : ysn (yfrom W) (yfrom W 0 7).toNat = ysn W (W 0 7).toNat := by rw [f07]; exact ysn_c (fun k _ => by rw [yfrom_r W (by decide)])
    rw [this] at z5
    omega
end YK
