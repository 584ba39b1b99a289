theorem zgp_s {s : Int} (hs : 1 ≤ s ∧ s ≤ 9) : (zgp s = 0 ↔ s = 1) ∧ (zgp s = 1 ↔ s = 2 ∨ s = 3) ∧ (zgp s = 2 ↔ s = 8 ∨ s = 9) ∧ (zgp s = 3 ↔ s = 7) ∧ (zgp s = -1 ↔ s = 4 ∨ s = 5 ∨ s = 6) := by
  unfold zgp
  refine ⟨⟨fun z => ?_, fun z => ?_⟩, ⟨fun z => ?_, fun z => ?_⟩, ⟨fun z => ?_, fun z => ?_⟩, ⟨fun z => ?_, fun z => ?_⟩, ⟨fun z => ?_, fun z => ?_⟩⟩
  all_goals (first | (repeat' (split at z)) <;> omega | skip)
section PU
variable {σ σ' W : zPH} {T : Nat → Int} {n u p q i : Nat} {s f w : Int}
/-- the table stays in bounds -/
theorem yTp_zTs (hu : zisT u) (ho : yOa W) (hz : zTs σ u) (hw : yRw σ u W) (hs : 1 ≤ s ∧ s ≤ 9) (hc : ypc W s f w) (hww : s ≠ 1 → w = -1) (hi : W 0 6 = (i : Int)) (hi59 : i < 59) {pp : Nat} (hp : pp < 144) (h : yTp σ σ' u s f w i pp) : zTs σ' u := by
  have hh := hu.h
  obtain ⟨z1, z2, z3, z4, z5, z6, z7, z8, z9⟩ := hz
  obtain ⟨r, rt, r4i, a4, a6, a7, a5, a2, a3, a8, a9, a12⟩ := h
  obtain ⟨c1, c2, c4, c5, c8, c7, cm⟩ := hc
  obtain ⟨g0, g1, g2, g3, g4⟩ := zgp_s hs
  obtain ⟨⟨d0, d1, e0, e1, e2, e3, d4⟩, w2, w3, w4, -⟩ := id hw
  have w10 := hw.2.2.2.2.2.2.2.2
  obtain ⟨y1, y2, y3, y4, y5, -⟩ := ygr_s hs
  have gr := zgp_r s
  have cnt : zgp s ≠ -1 → 0 ≤ σ (u + 8) (zgp s).toNat ∧ σ (u + 8) (zgp s).toNat < 8 ∧ (zgp s = 2 → σ (u + 8) 2 < 6) := fun y => by
    have hz7 := z7 (zgp s).toNat
    rcases gr with v | v | v | v | v
    · exact absurd v y
    · have hs1 := g0.mp v
      have := cm (by rw [y1 hs1]; decide)
      rw [y1 hs1, show ymx 2 = 8 from rfl] at this
      rw [v] at hz7 ⊢
      exact ⟨hz7.1, by rw [show ((0 : Int).toNat) = 0 from rfl, e0]; exact this, fun x => by omega⟩
    · have hs1 := g1.mp v
      have := cm (by rw [y2 hs1]; decide)
      rw [y2 hs1, show ymx 3 = 8 from rfl] at this
      rw [v] at hz7 ⊢
      exact ⟨hz7.1, by rw [show ((1 : Int).toNat) = 1 from rfl, e1]; exact this, fun x => by omega⟩
    · have hs1 := g2.mp v
      have := cm (by rw [y3 hs1]; decide)
      rw [y3 hs1, show ymx 4 = 6 from rfl] at this
      rw [v] at hz7 ⊢
      exact ⟨hz7.1, by rw [show ((2 : Int).toNat) = 2 from rfl, e2]; omega, fun x => by rw [e2]; exact this⟩
    · have hs1 := g3.mp v
      have := cm (by rw [y4 hs1]; decide)
      rw [y4 hs1, show ymx 5 = 8 from rfl] at this
      rw [v] at hz7 ⊢
      exact ⟨hz7.1, by rw [show ((3 : Int).toNat) = 3 from rfl, e3]; exact this, fun x => by omega⟩
  refine ⟨by rw [r (u + 1) (by omega) (by omega) (by omega) (by omega) (by omega) (by omega) (by omega) (by omega) (by omega) (by omega)]; exact z1, fun k => ?_, fun k => ?_, fun k => ?_, by rw [rt 0 (by decide), rt 1 (by decide)]; exact z5, fun k => ?_, fun g => ?_, ?_, fun l hl => ?_⟩
  · rw [a2]; split
    · omega
    · exact z2 k
  · rw [a3]; split
    · omega
    · exact z3 k
  · unfold zPc
    rw [a4, a5, a6, a7]
    by_cases y : k = i
    · rw [if_pos y, if_pos y, if_pos y, if_pos y]
      refine ⟨by omega, ?_, ?_, fun v => ?_, fun v => ?_, fun v => ?_, ?_⟩
      · by_cases x : zgp s = -1
        · rw [if_pos x]; decide
        · rw [if_neg x]; have := cnt x; omega
      · by_cases x1 : s = 1
        · have := c1 x1; omega
        · by_cases x2 : s = 2 ∨ s = 3 ∨ s = 9
          · have := c2 x2; omega
          · by_cases x4 : s = 4
            · have := c4 x4; omega
            · by_cases x5 : s = 5 ∨ s = 6 ∨ s = 7
              · have := c5 x5; omega
              · have := c8 (by omega); omega
      · by_cases x8 : s = 8
        · left; exact c8 x8
        · exact c2 (by omega)
      · have x : zgp s ≠ -1 := fun x => by have := g4.mp x; omega
        rw [if_neg x]; exact (cnt x).1
      · rcases v with v | v
        · exact (c1 v).1.1
        · exact (c4 v).1
      · by_cases x1 : s = 1
        · have := c1 x1; omega
        · have := hww x1; omega
    · rw [if_neg y, if_neg y, if_neg y, if_neg y]; exact z4 k
  · rw [a9]; split
    · omega
    · exact z6 k
  · rw [a8]; split
    · rename_i y
      have := cnt (by omega)
      rw [show (zgp s).toNat = g by omega] at this
      omega
    · exact z7 g
  · rw [a8]; split
    · rename_i y
      have := (cnt (by omega)).2.2 (by omega)
      omega
    · exact z8
  · have hl0 : σ' (u + 8) 0 = if (0 : Int) = zgp s then W 0 2 + 1 else W 0 2 := by rw [a8 0, e0]; rfl
    have old : (l : Int) < W 0 2 → σ (u + 9) l < (i : Int) := fun hl' => by
      rcases ho.1.2.2.2.2.2 l hl' with x | ⟨x, hx, hx1, hx2⟩
      · exact absurd x (ho.2.2.2.2.1.2.2 l hl')
      · have t1 := (w4 _ hx).1 hx1
        have t2 := w10 _ hx
        rw [hx2, Int.toNat_natCast] at t1
        omega
    have t3 := z6 l
    by_cases y : zgp s = 0
    · have x1 := g0.mp y
      have cc := c1 x1
      rw [hl0, if_pos y.symm] at hl
      have a9l : σ' (u + 9) l = if (l : Int) = W 0 2 then (i : Int) else σ (u + 9) l := by
        rw [a9, y, show ((0 : Int).toNat) = 0 from rfl, e0]
        by_cases v : (l : Int) = W 0 2
        · rw [if_pos v]; exact if_pos ⟨by decide, by omega⟩
        · rw [if_neg v]; exact if_neg (fun x => v (by have := x.2; omega))
      rw [a9l]
      by_cases v : (l : Int) = W 0 2
      · rw [if_pos v, Int.toNat_natCast, a7, a6, if_pos rfl, if_pos rfl]; omega
      · rw [if_neg v]
        have := old (by omega)
        rw [a7, a6, if_neg (by omega), if_neg (by omega)]
        exact z9 l (by rw [e0]; omega)
    · rw [hl0, if_neg (fun x => y x.symm)] at hl
      have ncond : ¬ (zgp s ≠ -1 ∧ (l : Int) = 8 * zgp s + σ (u + 8) (zgp s).toNat) := fun x => by
        have := cnt x.1
        have := ho.2.1.2.1
        omega
      have := old hl
      rw [a9, if_neg ncond, a7, a6, if_neg (by omega), if_neg (by omega)]
      exact z9 l (by rw [e0]; exact hl)
theorem yTp_yRw (hu : zisT u) (ho : yOa W) (hw : yRw σ u W) (hs : 1 ≤ s ∧ s ≤ 9) (hq : zva W q) (hq0 : W 1 q = 0) (hname : s = 7 → σ (u + 10) (W 0 5).toNat = W 20 (W 0 5).toNat) (hi : W 0 6 = (i : Int)) (hi59 : i < 59) (h8 : ∀ k, 0 ≤ σ (u + 8) k) (hpc : ypc W s f w) (h2r : ∀ p, -1 ≤ σ (u + 2) p) (h : yTp σ σ' u s f w i (zP W q)) : yRw σ' u (yput W s f w q) := by
  have hh := hu.h
  obtain ⟨r, rt, r4i, a4, a6, a7, a5, a2, a3, a8, a9, a12⟩ := h
  obtain ⟨g0, g1, g2, g3, g4⟩ := zgp_s hs
  obtain ⟨⟨d0, d1, e0, e1, e2, e3, d4⟩, w2, w3, w4, w5, w7, w8, w9, w10⟩ := hw
  obtain ⟨⟨k0, k1, k6, k7⟩, k2, k3, k4, k5⟩ := yput_cnt (W := W) (f := f) (w := w) (q := q) hs
  have va := yput_va (W := W) (f := f) (w := w) (q := q) hs
  have hm := ho.2.1.2.1
  have hzP : ∀ k, zP (yput W s f w q) k = zP W k := fun k => by unfold zP; rw [k0]
  have hne : ∀ k, zva W k → k ≠ q → zP W k ≠ zP W q := fun k h1 h2 e => h2 (zP_inj h1 hq e)
  obtain ⟨o1, o3, o4, n1, n2, n8, n7, n4⟩ := yput_own (W := W) (f := f) (w := w) (q := q) hs
  have cm := hpc.2.2.2.2.2.2
  obtain ⟨y1, y2, y3, y4, y5, -⟩ := ygr_s hs
  have m2 : s = 1 → W 0 2 < 8 := fun y => by have := cm (by rw [y1 y]; decide); rw [y1 y] at this; exact this
  have m3 : s = 2 ∨ s = 3 → W 0 3 < 8 := fun y => by have := cm (by rw [y2 y]; decide); rw [y2 y] at this; exact this
  have m4 : s = 8 ∨ s = 9 → W 0 4 < 6 := fun y => by have := cm (by rw [y3 y]; decide); rw [y3 y] at this; exact this
  have m5 : s = 7 → W 0 5 < 8 := fun y => by have := cm (by rw [y4 y]; decide); rw [y4 y] at this; exact this
  have t0 : (0 : Int).toNat = 0 := rfl
  have t1 : (1 : Int).toNat = 1 := rfl
  have t2 : (2 : Int).toNat = 2 := rfl
  have t3 : (3 : Int).toNat = 3 := rfl
  have e6 := fun k => yput_6 (W := W) (s := s) (f := f) (w := w) (q := q) hm.2.2.2.2.1 k
  have e8 := fun k => yput_8 (W := W) (s := s) (f := f) (w := w) (q := q) hm.2.2.2.2.1 k
  refine ⟨⟨by rw [rt 0 (by decide), k0]; exact d0, by rw [rt 1 (by decide), k1]; exact d1, ?_, ?_, ?_, ?_, by rw [r4i, k6, hi]⟩, ?_, ?_, ?_, ⟨by rw [rt 14 (by decide), k7]; exact w5.1, fun k hk => ?_⟩, fun m hm' => ?_, fun e he => ?_, ?_, fun k hk => ?_⟩
  · rw [a8 0, e0]
    rcases k2 with x | x
    · rw [if_pos (show ((0 : Nat) : Int) = zgp s from (g0.mpr x.1).symm), x.2]
    · rw [if_neg (show ¬ ((0 : Nat) : Int) = zgp s from fun y => x.1 (g0.mp y.symm)), x.2]
  · rw [a8 1, e1]
    rcases k3 with x | x
    · rw [if_pos (show ((1 : Nat) : Int) = zgp s from (g1.mpr x.1).symm), x.2]
    · rw [if_neg (show ¬ ((1 : Nat) : Int) = zgp s from fun y => x.1 (g1.mp y.symm)), x.2]
  · rw [a8 2, e2]
    rcases k4 with x | x
    · rw [if_pos (show ((2 : Nat) : Int) = zgp s from (g2.mpr x.1).symm), x.2]
    · rw [if_neg (show ¬ ((2 : Nat) : Int) = zgp s from fun y => x.1 (g2.mp y.symm)), x.2]
  · rw [a8 3, e3]
    rcases k5 with x | x
    · rw [if_pos (show ((3 : Nat) : Int) = zgp s from (g3.mpr x.1).symm), x.2]
    · rw [if_neg (show ¬ ((3 : Nat) : Int) = zgp s from fun y => x.1 (g3.mp y.symm)), x.2]
  · intro k w' hk hw'
    have := w2 k w' ((va k).mp hk) hw'
    rw [r (u + 1) (by omega) (by omega) (by omega) (by omega) (by omega) (by omega) (by omega) (by omega) (by omega) (by omega), hzP]
    have hN : zN (yput W s f w q) k w' = zN W k w' := by unfold zN; rw [k0, k1]
    have hE : ∀ m, zE (yput W s f w q) m = zE W m := fun m => by unfold zE; rw [hzP]
    rw [hN]
    exact ⟨this.1, fun m hm => by rw [hE]; exact this.2 m hm⟩
  · intro k hk
    rw [hzP, a2]
    by_cases y : k = q
    · subst y
      rw [if_pos rfl, o1, o3, o4]
      refine ⟨fun v => by omega, fun _ => ⟨by omega, ?_, ?_, ?_, fun _ => ?_, ?_⟩⟩
      · rw [Int.toNat_natCast, a4, if_pos rfl]
      · rw [Int.toNat_natCast, a5, if_pos rfl]
        rcases zgp_r s with v | v | v | v | v
        · rw [if_pos v, n4 (g4.mp v)]
        · rw [if_neg (by omega), v, t0, e0, n1 (g0.mp v)]
        · rw [if_neg (by omega), v, t1, e1, n2 (g1.mp v)]
        · rw [if_neg (by omega), v, t2, e2, n8 (g2.mp v)]
        · rw [if_neg (by omega), v, t3, e3, n7 (g3.mp v)]
      · rw [Int.toNat_natCast, a6, if_pos rfl]
      · rw [Int.toNat_natCast, a7, if_pos rfl]
      · rw [Int.toNat_natCast, a3, if_pos rfl]
    · have hk' := (va k).mp hk
      obtain ⟨b1, b2, b3, b4⟩ := yput_old (W := W) (s := s) (f := f) (w := w) y
      rw [b1, b2, b3, b4, if_neg (hne k hk' y)]
      refine ⟨(w3 k hk').1, fun v => ?_⟩
      obtain ⟨x1, x2, x3, x4, x5, x6⟩ := (w3 k hk').2 v
      have x0 := w10 k hk'
      have xr := h2r (zP W k)
      have hni : (σ (u + 2) (zP W k)).toNat ≠ i := by omega
      rw [a4, a5, a6, a7, a3, if_neg hni, if_neg hni, if_neg hni, if_neg hni, if_neg hni]
      exact ⟨x1, x2, x3, x4, x5, x6⟩
  · intro k hk
    rw [hzP, a2]
    by_cases y : k = q
    · subst y
      rw [if_pos rfl, o1]
      refine ⟨fun v => ?_, fun v => ?_, fun v => ?_⟩
      · rw [n1 v, a9, if_pos ⟨by rw [g0.mpr v]; decide, by rw [g0.mpr v, t0, e0]; omega⟩]
      · rw [n7 v, a9, if_pos ⟨by rw [g3.mpr v]; decide, by rw [g3.mpr v, t3, e3]; omega⟩]
      · rw [n8 v, a9, if_pos ⟨by rw [g2.mpr v]; decide, by rw [g2.mpr v, t2, e2]; omega⟩]
    · have hk' := (va k).mp hk
      obtain ⟨b1, b2, b3, b4⟩ := yput_old (W := W) (s := s) (f := f) (w := w) y
      obtain ⟨o0, p1, p2, p3, p4, p5, p6, p7⟩ := ho.1.2.2.1 k hk'
      obtain ⟨q1, q2, q3⟩ := w4 k hk'
      rw [b1, b2, if_neg (hne k hk' y)]
      have big : ∀ j : Nat, (W 1 k = 1 → j = (W 2 k).toNat) → (W 1 k = 7 → j = 24 + (W 2 k).toNat) → (W 1 k = 8 ∨ W 1 k = 9 → j = 16 + (W 2 k).toNat) → (W 1 k = 1 ∨ W 1 k = 7 ∨ W 1 k = 8 ∨ W 1 k = 9) → ¬ (zgp s ≠ -1 ∧ (j : Int) = 8 * zgp s + σ (u + 8) (zgp s).toNat) := fun j j1 j7 j8 jj v => by
        rcases zgp_r s with x | x | x | x | x
        · exact v.1 x
        · have v2 := v.2; rw [x, t0, e0] at v2
          have := m2 (g0.mp x)
          rcases jj with z | z | z | z
          · have := j1 z; have := p1 z; omega
          · have := j7 z; have := p5 z; omega
          · have := j8 (Or.inl z); have := p6 (Or.inl z); omega
          · have := j8 (Or.inr z); have := p6 (Or.inr z); omega
        · have v2 := v.2; rw [x, t1, e1] at v2
          have := m3 (g1.mp x)
          rcases jj with z | z | z | z
          · have := j1 z; have := p1 z; omega
          · have := j7 z; have := p5 z; omega
          · have := j8 (Or.inl z); have := p6 (Or.inl z); omega
          · have := j8 (Or.inr z); have := p6 (Or.inr z); omega
        · have v2 := v.2; rw [x, t2, e2] at v2
          have := m4 (g2.mp x)
          rcases jj with z | z | z | z
          · have := j1 z; have := p1 z; omega
          · have := j7 z; have := p5 z; omega
          · have := j8 (Or.inl z); have := p6 (Or.inl z); omega
          · have := j8 (Or.inr z); have := p6 (Or.inr z); omega
        · have v2 := v.2; rw [x, t3, e3] at v2
          have := m5 (g3.mp x)
          rcases jj with z | z | z | z
          · have := j1 z; have := p1 z; omega
          · have := j7 z; have := p5 z; omega
          · have := j8 (Or.inl z); have := p6 (Or.inl z); omega
          · have := j8 (Or.inr z); have := p6 (Or.inr z); omega
      refine ⟨fun v => ?_, fun v => ?_, fun v => ?_⟩
      · rw [a9, if_neg (big _ (fun _ => rfl) (fun z => by omega) (fun z => by omega) (Or.inl v))]; exact q1 v
      · rw [a9, if_neg (big _ (fun z => by omega) (fun _ => rfl) (fun z => by omega) (Or.inr (Or.inl v)))]; exact q2 v
      · rw [a9, if_neg (big _ (fun z => by omega) (fun z => by omega) (fun _ => rfl) (Or.inr (Or.inr v)))]; exact q3 v
  · rw [k7] at hk
    rw [r (u + 11) (by omega) (by omega) (by omega) (by omega) (by omega) (by omega) (by omega) (by omega) (by omega) (by omega)]
    unfold zpt
    rw [yput_r (by decide), yput_r (by decide), yput_r (by decide)]
    exact w5.2 k hk
  · rw [a12, e8, e2]
    by_cases y : (s = 8 ∨ s = 9) ∧ m = (W 0 4).toNat
    · rw [if_pos ⟨g2.mpr y.1, by omega⟩, if_pos y]; exact w5.1
    · rw [if_neg (fun v => y ⟨g2.mp v.1, by omega⟩), if_neg y]
      refine w7 m ?_
      rcases k4 with x | x
      · have : m ≠ (W 0 4).toNat := fun v => y ⟨x.1, v⟩
        omega
      · omega
  · rw [r (u + 10) (by omega) (by omega) (by omega) (by omega) (by omega) (by omega) (by omega) (by omega) (by omega) (by omega), yput_r (by decide)]
    rcases k5 with x | x
    · by_cases y : e = (W 0 5).toNat
      · rw [y]; exact hname x.1
      · exact w8 e (by omega)
    · exact w8 e (by omega)
  · intro k hk59
    rw [a2]; split
    · omega
    · exact w9 k hk59
  · rw [hzP, a2, k6]
    split
    · omega
    · have := w10 k ((va k).mp hk); omega
end PU
