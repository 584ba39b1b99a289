theorem zisT.h {u : Nat} (h : zisT u) : 32 ≤ u ∧ u + 12 ≤ 57 := by unfold zisT at h; omega
section RT
variable {G : zG} {σ : zPH} {X : zX} {T : Nat → Int} {n u : Nat} {S S' : ySn} {P : zPH → Nat → Prop} {R : zPR}
theorem yRb.tab (hu : zisT u) (h : yRb σ T n u) {σ' : zPH} (r : ∀ q, q ≠ u → q ≠ u + 11 → σ' q = σ q) (k : ∀ j, j ≠ 14 → σ' u j = σ u j) (h14 : 0 ≤ σ' u 14 ∧ σ' u 14 ≤ 533) : yRb σ' T n u := by
  have hh := hu.h
  obtain ⟨⟨c, a, hk, ha, hlt⟩, h2, h3, h4, h5, h6⟩ := h
  refine ⟨⟨c, a, hk.to (fun q a b => r q (by omega) (by omega)), by rw [r 4 (by omega) (by omega)]; exact ha, hlt⟩, by rw [r 4 (by omega) (by omega)]; exact h2, ?_, by rw [r 4 (by omega) (by omega)]; exact h4, h14, by rw [r (u + 8) (by omega) (by omega), r (u + 10) (by omega) (by omega)]; exact h6⟩
  unfold zTs zPc at *
  rw [r (u + 1) (by omega) (by omega), r (u + 2) (by omega) (by omega), r (u + 3) (by omega) (by omega), r (u + 4) (by omega) (by omega), r (u + 5) (by omega) (by omega), r (u + 6) (by omega) (by omega), r (u + 7) (by omega) (by omega), r (u + 8) (by omega) (by omega), r (u + 9) (by omega) (by omega), k 0 (by decide), k 1 (by decide)]
  exact h3
theorem s_T_addCode {s c part : Int} (hu : zisT u) {W : zPH} {p : Nat} (h : yRn σ T n u S W p) (hl : W 0 7 < 533) (hpart : part = zpt (yadd W s c) (W 0 7).toNat) (hS : ∀ a b c2 d, S W a b c2 d → S' (yadd W s c) a b c2 d) (hX : ∀ σ', yRn σ' T n u S' (yadd W s c) p → yfr u σ σ' → X none σ') : MS G zm_T_addCode 0 [zr G u, iZ part] σ X := by
  have hh := hu.h
  obtain ⟨hb, h00, hz, ⟨w1, w2, w3, w4, ⟨w5, w6⟩, w7, w8, w9, w10⟩, hq, h07⟩ := h
  obtain ⟨v1, v2, v3, v4, v5, v6⟩ := yadd_v W s c
  refine k_T_addCode hu ?_
  unfold w_T_addCode
  rw [w5]
  refine ⟨by omega, fun z => by omega, fun _ => ⟨by omega, ?_⟩⟩
  rintro σ1 e1 σ2 e2
  have u1 : σ1 u 14 = W 0 7 := by rw [e1, zupd_row (by omega), w5]
  rw [u1] at e2
  have r2 : ∀ q, q ≠ u → q ≠ u + 11 → σ2 q = σ q := fun q a b => by rw [e2, zupd_row a, e1, zupd_row b]
  have k2 : ∀ j, j ≠ 14 → σ2 u j = σ u j := fun j a => by rw [e2, zupd_nk a, e1, zupd_row (by omega)]
  have v14 : σ2 u 14 = W 0 7 + 1 := by rw [e2, zupd_same]
  have hva : ∀ q, zva (yadd W s c) q ↔ zva W q := fun q => by unfold zva; rw [v2 0 (by decide), v2 1 (by decide)]
  have hzP : ∀ q, zP (yadd W s c) q = zP W q := fun q => by unfold zP; rw [v2 0 (by decide)]
  refine hX σ2 ⟨hb.tab hu r2 k2 (by omega), by rw [r2 4 (by omega) (by omega)]; exact h00, by rw [r2 4 (by omega) (by omega)]; exact hz, ⟨?_, ?_, ?_, ?_, ⟨by rw [v14, v1], fun k hk => ?_⟩, ?_, ?_, ?_, ?_⟩, ?_, by rw [v1]; omega⟩ (fun q a b => r2 q (by omega) (by omega))
  · unfold zTd at *
    rw [k2 0 (by decide), k2 1 (by decide), k2 4 (by decide), r2 (u + 8) (by omega) (by omega), v2 0 (by decide), v2 1 (by decide), v2 2 (by decide), v2 3 (by decide), v2 4 (by decide), v2 5 (by decide), v2 6 (by decide)]
    exact w1
  · intro q w hq' hw
    have := w2 q w ((hva q).mp hq') hw
    rw [r2 (u + 1) (by omega) (by omega), hzP]
    have hN : zN (yadd W s c) q w = zN W q w := by unfold zN; rw [v2 0 (by decide), v2 1 (by decide)]
    have hE : ∀ m, zE (yadd W s c) m = zE W m := fun m => by unfold zE; rw [hzP]
    rw [hN]
    exact ⟨this.1, fun m hm => by rw [hE]; exact this.2 m hm⟩
  · intro q hq'
    have := w3 q ((hva q).mp hq')
    rw [hzP, v6 1 (by decide) (by decide) (by decide) (by decide), v6 2 (by decide) (by decide) (by decide) (by decide), v6 3 (by decide) (by decide) (by decide) (by decide), v6 4 (by decide) (by decide) (by decide) (by decide), r2 (u + 2) (by omega) (by omega), r2 (u + 3) (by omega) (by omega), r2 (u + 4) (by omega) (by omega), r2 (u + 5) (by omega) (by omega), r2 (u + 6) (by omega) (by omega), r2 (u + 7) (by omega) (by omega)]
    exact this
  · intro q hq'
    have := w4 q ((hva q).mp hq')
    rw [hzP, v6 1 (by decide) (by decide) (by decide) (by decide), v6 2 (by decide) (by decide) (by decide) (by decide), r2 (u + 2) (by omega) (by omega), r2 (u + 9) (by omega) (by omega)]
    exact this
  · rw [v1] at hk
    rw [e2, zupd_row (by omega), e1]
    by_cases y : k = (W 0 7).toNat
    · rw [y, zupd_same, v5, if_pos rfl]; exact ⟨hpart, rfl⟩
    · rw [zupd_nk y, v5, if_neg y]
      have := w6 k (by omega)
      refine ⟨?_, this.2⟩
      rw [this.1]
      unfold zpt
      rw [v3, v4, v5, if_neg y, if_neg y, if_neg y]
  · intro m hm
    rw [v2 4 (by decide)] at hm
    rw [r2 (u + 12) (by omega) (by omega), v6 8 (by decide) (by decide) (by decide) (by decide)]; exact w7 m hm
  · intro e he
    rw [v2 5 (by decide)] at he
    rw [r2 (u + 10) (by omega) (by omega), v6 20 (by decide) (by decide) (by decide) (by decide)]; exact w8 e he
  · unfold zT59 at *; rw [r2 (u + 2) (by omega) (by omega)]; exact w9
  · intro q hq'
    rw [hzP, v2 6 (by decide), r2 (u + 2) (by omega) (by omega)]; exact w10 q ((hva q).mp hq')
  · rw [r2 4 (by omega) (by omega), r2 5 (by omega) (by omega), r2 6 (by omega) (by omega), r2 7 (by omega) (by omega)]
    exact hS _ _ _ _ hq
theorem s_T_addCode' {part k pl : Int} (hu : zisT u) (h : yRf σ T n u k pl) (hX : ∀ σ', yRf σ' T n u k pl → yfr u σ σ' → X none σ') : MS G zm_T_addCode 0 [zr G u, iZ part] σ X := by
  have hh := hu.h
  obtain ⟨hb, h0, h1, hk⟩ := h
  have h5 := hb.2.2.2.2.1
  refine k_T_addCode hu ⟨by omega, fun _ => hX σ ⟨hb, h0, h1, hk⟩ yfr.rf, fun z => ⟨by omega, ?_⟩⟩
  rintro σ1 e1 σ2 e2
  have u1 : σ1 u 14 = σ u 14 := by rw [e1, zupd_row (by omega)]
  rw [u1] at e2
  have r2 : ∀ q, q ≠ u → q ≠ u + 11 → σ2 q = σ q := fun q a b => by rw [e2, zupd_row a, e1, zupd_row b]
  exact hX σ2 ⟨hb.tab hu r2 (fun j a => by rw [e2, zupd_nk a, e1, zupd_row (by omega)]) (by rw [e2, zupd_same]; omega), by rw [r2 4 (by omega) (by omega)]; exact h0, by rw [r2 4 (by omega) (by omega)]; exact h1, hk⟩ (fun q a b => r2 q (by omega) (by omega))
theorem yRq_add {W : zPH} {s c : Int} (h07 : 0 ≤ W 0 7) (hs : s ≠ 1) : ∀ a b c2 d, yRq W a b c2 d → yRq (yadd W s c) a b c2 d := by
  intro a b c2 d ⟨h1, h2⟩
  obtain ⟨v1, v2, v3, v4, v5, v6⟩ := yadd_v W s c
  have sn := yadd_sn (s := s) (c := c) h07
  rw [if_neg hs] at sn
  refine ⟨by rw [sn]; exact h1, fun k hk hk1 => ?_⟩
  rw [v3] at hk1
  by_cases y : k = (W 0 7).toNat
  · rw [if_pos y] at hk1; exact absurd hk1 hs
  · rw [if_neg y] at hk1
    rw [v1] at hk
    rw [ysn_c (W := W) (W' := yadd W s c) (m := k) (fun j hj => by rw [v3, if_neg (by omega)]), v6 13 (by decide) (by decide) (by decide) (by decide), v6 14 (by decide) (by decide) (by decide) (by decide)]
    exact h2 k (by omega) hk1
/-- a sees that is told, its part still to come -/
def yRs : ySn := fun W c r5 r6 r7 => c = (ysn W (W 0 7).toNat : Int) + 1 ∧ (∀ k : Nat, (k : Int) < W 0 7 → W 9 k = 1 → r7 (ysn W k) = (k : Int) ∧ r5 (ysn W k) = W 13 k ∧ r6 (ysn W k) = W 14 k) ∧ r7 (ysn W (W 0 7).toNat) = W 0 7 ∧ r5 (ysn W (W 0 7).toNat) = W 13 (W 0 7).toNat ∧ r6 (ysn W (W 0 7).toNat) = W 14 (W 0 7).toNat
theorem yRs_add {W : zPH} {c : Int} (h07 : 0 ≤ W 0 7) : ∀ a b c2 d, yRs W a b c2 d → yRq (yadd W 1 c) a b c2 d := by
  intro a b c2 d ⟨h1, h2, h3, h4, h5⟩
  obtain ⟨v1, v2, v3, v4, v5, v6⟩ := yadd_v W 1 c
  have sn := yadd_sn (s := 1) (c := c) h07
  rw [if_pos rfl] at sn
  refine ⟨by rw [sn, h1]; omega, fun k hk hk1 => ?_⟩
  rw [v1] at hk
  rw [ysn_c (W := W) (W' := yadd W 1 c) (m := k) (fun j hj => by rw [v3, if_neg (by omega)]), v6 13 (by decide) (by decide) (by decide) (by decide), v6 14 (by decide) (by decide) (by decide) (by decide)]
  by_cases y : k = (W 0 7).toNat
  · rw [y]; exact ⟨by rw [h3]; omega, h4, h5⟩
  · rw [v3, if_neg y] at hk1
    exact h2 k (by omega) hk1
theorem s_R_readSees (hT : ∀ k, 0 ≤ T k ∧ T k < 256) (hn : n ≤ 1600) (hu : zisT u) {W : zPH} {p : Nat} (h : yRn σ T n u yRq W p) (hq : yIs T n p 0 26) (h3 : 3 * W 0 7 ≤ (p : Int) + ywe T p) (hs10 : 10 * (ysn W (W 0 7).toNat : Int) ≤ p + ywe T p) (hX : ∀ σ', yOc σ' T n u yRq (fun _ _ => True) yid (ySees T n W (ztE T n p)) → yfr u σ σ' → X none σ') : MS G zm_R_readSees 2 [zr G 4] σ X := by
  have hh := hu.h
  obtain ⟨a0, c0, ha0, hlt0, hk0, ht0, h160, e0, hp0, -, -⟩ := h.1.tk hT hn
  have hz0 := h.2.2.1
  rw [ht0] at hz0
  rw [hz0] at hp0
  have hp1 := (ztE_s (T := T) hp0).2.1
  have hq4 := (ztw_n hp0 hq.1).2.2 hq.2
  have hqS := yeS hp0 (Or.inl hq.1)
  have hqE := yeE hp0 (Or.inl hq.1)
  refine k_R_readSees hu (s_R_advance (hT := hT) hn (by omega) h (by have := hq.1; omega) (fun σ1 h1 f1 r1 => ⟨rfl, ?_⟩))
  obtain ⟨a, c, ha, hlt, hk, ht, h16, e, hp, i1, i2⟩ := h1.1.tk hT hn
  have hz := h1.2.2.1
  rw [ht] at hz
  rw [hz] at e
  rw [ht]
  have b105F : ∀ (s : zPH) (k pl : Int), ySees T n W (ztE T n p) = .inr (k, pl) → yRf s T n u k pl → yfr u σ s → b_R_readSees_105 G u X s := fun s k pl eR hF f => by
    refine s_R_advance' hF ⟨rfl, hF.1.2.1, ?_⟩
    refine s_R_chooseO (S := yRq) (P := fun _ _ => True) (R := ySees T n W (ztE T n p)) hT hn (by omega) (by decide) (fun _ _ _ => True) (fun c W p => .inl (yadd W 1 (yco c), p)) (Or.inr ⟨k, pl, eR, hF⟩) (fun _ _ _ _ _ _ => trivial) (fun s2 x x0 x1 h2 f2 => ⟨x, rfl, ?_⟩)
    have hF2 : yRf s2 T n u k pl := by
      rcases h2 with ⟨W2, p2, e2, -, -⟩ | ⟨k2, pl2, e2, h2⟩
      · rw [eR] at e2; exact nomatch e2
      · rw [eR] at e2
        simp only [Sum.inr.injEq, Prod.mk.injEq] at e2
        rw [e2.1, e2.2]; exact h2
    refine s_R_colourOf (by omega) ⟨_, rfl, ?_⟩
    have hc := yco_r (x := x) (by omega)
    refine k_T_codeOfSees ⟨by decide, ⟨by decide, by omega⟩, ⟨_, rfl, ?_⟩⟩
    exact s_T_addCode' hu hF2 (fun s3 h3 f3 => ⟨rfl, hX s3 (Or.inr ⟨k, pl, eR, h3⟩) (f.trans (f2.trans f3))⟩)
  refine ⟨by omega, i1, fun z => ?_, fun z => ?_⟩
  rotate_left
  · refine s_R_refuseToken hT hn (by omega) h1 (fun s2 h2 f2 => ⟨rfl, b105F s2 1 _ ?_ h2 (f1.trans f2)⟩)
    unfold ySees; rw [if_pos (by rw [← e.1]; exact z)]; rfl
  have hK : ztK T n (ztE T n p) = 1 := by rw [← e.1]; exact z
  have hn1 := ztE_p hp1 (show ztK T n (ztE T n p) ≠ 4 by omega)
  have hn2 := (ztE_s (T := T) hp1).2.1
  have hnS := yeS hp1 (Or.inr hK)
  rw [hqE] at hnS
  have h48 := h1.2.2.2.2.1.1
  have h44 := h1.1.2.1
  obtain ⟨hb1, h001, -, hw1, hsq1, h071⟩ := id h1
  have w5 := hw1.2.2.2.2.1.1
  refine ⟨by omega, fun y => by omega, fun y => ⟨by omega, by omega, ?_⟩⟩
  rw [h48, Int.toNat_natCast, e.2.1]
  rintro s2 e2
  have k2 : s2 4 = σ1 4 := by rw [e2, zupd_row (by decide)]
  rw [k2, ht, h48, Int.toNat_natCast]
  refine ⟨by omega, by omega, ?_⟩
  rw [show s2 11 a = (ztS T n (ztE T n p) : Int) by rw [e2, zupd_row (by decide)]; exact e.2.2.1]
  rintro s3 e3
  have k3 : s3 4 = σ1 4 := by rw [e3, zupd_row (by decide), k2]
  rw [k3, h48, Int.toNat_natCast]
  refine ⟨h44, by omega, ?_⟩
  rw [show s3 u 14 = W 0 7 by rw [e3, zupd_row (by omega), e2, zupd_row (by omega)]; exact w5]
  rintro s4 e4
  rw [show s4 4 8 = (ysn W (W 0 7).toNat : Int) by rw [e4, zupd_row (by decide), k3]; exact h48]
  rintro s5 e5
  have r5 : ∀ q, q ≠ 4 → q ≠ 5 → q ≠ 6 → q ≠ 7 → s5 q = σ1 q := fun q a b c d => by rw [e5, zupd_row a, e4, zupd_row d, e3, zupd_row c, e2, zupd_row b]
  have k5 : ∀ j, j ≠ 8 → s5 4 j = σ1 4 j := fun j hj => by rw [e5, zupd_nk hj, e4, zupd_row (by decide), k3]
  have kask : ∀ r, r ≠ 13 → r ≠ 14 → yask W (ztV T n (ztE T n p)) (ztS T n (ztE T n p)) r = W r := fun r a b => by unfold yask; rw [zupd_row b, zupd_row a]
  have hn5 : yRn s5 T n u yRs (yask W (ztV T n (ztE T n p)) (ztS T n (ztE T n p))) (ztE T n p) := by
    obtain ⟨⟨c', a', hk', ha', hlt'⟩, b2, b3, b4, b5, b6⟩ := hb1
    refine ⟨⟨⟨c', a', hk'.to (fun q y1 y2 => r5 q (by omega) (by omega) (by omega) (by omega)), by rw [k5 3 (by decide)]; exact ha', hlt'⟩, by rw [k5 4 (by decide)]; exact b2, b3.to (fun q y1 y2 => r5 q (by omega) (by omega) (by omega) (by omega)), by rw [e5, zupd_same]; omega, by rw [r5 u (by omega) (by omega) (by omega) (by omega)]; exact b5, by rw [r5 (u + 8) (by omega) (by omega) (by omega) (by omega), r5 (u + 10) (by omega) (by omega) (by omega) (by omega)]; exact b6⟩, by rw [k5 0 (by decide), k5 1 (by decide)]; exact h001, by rw [k5 3 (by decide), ht]; exact hz, ?_, ?_, by rw [kask 0 (by decide) (by decide)]; exact h071⟩
    · unfold yRw zTd zTn zTq zTm zT59 zva zP zN zE zP zpt at *
      rw [kask 0 (by decide) (by decide), kask 1 (by decide) (by decide), kask 2 (by decide) (by decide), kask 3 (by decide) (by decide), kask 4 (by decide) (by decide), kask 8 (by decide) (by decide), kask 9 (by decide) (by decide), kask 10 (by decide) (by decide), kask 11 (by decide) (by decide), kask 20 (by decide) (by decide), r5 u (by omega) (by omega) (by omega) (by omega), r5 (u + 1) (by omega) (by omega) (by omega) (by omega), r5 (u + 2) (by omega) (by omega) (by omega) (by omega), r5 (u + 3) (by omega) (by omega) (by omega) (by omega), r5 (u + 4) (by omega) (by omega) (by omega) (by omega), r5 (u + 5) (by omega) (by omega) (by omega) (by omega), r5 (u + 6) (by omega) (by omega) (by omega) (by omega), r5 (u + 7) (by omega) (by omega) (by omega) (by omega), r5 (u + 8) (by omega) (by omega) (by omega) (by omega), r5 (u + 9) (by omega) (by omega) (by omega) (by omega), r5 (u + 10) (by omega) (by omega) (by omega) (by omega), r5 (u + 11) (by omega) (by omega) (by omega) (by omega), r5 (u + 12) (by omega) (by omega) (by omega) (by omega)]
      exact hw1
    · have ys : ∀ m, ysn (yask W (ztV T n (ztE T n p)) (ztS T n (ztE T n p))) m = ysn W m := fun m => ysn_c (fun j _ => by rw [kask 9 (by decide) (by decide)])
      unfold yRs
      rw [kask 0 (by decide) (by decide), ys]
      have v7 : ∀ j, s5 7 j = if j = ysn W (W 0 7).toNat then W 0 7 else σ1 7 j := fun j => by
        rw [e5, zupd_row (by decide), e4]
        split
        · rename_i y; rw [y, zupd_same]
        · rename_i y; rw [zupd_nk y, e3, zupd_row (by decide), e2, zupd_row (by decide)]
      have v6 : ∀ j, s5 6 j = if j = ysn W (W 0 7).toNat then (ztS T n (ztE T n p) : Int) else σ1 6 j := fun j => by
        rw [e5, zupd_row (by decide), e4, zupd_row (by decide), e3]
        split
        · rename_i y; rw [y, zupd_same]
        · rename_i y; rw [zupd_nk y, e2, zupd_row (by decide)]
      have v5 : ∀ j, s5 5 j = if j = ysn W (W 0 7).toNat then ztV T n (ztE T n p) else σ1 5 j := fun j => by
        rw [e5, zupd_row (by decide), e4, zupd_row (by decide), e3, zupd_row (by decide), e2]
        split
        · rename_i y; rw [y, zupd_same]
        · rename_i y; rw [zupd_nk y]
      refine ⟨by rw [e5, zupd_same], fun k hk1 hk2 => ?_, by rw [v7, if_pos rfl], ?_, ?_⟩
      · rw [kask 9 (by decide) (by decide)] at hk2
        have hlt : ∀ m k : Nat, k < m → W 9 k = 1 → ysn W k < ysn W m := by
          intro m
          induction m with
          | zero => intro k h; omega
          | succ m ih =>
            intro k h h1
            rw [ysn_s]
            by_cases y : k = m
            · rw [y, if_pos (by rw [← y]; exact h1)]; omega
            · have := ih k (by omega) h1; omega
        have hne : ysn W k ≠ ysn W (W 0 7).toNat := by have := hlt (W 0 7).toNat k (by omega) hk2; omega
        rw [ys, v7, v6, v5, if_neg hne, if_neg hne, if_neg hne]
        have := hsq1.2 k hk1 hk2
        have n13 : yask W (ztV T n (ztE T n p)) (ztS T n (ztE T n p)) 13 k = W 13 k := by unfold yask; rw [zupd_row (by decide), zupd_nk (by omega)]
        have n14 : yask W (ztV T n (ztE T n p)) (ztS T n (ztE T n p)) 14 k = W 14 k := by unfold yask; rw [zupd_nk (by omega), zupd_row (by decide)]
        rw [n13, n14]; exact this
      · rw [v5, if_pos rfl]; unfold yask; rw [zupd_row (by decide), zupd_same]
      · rw [v6, if_pos rfl]; unfold yask; rw [zupd_same]
  have f5 : yfr u σ s5 := f1.trans (fun q a b => r5 q (by omega) (by omega) (by omega) (by omega))
  have eR : ySees T n W (ztE T n p) = yCh T n 12 15 (fun c W p => .inl (yadd W 1 (yco c), p)) (yask W (ztV T n (ztE T n p)) (ztS T n (ztE T n p))) (ztE T n (ztE T n p)) := by
    unfold ySees; rw [if_neg (by omega)]
  refine s_R_advance (hT := hT) hn (by omega) hn5 (by omega) (fun s6 h6 f6 _ => ⟨rfl, h6.1.2.1, ?_⟩)
  refine s_R_chooseO (S := yRs) (P := fun W' _ => W' 0 7 = W 0 7) (R := ySees T n W (ztE T n p)) hT hn (by omega) (by decide) (fun _ W' _ => W' 0 7 = W 0 7) (fun c W p => .inl (yadd W 1 (yco c), p)) (Or.inl ⟨_, _, eR.symm, by dsimp only; rw [kask 0 (by decide) (by decide)], h6⟩) (fun _ _ h _ _ _ => h) (fun s7 x x0 x1 h7 f7 => ⟨x, rfl, ?_⟩)
  refine s_R_colourOf (by omega) ⟨_, rfl, ?_⟩
  have hc := yco_r (x := x) (by omega)
  refine k_T_codeOfSees ⟨by decide, ⟨by decide, by omega⟩, ⟨_, rfl, ?_⟩⟩
  rcases h7 with ⟨W2, p2, er2, hW2, h7⟩ | ⟨k, pl, er2, h7⟩
  · have h702 := h7.2.2.2.2.2
    refine s_T_addCode (s := 1) (c := yco x) (S' := yRq) hu h7 (by omega) ?_ (yRs_add h702) (fun s8 h8 f8 => ⟨rfl, hX s8 (Or.inl ⟨_, _, er2, trivial, h8⟩) (f5.trans (f6.trans (f7.trans f8)))⟩)
    obtain ⟨v1, v2, v3, v4, v5, v6⟩ := yadd_v W2 1 (yco x)
    unfold zpt
    rw [v3, v4, v5, if_pos rfl, if_pos rfl, if_pos rfl, if_neg (by decide), if_pos rfl]
    have hx : yco x = 1 ∨ yco x = 2 ∨ yco x = 3 ∨ yco x = 4 ∨ yco x = 5 ∨ yco x = 6 ∨ yco x = 7 := by omega
    rcases hx with y | y | y | y | y | y | y <;> rw [y] <;> rfl
  · exact s_T_addCode' hu h7 (fun s8 h8 f8 => ⟨rfl, hX s8 (Or.inr ⟨k, pl, er2, h8⟩) (f5.trans (f6.trans (f7.trans f8)))⟩)
end RT
