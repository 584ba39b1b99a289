section RP
variable {G : zG} {σ : zPH} {X : zX} {T : Nat → Int} {n u : Nat} {R : zPR}
theorem yRn_put {σ' W : zPH} {p q i : Nat} {s f w : Int} (hu : zisT u) (h : yRn σ T n u yRq W p) (ho : yOa W) (hs : 1 ≤ s ∧ s ≤ 9) (hpc : ypc W s f w) (hww : s ≠ 1 → w = -1) (hq : zva W q) (hq0 : W 1 q = 0) (hname : s = 7 → σ (u + 10) (W 0 5).toNat = W 20 (W 0 5).toNat) (hi : W 0 6 = (i : Int)) (hi59 : i < 59) (ht : yTp σ σ' u s f w i (zP W q)) : yRn σ' T n u yRq (yput W s f w q) p := by
  have hh := hu.h
  obtain ⟨⟨⟨c, a, hk, ha, hlt⟩, b2, b3, b4, b5, b6⟩, h0, hz, hw, hsq, h07⟩ := h
  have hpl := (zP_lt ho.1 hq).2
  have z' := yTp_zTs hu ho b3 hw hs hpc hww hi hi59 hpl ht
  have w' := yTp_yRw hu ho hw hs hq hq0 hname hi hi59 (fun k => (b3.2.2.2.2.2.2.1 k).1) hpc (fun k => (b3.2.1 k).1) ht
  obtain ⟨⟨k0, k1, k6, k7⟩, k2, k3, k4, k5⟩ := yput_cnt (W := W) (f := f) (w := w) (q := q) hs
  have r : ∀ q, q < u → σ' q = σ q := fun q a => ht.1 q (by omega) (by omega) (by omega) (by omega) (by omega) (by omega) (by omega) (by omega) (by omega) (by omega)
  have r10 : σ' (u + 10) = σ (u + 10) := ht.1 _ (by omega) (by omega) (by omega) (by omega) (by omega) (by omega) (by omega) (by omega) (by omega) (by omega)
  refine ⟨⟨⟨c, a, hk.to (fun q y1 y2 => r q (by omega)), by rw [r 4 (by omega)]; exact ha, hlt⟩, by rw [r 4 (by omega)]; exact b2, z', by rw [r 4 (by omega)]; exact b4, by rw [ht.2.1 14 (by decide)]; exact b5, fun e he => ?_⟩, by rw [r 4 (by omega)]; exact h0, by rw [r 4 (by omega)]; exact hz, w', ?_, by rw [k7]; exact h07⟩
  · have e5 := w'.1.2.2.2.2.2.1
    rw [e5] at he
    rw [r10]
    have d5 := hw.1.2.2.2.2.2.1
    rcases k5 with x | x
    · by_cases y : e = (W 0 5).toNat
      · rw [y, hname x.1]; have := hpc.2.2.2.2.2.1 x.1; omega
      · exact b6 e (by rw [d5]; have := ho.2.1.2.1; omega)
    · exact b6 e (by rw [d5]; omega)
  · rw [r 4 (by omega), r 5 (by omega), r 6 (by omega), r 7 (by omega)]
    unfold yRq at hsq ⊢
    have e9 : yput W s f w q 9 = W 9 := yput_r (by decide)
    have e13 : yput W s f w q 13 = W 13 := yput_r (by decide)
    have e14 : yput W s f w q 14 = W 14 := yput_r (by decide)
    have ys : ∀ m, ysn (yput W s f w q) m = ysn W m := fun m => ysn_c (fun k _ => by rw [e9])
    rw [k7, ys, e9, e13, e14]
    refine ⟨hsq.1, fun k hk1 hk2 => ?_⟩
    rw [ys]; exact hsq.2 k hk1 hk2
theorem s_R_piece237 (hT : ∀ k, 0 ≤ T k ∧ T k < 256) (hn : n ≤ 1600) (hu : zisT u) {s f w : Int} (P : zPH → Prop) (hP : ∀ W, P W → yOa W ∧ ypc W s f w ∧ (0 ≤ W 0 6 ∧ W 0 6 < 59)) (hs : 1 ≤ s ∧ s ≤ 9) (hww : s ≠ 1 → w = -1) (hname : s = 7 → ∀ W, P W → σ (u + 10) (W 0 5).toNat = W 20 (W 0 5).toNat) (h : yOc σ T n u yRq (fun W _ => P W) (ySq T n (fun q W p => .inl (yput W s f w q, p))) R) (hX : ∀ σ', yOc σ' T n u yRq (fun _ _ => True) yid R → yfr u σ σ' → X none σ') : b_R_readPiece_237 G u X s f w σ := by
  have hh := hu.h
  refine s_R_readSquareO hT hn hu P _ (fun W h => (hP W h).1) h (fun σ1 z h1 r1 => ⟨z, rfl, ?_⟩)
  rcases h1 with ⟨W, p, q, e, hPW, rfl, hva, hq0, h1⟩ | ⟨k, pl, e, h1⟩
  · have h00 := h1.2.1.1
    obtain ⟨ho, hpc, h6⟩ := hP W hPW
    have d6 : σ1 u 4 = W 0 6 := h1.2.2.2.1.1.2.2.2.2.2.2
    obtain ⟨i, hi⟩ : ∃ i : Nat, W 0 6 = (i : Int) := ⟨(W 0 6).toNat, by omega⟩
    have hts := h1.1.2.2.1
    obtain ⟨e0, e1, e2, e3⟩ : σ1 (u + 8) 0 = W 0 2 ∧ σ1 (u + 8) 1 = W 0 3 ∧ σ1 (u + 8) 2 = W 0 4 ∧ σ1 (u + 8) 3 = W 0 5 := ⟨h1.2.2.2.1.1.2.2.1, h1.2.2.2.1.1.2.2.2.1, h1.2.2.2.1.1.2.2.2.2.1, h1.2.2.2.1.1.2.2.2.2.2.1⟩
    obtain ⟨g0, g1, g2, g3, g4⟩ := zgp_s hs
    obtain ⟨y1, y2, y3, y4, y5, -⟩ := ygr_s hs
    have cm := hpc.2.2.2.2.2.2
    refine ⟨by omega, fun y => absurd h00 y, fun _ => ⟨h1.1.2.1, ?_⟩⟩
    refine s_T_add0 (i := i) hu rfl (zP_lt ho.1 hva).2 (by omega) (by rw [d6]; exact hi) (by omega) ((h1.2.2.2.1.2.2.1 q hva).1 hq0) hts.2.1 hts.2.2.1 hts.2.2.2.2.2.2.1 ?_ (fun σ2 ht => ⟨rfl, hX σ2 (Or.inl ⟨_, p, e, trivial, yRn_put hu h1 ho hs hpc hww hva hq0 (fun y => by rw [r1 (u + 10) (by omega)]; exact hname y W hPW) hi (by omega) ht⟩) ?_⟩)
    · rintro ⟨x, y⟩
      rcases zgp_r s with v | v | v | v | v
      · exact x v
      · have := cm (by rw [y1 (g0.mp v)]; decide)
        rw [y1 (g0.mp v), show ymx 2 = 8 from rfl] at this
        rw [v, if_neg (by decide), show ((0 : Int).toNat) = 0 from rfl, e0] at y; omega
      · have := cm (by rw [y2 (g1.mp v)]; decide)
        rw [y2 (g1.mp v), show ymx 3 = 8 from rfl] at this
        rw [v, if_neg (by decide), show ((1 : Int).toNat) = 1 from rfl, e1] at y; omega
      · have := cm (by rw [y3 (g2.mp v)]; decide)
        rw [y3 (g2.mp v), show ymx 4 = 6 from rfl] at this
        rw [v, if_pos rfl, show ((2 : Int).toNat) = 2 from rfl, e2] at y; omega
      · have := cm (by rw [y4 (g3.mp v)]; decide)
        rw [y4 (g3.mp v), show ymx 5 = 8 from rfl] at this
        rw [v, if_neg (by decide), show ((3 : Int).toNat) = 3 from rfl, e3] at y; omega
    · intro q' a b
      rw [ht.1 q' (by omega) (by omega) (by omega) (by omega) (by omega) (by omega) (by omega) (by omega) (by omega) (by omega)]
      exact r1 q' (by omega)
  · have e10 := h1.2.1
    have e11 := h1.2.2.2
    exact ⟨by omega, fun _ => hX σ1 (Or.inr ⟨k, pl, e, h1⟩) (fun q a b => r1 q (by omega)), fun y => by omega⟩
theorem s_R_piece237F (hT : ∀ k, 0 ≤ T k ∧ T k < 256) (hn : n ≤ 1600) (hu : zisT u) {s f w k pl : Int} (e : R = .inr (k, pl)) (h : yRf σ T n u k pl) (hX : ∀ σ', yOc σ' T n u yRq (fun _ _ => True) yid R → yfr u σ σ' → X none σ') : b_R_readPiece_237 G u X s f w σ := by
  refine s_R_readSquareO hT hn hu (fun _ => False) (fun _ _ _ => R) (fun _ h => h.elim) (Or.inr ⟨k, pl, e, h⟩) (fun σ1 z h1 r1 => ⟨z, rfl, ?_⟩)
  rcases h1 with ⟨W, p, q, e, hPW, -⟩ | ⟨k2, pl2, e2, h1⟩
  · exact hPW.elim
  · have e10 := h1.2.1
    have e11 := h1.2.2.2
    exact ⟨by omega, fun _ => hX σ1 (Or.inr ⟨k2, pl2, e2, h1⟩) (fun q a b => r1 q (by omega)), fun y => by omega⟩
theorem s_R_readNewNameO (hT : ∀ k, 0 ≤ T k ∧ T k < 256) (hn : n ≤ 1600) (hu : zisT u) (P Q : zPH → Prop) (f : zPH → Nat → zPR) (hP : ∀ W, P W → (0 ≤ W 0 5 ∧ W 0 5 < 8) ∧ yNr W) (hPQ : ∀ W v, P W → 0 ≤ v → v < 387420489 → Q (zupd W 20 (W 0 5).toNat v)) (h : yOc σ T n u yRq (fun W _ => P W) (fun W p => ybn (yName T n W p) f) R) (hX : ∀ σ', yOc σ' T n u yRq (fun W _ => Q W ∧ σ' (u + 10) (W 0 5).toNat = W 20 (W 0 5).toNat) f R → yfr u σ σ' → X none σ') : MS G zm_R_readNewName 2 [zr G 4] σ X := by
  have hh := hu.h
  have b65F : ∀ (s : zPH) (x1 k pl : Int), R = .inr (k, pl) → yRf s T n u k pl → yfr u σ s → b_R_readNewName_65 G u X x1 s := fun s x1 k pl e hF f1 => by
    have e10 := hF.2.1
    have e11 := hF.2.2.2
    exact ⟨by omega, fun _ => s_R_advance' hF ⟨rfl, hX s (Or.inr ⟨k, pl, e, hF⟩) f1⟩, fun y => by omega⟩
  obtain ⟨W, p, e, hPW, h⟩ | ⟨k, pl, e, h⟩ := h
  · obtain ⟨h5, hN⟩ := hP W hPW
    obtain ⟨a, c, ha, hlt, hk, ht, h16, e4, hp, i1, i2⟩ := h.1.tk hT hn
    have hz := h.2.2.1
    rw [ht] at hz
    rw [hz] at e4 hp
    dsimp only at e
    have d5 : σ (u + 8) 3 = W 0 5 := h.2.2.2.1.1.2.2.2.2.2.1
    have d10 := h.2.2.2.1.2.2.2.2.2.2.1
    refine k_R_readNewName hu ⟨by omega, ?_⟩
    rw [ht]
    rintro x1 e1
    rw [e4.2.1] at e1 i2
    subst e1
    refine ⟨by omega, i1, fun z => ⟨h.1.2.1, ?_⟩, fun z => ?_⟩
    · have hK : ztK T n p = 1 := by rw [← e4.1]; exact z
      have hv := ztV_n hp hK
      have hyr := yeN_r W (ztV T n p) (W 0 5).toNat
      have ey : yName T n W p = if yeN W (ztV T n p) (W 0 5).toNat ≠ -1 then .inr (3, (ztS T n p : Int)) else .inl (zupd W 20 (W 0 5).toNat (ztV T n p), ztE T n p) := by
        unfold yName; rw [if_neg (by omega)]
      refine s_T_eyeNamed (W := W) hu d5 (by omega) (fun e he => ⟨d10 e he, by have := hN e he; rw [d10 e he]; omega⟩) i2 ⟨_, rfl, by omega, fun y => ?_, fun y => ⟨by omega, ?_⟩⟩
      · rw [ey, if_neg (fun v => v y)] at e
        have h00 := h.2.1.1
        refine ⟨by omega, fun v => absurd h00 v, fun _ => ⟨h.1.2.1, by rw [d5]; omega, fun v => by rw [d5] at v; omega, fun v => ⟨h.1.2.1, h.1.2.1, by rw [d5]; omega, ?_⟩⟩⟩
        rw [d5]
        rintro s1 es1
        have r1 : ∀ q, q ≠ u + 10 → s1 q = σ q := fun q hq => by rw [es1, zupd_row hq]
        have rW : ∀ r, r ≠ 20 → zupd W 20 (W 0 5).toNat (ztV T n p) r = W r := fun r hr => by rw [zupd_row hr]
        have hn1 : yRn s1 T n u yRq (zupd W 20 (W 0 5).toNat (ztV T n p)) p := by
          obtain ⟨⟨⟨c', a', hk', ha', hlt'⟩, b2, b3, b4, b5, b6⟩, g0, gz, gw, gq, g7⟩ := h
          refine ⟨⟨⟨c', a', hk'.to (fun q y1 y2 => r1 q (by omega)), by rw [r1 4 (by omega)]; exact ha', hlt'⟩, by rw [r1 4 (by omega)]; exact b2, ?_, by rw [r1 4 (by omega)]; exact b4, by rw [r1 u (by omega)]; exact b5, fun e he => ?_⟩, by rw [r1 4 (by omega)]; exact g0, by rw [r1 4 (by omega)]; exact gz, ?_, ?_, by rw [rW 0 (by decide)]; exact g7⟩
          · unfold zTs zPc at *
            rw [r1 u (by omega), r1 (u + 1) (by omega), r1 (u + 2) (by omega), r1 (u + 3) (by omega), r1 (u + 4) (by omega), r1 (u + 5) (by omega), r1 (u + 6) (by omega), r1 (u + 7) (by omega), r1 (u + 8) (by omega), r1 (u + 9) (by omega)]
            exact b3
          · rw [r1 (u + 8) (by omega)] at he
            rw [es1, zupd_nk (by omega)]; exact b6 e he
          · obtain ⟨w1, w2, w3, w4, w5, w7, w8, w9, w10⟩ := gw
            have hz' : ∀ q, zva (zupd W 20 (W 0 5).toNat (ztV T n p)) q ↔ zva W q := fun q => by unfold zva; rw [rW 0 (by decide)]
            refine ⟨?_, ?_, ?_, ?_, ?_, ?_, fun e he => ?_, ?_, ?_⟩
            · unfold zTd at *; rw [rW 0 (by decide), r1 u (by omega), r1 (u + 8) (by omega)]; exact w1
            · unfold zTn zva zN zE zP at *; rw [rW 0 (by decide), r1 (u + 1) (by omega)]; exact w2
            · unfold zTq zva zP at *; rw [rW 0 (by decide), rW 1 (by decide), rW 2 (by decide), rW 3 (by decide), rW 4 (by decide), r1 (u + 2) (by omega), r1 (u + 3) (by omega), r1 (u + 4) (by omega), r1 (u + 5) (by omega), r1 (u + 6) (by omega), r1 (u + 7) (by omega)]; exact w3
            · unfold zTm zva zP at *; rw [rW 0 (by decide), rW 1 (by decide), rW 2 (by decide), r1 (u + 2) (by omega), r1 (u + 9) (by omega)]; exact w4
            · unfold zpt at *; rw [rW 0 (by decide), rW 9 (by decide), rW 10 (by decide), rW 11 (by decide), r1 u (by omega), r1 (u + 11) (by omega)]; exact w5
            · rw [rW 0 (by decide), rW 8 (by decide), r1 (u + 12) (by omega)]; exact w7
            · rw [rW 0 (by decide)] at he
              rw [es1, zupd_nk (by omega), zupd_nk (by omega)]; exact w8 e he
            · unfold zT59 at *; rw [r1 (u + 2) (by omega)]; exact w9
            · unfold zva zP at *; rw [rW 0 (by decide), r1 (u + 2) (by omega)]; exact w10
          · have ys : ∀ m, ysn (zupd W 20 (W 0 5).toNat (ztV T n p)) m = ysn W m := fun m => ysn_c (fun k _ => by rw [rW 9 (by decide)])
            unfold yRq at gq ⊢
            rw [r1 4 (by omega), r1 5 (by omega), r1 6 (by omega), r1 7 (by omega), rW 0 (by decide), rW 9 (by decide), rW 13 (by decide), rW 14 (by decide), ys]
            exact ⟨gq.1, fun k hk1 hk2 => by rw [ys]; exact gq.2 k hk1 hk2⟩
        refine s_R_advance (hT := hT) hn (by omega) hn1 (by omega) (fun s2 h2 f2 r2 => ⟨rfl, hX s2 (Or.inl ⟨_, _, e, ⟨hPQ W _ hPW hv.1 hv.2, ?_⟩, h2⟩) (fun q a b => by rw [r2 q (by omega), r1 q (by omega)])⟩)
        rw [r2 (u + 10) (by omega), es1, rW 0 (by decide), zupd_same, zupd_same]
      · rw [ey, if_pos y] at e
        rw [ht, e4.2.2.1]
        exact s_R_refuse (by omega) h.1 h.2.1.1 (by decide) (fun s1 F1 f1 r1 => ⟨rfl, b65F s1 _ 3 _ e.symm F1 f1⟩)
    · rw [yName_n (fun y => z (by rw [e4.1]; exact y))] at e
      exact s_R_refuseToken hT hn (by omega) h (fun s1 F1 f1 => ⟨rfl, b65F s1 _ 1 _ e.symm F1 f1⟩)
  · obtain ⟨a, c, ha, hlt, hk, ht, h16, e4, hp, i1, i2⟩ := h.1.tk hT hn
    refine k_R_readNewName hu ⟨by omega, ?_⟩
    rw [ht]
    rintro x1 rfl
    refine ⟨by omega, i1, fun z => ⟨h.1.2.1, s_T_eyeNamed' hu h i2 (fun z hz => ⟨z, rfl, hz, fun _ => b65F σ _ k pl e h yfr.rf, fun _ => ⟨by omega, s_R_refuse' h ⟨rfl, b65F σ _ k pl e h yfr.rf⟩⟩⟩)⟩, fun z => s_R_refuseToken' hT hn h ⟨rfl, b65F σ _ k pl e h yfr.rf⟩⟩
theorem yRn_from {W : zPH} {p : Nat} (h : yRn σ T n u yRq W p) : yRn σ T n u yRq (yfrom W) p := by
  obtain ⟨hb, h0, hz, hw, hq, h7⟩ := h
  refine ⟨hb, h0, hz, ?_, ?_, by rw [yfrom_r W (by decide)]; exact h7⟩
  · unfold yRw zTd zTn zTq zTm zT59 zva zN zE zP zpt at *
    rw [yfrom_r W (by decide), yfrom_r W (by decide), yfrom_r W (by decide), yfrom_r W (by decide), yfrom_r W (by decide), yfrom_r W (by decide), yfrom_r W (by decide), yfrom_r W (by decide), yfrom_r W (by decide), yfrom_r W (by decide)]
    exact hw
  · have ys : ∀ m, ysn (yfrom W) m = ysn W m := fun m => ysn_c (fun k _ => by rw [yfrom_r W (by decide)])
    unfold yRq at hq ⊢
    rw [yfrom_r W (by decide), yfrom_r W (by decide), yfrom_r W (by decide), yfrom_r W (by decide), ys]
    exact ⟨hq.1, fun k hk1 hk2 => by rw [ys]; exact hq.2 k hk1 hk2⟩
theorem yTest_oa {W W1 : zPH} {p p1 : Nat} (hn : n ≤ 1600) (ho : yOa W) (h07 : 0 ≤ W 0 7) (hp0 : 0 < p) (hp : p ≤ n) (e : yTest T n (yFact T n 6) (yfrom W) p = .inl (W1, p1)) : yOa W1 ∧ ∀ k, k ≠ 7 → W1 0 k = W 0 k := by
  obtain ⟨-, z⟩ := yTest_b T hn (yFact_b T hn 6) (by rw [yfrom_r W (by decide)]; exact h07) hp0 hp e
  have r0 : ∀ k, k ≠ 7 → W1 0 k = W 0 k := fun k hk => by rw [z.2.1 k hk, yfrom_r W (by decide)]
  exact ⟨yOa_to ho (fun r hr => by rw [z.1 r (by omega) (by omega) (by omega) (by omega) (by omega) (by omega), yfrom_r W (by omega)]) (fun k hk => r0 k (by omega)) (fun e _ => by rw [z.1 20 (by decide) (by decide) (by decide) (by decide) (by decide) (by decide), yfrom_r W (by decide)]), r0⟩
end RP
