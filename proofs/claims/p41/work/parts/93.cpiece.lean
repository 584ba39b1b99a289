section RX
variable {G : zG} {σ : zPH} {X : zX} {T : Nat → Int} {n u : Nat}
theorem s_R_readTest0 (hT : ∀ k, 0 ≤ T k ∧ T k < 256) (hn : n ≤ 1600) (hu : zisT u) {R : zPR} (h : yOc σ T n u yRq (yBo T n false) (yTest T n (yFact T n 6)) R) (hX : ∀ σ', yOc σ' T n u yRq (fun _ _ => True) yid R → yfr u σ σ' → X none σ') : MS G zm_R_readTest 40 [zr G 4, iZ 0] σ X := by
  have := s_R_readTestO (G := G) (X := X) hT hn hu (s_R_readFactO hT hn hu 6 (by decide)) (fr := 40) (by decide) h hX
  rw [show (6 - ((6 : Nat) : Int)) = 0 from rfl] at this
  exact this
theorem s_R_readPieceO (hT : ∀ k, 0 ≤ T k ∧ T k < 256) (hn : n ≤ 1600) (hu : zisT u) {W : zPH} {p : Nat} (h : yRn σ T n u yRq W p) (ho : yOk W) (hb : yBp W p) (h6 : 0 ≤ W 0 6 ∧ W 0 6 < 59) (hp0 : 0 < p) (hX : ∀ σ', yOc σ' T n u yRq (fun _ _ => True) yid (yPiece T n W p) → yfr u σ σ' → X none σ') : MS G zm_R_readPiece 41 [zr G 4] σ X := by
  have hh := hu.h
  have hu32 : 32 ≤ u := hh.1
  obtain ⟨a, c, ha, hlt, hk, ht, h16, e4, hp, i1, i2⟩ := h.1.tk hT hn
  have hz := h.2.2.1
  rw [ht] at hz
  rw [hz] at e4 hp
  have hE := (ztE_s (T := T) hp).2.1
  have hS := (ztS_s (T := T) hp).1.1
  have hE0 := (ztE_s (T := T) hp).1
  -- in fault mode
  have moverF : ∀ (s : zPH) (x1 x2 k pl : Int), yPiece T n W p = .inr (k, pl) → yRf s T n u k pl → yfr u σ s → MS G zm_R_expect 2 [zr G 4, iZ 11] s (fun v σ203 => v = none ∧ MS G zm_R_readTest 40 [zr G 4, iZ 0] σ203 (fun v σ208 => v = none ∧ b_R_readPiece_237 G u X x1 x2 (-1) σ208)) := fun s x1 x2 k pl eR hF f =>
    k_R_expect (s_R_isWord' hF (Or.inl ⟨rfl, s_R_refuseToken' hT hn hF ⟨rfl, rfl, s_R_readTest0 (R := .inr (k, pl)) hT hn hu (Or.inr ⟨k, pl, rfl, hF⟩) (fun s2 h2 f2 => ⟨rfl, by
      rcases h2 with ⟨W2, p2, e2, -⟩ | ⟨k2, pl2, e2, h2⟩
      · exact nomatch e2
      · simp only [Sum.inr.injEq, Prod.mk.injEq] at e2
        refine s_R_piece237F hT hn hu eR (by rw [e2.1, e2.2]; exact h2) (fun s3 h3 f3 => hX s3 h3 (f.trans (f2.trans f3)))⟩)⟩⟩))
  have fOc : ∀ {f : zPH → Nat → zPR} {s : zPH} {k pl : Int}, yPiece T n W p = .inr (k, pl) → yOc s T n u yRq (fun _ _ => False) f (yPiece T n W p) → yRf s T n u k pl := fun eR h => by
    rcases h with ⟨W2, p2, e2, hf, -⟩ | ⟨k2, pl2, e2, h2⟩
    · exact hf.elim
    · rw [eR] at e2
      simp only [Sum.inr.injEq, Prod.mk.injEq] at e2
      rw [e2.1, e2.2]; exact h2
  have b81F : ∀ (s : zPH) (x1 k pl : Int), zI x1 → yPiece T n W p = .inr (k, pl) → yRf s T n u k pl → yfr u σ s → b_R_readPiece_81 G u X x1 s := by
    intro s x1 k pl hx eR hF f
    have chF : ∀ (s : zPH) (a b : Int) (Y : zX), 0 ≤ a ∧ a ≤ 26 ∧ a ≤ b ∧ b ≤ 26 → yRf s T n u k pl → (∀ s' x, 0 ≤ x → x ≤ b - a → yRf s' T n u k pl → yfr u s s' → Y (some (iZ x)) s') → MS G zm_R_choose 1 [zr G 4, iZ a, iZ b] s Y := fun s a b Y hab hF hY =>
      s_R_chooseO (S := yRq) (P := fun _ _ => False) (R := yPiece T n W p) hT hn hu32 hab (fun _ _ _ => False) (fun _ _ _ => yPiece T n W p) (Or.inr ⟨k, pl, eR, hF⟩) (fun _ _ h _ _ _ => h) (fun s' x x0 x1 h f => hY s' x x0 x1 (fOc eR h) f)
    have last : ∀ (s2 : zPH) (x2 x3 : Int), yRf s2 T n u k pl → yfr u σ s2 → b_R_readPiece_237 G u X x1 x2 x3 s2 := fun s2 x2 x3 h2 f2 => s_R_piece237F hT hn hu eR h2 (fun s3 h3 f3 => hX s3 h3 (f2.trans f3))
    refine s_R_advance' hF ⟨rfl, hx, fun _ => ?_, fun _ => ?_, fun _ => ?_, fun _ => ?_, fun _ => ?_, fun _ => ?_, fun _ => last s _ _ hF f⟩
    · exact chF s 12 15 _ (by decide) hF (fun s2 x x0 x1' h2 f2 => ⟨x, rfl, s_R_colourOf (by omega) ⟨_, rfl, chF s2 16 19 _ (by decide) h2 (fun s3 y y0 y1 h3 f3 => ⟨y, rfl, last s3 _ _ h3 (f.trans (f2.trans f3))⟩)⟩⟩)
    · exact chF s 20 21 _ (by decide) hF (fun s2 x x0 x1' h2 f2 => ⟨x, rfl, last s2 _ _ h2 (f.trans f2)⟩)
    · exact chF s 12 15 _ (by decide) hF (fun s2 x x0 x1' h2 f2 => ⟨x, rfl, s_R_colourOf (by omega) ⟨_, rfl, last s2 _ _ h2 (f.trans f2)⟩⟩)
    · refine s_R_readNewNameO (R := yPiece T n W p) hT hn hu (fun _ => False) (fun _ => False) (fun _ _ => yPiece T n W p) (fun _ h => h.elim) (fun _ _ h _ _ => h) (Or.inr ⟨k, pl, eR, hF⟩) (fun s2 h2 f2 => ⟨rfl, ?_⟩)
      rcases h2 with ⟨W2, p2, e2, hf, -⟩ | ⟨k2, pl2, e2, h2⟩
      · exact hf.1.elim
      · rw [eR] at e2
        simp only [Sum.inr.injEq, Prod.mk.injEq] at e2
        exact last s2 _ _ (by rw [e2.1, e2.2]; exact h2) (f.trans f2)
    · exact moverF s _ _ k pl eR hF f
    · exact chF s 20 21 _ (by decide) hF (fun s2 x x0 x1' h2 f2 => ⟨x, rfl, moverF s2 _ _ k pl eR h2 (f.trans f2)⟩)
  have b43 : ∀ x1 : Int, zI x1 → ¬ (ztK T n p = 0 ∧ 1 ≤ ztV T n p ∧ ztV T n p ≤ 9) → b_R_readPiece_43 G u X x1 σ := fun x1 hx hno => by
    refine s_R_refuseToken hT hn hu32 h (fun s1 h1 f1 => ⟨rfl, b81F s1 x1 1 _ hx ?_ h1 f1⟩)
    unfold yPiece; rw [if_pos hno]; rfl
  refine k_R_readPiece hu ⟨by omega, ?_⟩
  rw [ht]
  refine ⟨i1, fun z => ⟨by decide, fun _ => b43 (-1) (by decide) (fun y => z (by rw [e4.1]; exact y.1)), fun y => absurd y (by decide)⟩, fun z => ⟨by omega, ?_⟩⟩
  have k0 : ztK T n p = 0 := by rw [← e4.1]; exact z
  rw [e4.2.1] at i2 ⊢
  refine ⟨i2, fun y => b43 _ i2 (fun v => by omega), fun y => ⟨i2, fun y9 => ⟨h.1.2.1, ?_⟩, fun y9 => b43 _ i2 (fun v => by omega)⟩⟩
  have hs : 1 ≤ ztV T n p ∧ ztV T n p ≤ 9 := ⟨y, y9⟩
  obtain ⟨g0, g1, g2, g3, g4⟩ := zgp_s hs
  obtain ⟨y1, y2, y3, y4, y5, -⟩ := ygr_s hs
  obtain ⟨e0, e1, e2, e3⟩ : σ (u + 8) 0 = W 0 2 ∧ σ (u + 8) 1 = W 0 3 ∧ σ (u + 8) 2 = W 0 4 ∧ σ (u + 8) 3 = W 0 5 := ⟨h.2.2.2.1.1.2.2.1, h.2.2.2.1.1.2.2.2.1, h.2.2.2.1.1.2.2.2.2.1, h.2.2.2.1.1.2.2.2.2.2.1⟩
  have hfull : zfu σ u (zgp (ztV T n p)) ↔ (ygr (ztV T n p) ≠ 8 ∧ ymx (ygr (ztV T n p)) ≤ W 0 (ygr (ztV T n p))) := by
    unfold zfu
    rcases zgp_r (ztV T n p) with v | v | v | v | v
    · have := y5 (g4.mp v)
      exact ⟨fun x => absurd v x.1, fun x => absurd this x.1⟩
    · rw [y1 (g0.mp v), v, if_neg (by decide), show ((0 : Int).toNat) = 0 from rfl, e0, show ymx 2 = 8 from rfl]
      exact ⟨fun x => ⟨by decide, x.2⟩, fun x => ⟨by decide, x.2⟩⟩
    · rw [y2 (g1.mp v), v, if_neg (by decide), show ((1 : Int).toNat) = 1 from rfl, e1, show ymx 3 = 8 from rfl]
      exact ⟨fun x => ⟨by decide, x.2⟩, fun x => ⟨by decide, x.2⟩⟩
    · rw [y3 (g2.mp v), v, if_pos rfl, show ((2 : Int).toNat) = 2 from rfl, e2, show ymx 4 = 6 from rfl]
      exact ⟨fun x => ⟨by decide, x.2⟩, fun x => ⟨by decide, x.2⟩⟩
    · rw [y4 (g3.mp v), v, if_neg (by decide), show ((3 : Int).toNat) = 3 from rfl, e3, show ymx 5 = 8 from rfl]
      exact ⟨fun x => ⟨by decide, x.2⟩, fun x => ⟨by decide, x.2⟩⟩
  have h8 := h.1.2.2.1.2.2.2.2.2.2.1
  have ev : yPiece T n W p = if ygr (ztV T n p) ≠ 8 ∧ ymx (ygr (ztV T n p)) ≤ W 0 (ygr (ztV T n p)) then .inr (5, (ztS T n p : Int)) else yPiece T n W p := by
    split
    · rename_i v; unfold yPiece; rw [if_neg (fun x => x ⟨k0, hs⟩), if_pos v]
    · rfl
  refine s_T_groupOf i2 ⟨_, rfl, s_T_isFull hu (by have := zgp_r (ztV T n p); omega) (fun k => by have := h8 k; omega) (fun v => Or.inr ⟨rfl, by omega, ?_⟩) (fun v => Or.inl ⟨rfl, ?_⟩)⟩
  · rw [ht, e4.2.2.1]
    rw [if_pos (hfull.mp v)] at ev
    exact s_R_refuse hu32 h.1 h.2.1.1 (by decide) (fun s1 F1 f1 _ => ⟨rfl, b81F s1 _ 5 _ i2 ev F1 f1⟩)
  have hnf : ¬ (ygr (ztV T n p) ≠ 8 ∧ ymx (ygr (ztV T n p)) ≤ W 0 (ygr (ztV T n p))) := fun x => v (hfull.mpr x)
  have cm : ygr (ztV T n p) ≠ 8 → W 0 (ygr (ztV T n p)) < ymx (ygr (ztV T n p)) := fun x => by
    by_cases w : ymx (ygr (ztV T n p)) ≤ W 0 (ygr (ztV T n p))
    · exact absurd ⟨x, w⟩ hnf
    · omega
  clear ev hfull v
  have hR : yPiece T n W p = yPiece T n W p := rfl
  conv at hR => rhs; unfold yPiece
  rw [if_neg (fun x => x ⟨k0, hs⟩), if_neg hnf] at hR
  generalize hV : ztV T n p = V at *
  have h12 := ho.1.2.1.2.1
  refine s_R_advance (hT := hT) hn hu32 h (by omega) (fun s1 h1 f1 r1 => ⟨rfl, i2, fun x => ?_, fun x => ?_, fun x => ?_, fun x => ?_, fun x => ?_, fun x => ?_, fun x => ?_⟩)
  · -- lamp
    rw [if_pos x] at hR
    subst x
    refine s_R_chooseO (S := yRq) (P := fun W' _ => W' = W) (R := yPiece T n W p) hT hn hu32 (by decide) (fun _ W' _ => W' = W) _ (Or.inl ⟨W, _, hR.symm, rfl, h1⟩) (fun _ _ h _ _ _ => h) (fun s2 x x0 x1 h2 f2 => ⟨x, rfl, s_R_colourOf (by omega) ⟨_, rfl, ?_⟩⟩)
    refine s_R_chooseO (S := yRq) (P := fun W' _ => W' = W) (R := yPiece T n W p) hT hn hu32 (by decide) (fun _ W' _ => W' = W) _ h2 (fun _ _ h _ _ _ => h) (fun s3 y yy0 yy1 h3 f3 => ⟨y, rfl, ?_⟩)
    have hc := yco_r (x := x) (by omega)
    exact s_R_piece237 hT hn hu (fun W' => W' = W) (fun W' hW => by rw [hW]; exact ⟨ho.1, ⟨fun _ => by omega, fun v => by omega, fun v => by omega, fun v => by omega, fun v => by omega, fun v => by omega, cm⟩, h6⟩) hs (fun v => absurd rfl v) (fun v => absurd v (by decide)) h3 (fun s4 h4 f4 => hX s4 h4 (f1.trans (f2.trans (f3.trans f4))))
  · -- mirror, half
    rw [if_neg (by omega), if_pos x] at hR
    refine s_R_chooseO (S := yRq) (P := fun W' _ => W' = W) (R := yPiece T n W p) hT hn hu32 (by decide) (fun _ W' _ => W' = W) _ (Or.inl ⟨W, _, hR.symm, rfl, h1⟩) (fun _ _ h _ _ _ => h) (fun s2 y yy0 yy1 h2 f2 => ⟨y, rfl, ?_⟩)
    exact s_R_piece237 hT hn hu (fun W' => W' = W) (fun W' hW => by rw [hW]; exact ⟨ho.1, ⟨fun v => by omega, fun v => by omega, fun v => by omega, fun v => by omega, fun v => by omega, fun v => by omega, cm⟩, h6⟩) hs (fun _ => rfl) (fun v => by omega) h2 (fun s4 h4 f4 => hX s4 h4 (f1.trans (f2.trans f4)))
  · -- glass
    rw [if_neg (by omega), if_neg (by omega), if_pos x] at hR
    subst x
    refine s_R_chooseO (S := yRq) (P := fun W' _ => W' = W) (R := yPiece T n W p) hT hn hu32 (by decide) (fun _ W' _ => W' = W) _ (Or.inl ⟨W, _, hR.symm, rfl, h1⟩) (fun _ _ h _ _ _ => h) (fun s2 y yy0 yy1 h2 f2 => ⟨y, rfl, s_R_colourOf (by omega) ⟨_, rfl, ?_⟩⟩)
    have hc := yco_r (x := y) (by omega)
    exact s_R_piece237 hT hn hu (fun W' => W' = W) (fun W' hW => by rw [hW]; exact ⟨ho.1, ⟨fun v => by omega, fun v => by omega, fun v => by omega, fun v => by omega, fun v => by omega, fun v => by omega, cm⟩, h6⟩) hs (fun _ => rfl) (fun v => by omega) h2 (fun s4 h4 f4 => hX s4 h4 (f1.trans (f2.trans f4)))
  · -- eye
    rw [if_neg (by omega), if_neg (by omega), if_neg (by omega), if_neg (by omega), if_pos x] at hR
    subst x
    have g5 : ygr 7 = 5 := rfl
    have cm5 : W 0 5 < 8 := by have := cm (by decide); rw [g5] at this; exact this
    refine s_R_readNewNameO (R := yPiece T n W p) hT hn hu (fun W' => W' = W) (fun W' => yOa W' ∧ W' 0 5 < 8 ∧ (0 ≤ W' 0 6 ∧ W' 0 6 < 59) ∧ 0 ≤ W' 20 (W' 0 5).toNat ∧ W' 20 (W' 0 5).toNat < 387420489) (ySq T n (fun q W p => .inl (yput W 7 (-1) (-1) q, p))) (fun W' hW => by rw [hW]; exact ⟨⟨by omega, cm5⟩, ho.1.2.2.2.2.2⟩) (fun W' v hW v0 v1 => ?_) (Or.inl ⟨W, _, hR.symm, rfl, h1⟩) (fun s2 h2 f2 => ⟨rfl, ?_⟩)
    · rw [hW]
      have r1 : ∀ r, r ≠ 20 → zupd W 20 (W 0 5).toNat v r = W r := fun r hr => by rw [zupd_row hr]
      refine ⟨yOa_to ho.1 (fun r hr => r1 r (by omega)) (fun k _ => by rw [r1 0 (by decide)]) (fun e he => by rw [zupd_nk (by omega)]), ?_, ?_, ?_⟩
      · rw [r1 0 (by decide)]; exact cm5
      · rw [r1 0 (by decide)]; exact h6
      · rw [r1 0 (by decide), zupd_same]; exact ⟨v0, v1⟩
    · exact s_R_piece237 hT hn hu (fun W' => (yOa W' ∧ W' 0 5 < 8 ∧ (0 ≤ W' 0 6 ∧ W' 0 6 < 59) ∧ 0 ≤ W' 20 (W' 0 5).toNat ∧ W' 20 (W' 0 5).toNat < 387420489) ∧ s2 (u + 10) (W' 0 5).toNat = W' 20 (W' 0 5).toNat) (fun W' hW => ⟨hW.1.1, ⟨fun v => by omega, fun v => by omega, fun v => by omega, fun _ => rfl, fun v => by omega, fun _ => hW.1.2.2.2, fun _ => hW.1.2.1⟩, hW.1.2.2.1⟩) hs (fun _ => rfl) (fun _ W' hW => hW.2) h2 (fun s4 h4 f4 => hX s4 h4 (f1.trans (f2.trans f4)))
  · -- shutter
    rw [if_neg (by omega), if_neg (by omega), if_neg (by omega), if_neg (by omega), if_neg (by omega), if_pos x] at hR
    subst x
    have g4' : ygr 8 = 4 := rfl
    have cm4 : W 0 4 < 6 := by have := cm (by decide); rw [g4'] at this; exact this
    refine s_R_expectO (S := yRq) (P := fun W' p' => W' = W ∧ p < p' ∧ p' ≤ n) (R := yPiece T n W p) hT hn hu32 (by decide) (fun W' p' => W' = W ∧ p < p' ∧ p' ≤ n) _ (Or.inl ⟨W, _, hR.symm, ⟨rfl, by have := ztE_p hp (show ztK T n p ≠ 4 by omega); omega, hE⟩, h1⟩) (fun W' p' hP hi => by
      have := ztE_p hP.2.2 (show ztK T n p' ≠ 4 by have := hi.1; omega)
      have := (ztE_s (T := T) hP.2.2).2.1
      exact ⟨hP.1, by omega, by omega⟩) (fun s2 h2 f2 => ⟨rfl, ?_⟩)
    rcases h2 with ⟨W2, p2, e2, ⟨rfl, q1, q2⟩, h2⟩ | ⟨k, pl, eR, hF⟩
    · dsimp only at e2
      have we := ywe_r T p2
      have ysf : ysn (yfrom W2) (yfrom W2 0 7).toNat = ysn W2 (W2 0 7).toNat := by rw [yfrom_r W2 (by decide)]; exact ysn_c (fun k _ => by rw [yfrom_r W2 (by decide)])
      refine s_R_readTest0 (R := yTest T n (yFact T n 6) (yfrom W2) p2) hT hn hu (Or.inl ⟨yfrom W2, p2, rfl, ⟨?_, ?_, by omega, q2, by rw [yfrom_r W2 (by decide)]; exact h2.2.2.2.2.2⟩, yRn_from h2⟩) (fun s3 h3 f3 => ⟨rfl, ?_⟩)
      · rw [yfrom_r W2 (by decide)]; simp only [if_neg (show ¬ (false = true) by decide)]; have := hb.1; omega
      · rw [ysf]; have := hb.2; omega
      · rcases h3 with ⟨W3, p3, e3, -, h3⟩ | ⟨k, pl, eR, hF⟩
        · have e3' : yTest T n (yFact T n 6) (yfrom W2) p2 = .inl (W3, p3) := e3.symm
          obtain ⟨o1, o2⟩ := yTest_oa hn ho.1 h2.2.2.2.2.2 (by omega) q2 e3'
          rw [e3'] at e2
          exact s_R_piece237 hT hn hu (fun W' => W' = W3) (fun W' hW => by rw [hW]; exact ⟨o1, ⟨fun v => by omega, fun v => by omega, fun v => by omega, fun v => by omega, fun v => rfl, fun v => by omega, fun _ => by rw [g4', o2 4 (by decide)]; exact cm4⟩, by rw [o2 6 (by decide)]; exact h6⟩) hs (fun _ => rfl) (fun v => by omega) (Or.inl ⟨W3, p3, e2, rfl, h3⟩) (fun s4 h4 f4 => hX s4 h4 (f1.trans (f2.trans (f3.trans f4))))
        · rw [eR] at e2
          exact s_R_piece237F hT hn hu e2.symm hF (fun s4 h4 f4 => hX s4 h4 (f1.trans (f2.trans (f3.trans f4))))
    · exact s_R_readTest0 (R := .inr (k, pl)) hT hn hu (Or.inr ⟨k, pl, rfl, hF⟩) (fun s3 h3 f3 => ⟨rfl, by
        rcases h3 with ⟨W3, p3, e3, -⟩ | ⟨k2, pl2, e3, h3⟩
        · exact nomatch e3
        · simp only [Sum.inr.injEq, Prod.mk.injEq] at e3
          exact s_R_piece237F hT hn hu eR (by rw [e3.1, e3.2]; exact h3) (fun s4 h4 f4 => hX s4 h4 (f1.trans (f2.trans (f3.trans f4))))⟩)
  · -- vane
    rw [if_neg (by omega), if_neg (by omega), if_neg (by omega), if_neg (by omega), if_neg (by omega), if_neg (by omega)] at hR
    subst x
    have g4' : ygr 9 = 4 := rfl
    have cm4 : W 0 4 < 6 := by have := cm (by decide); rw [g4'] at this; exact this
    refine s_R_chooseO (S := yRq) (P := fun W' p' => W' = W ∧ p < p' ∧ p' ≤ n) (R := yPiece T n W p) hT hn hu32 (by decide) (fun _ W' p' => W' = W ∧ p < p' ∧ p' ≤ n) _ (Or.inl ⟨W, _, hR.symm, ⟨rfl, by have := ztE_p hp (show ztK T n p ≠ 4 by omega); omega, hE⟩, h1⟩) (fun W' p' hP hi _ _ => by
      have := ztE_p hP.2.2 (show ztK T n p' ≠ 4 by omega)
      have := (ztE_s (T := T) hP.2.2).2.1
      exact ⟨hP.1, by omega, by omega⟩) (fun s1' fo fo0 fo1 h1' f1' => ⟨fo, rfl, ?_⟩)
    refine s_R_expectO (S := yRq) (P := fun W' p' => W' = W ∧ p < p' ∧ p' ≤ n) (R := yPiece T n W p) hT hn hu32 (by decide) (fun W' p' => W' = W ∧ p < p' ∧ p' ≤ n) _ h1' (fun W' p' hP hi => by
      have := ztE_p hP.2.2 (show ztK T n p' ≠ 4 by have := hi.1; omega)
      have := (ztE_s (T := T) hP.2.2).2.1
      exact ⟨hP.1, by omega, by omega⟩) (fun s2 h2 f2 => ⟨rfl, ?_⟩)
    have F2 := f1.trans (f1'.trans f2)
    rcases h2 with ⟨W2, p2, e2, ⟨rfl, q1, q2⟩, h2⟩ | ⟨k, pl, eR, hF⟩
    · dsimp only at e2
      have we := ywe_r T p2
      have ysf : ysn (yfrom W2) (yfrom W2 0 7).toNat = ysn W2 (W2 0 7).toNat := by rw [yfrom_r W2 (by decide)]; exact ysn_c (fun k _ => by rw [yfrom_r W2 (by decide)])
      refine s_R_readTest0 (R := yTest T n (yFact T n 6) (yfrom W2) p2) hT hn hu (Or.inl ⟨yfrom W2, p2, rfl, ⟨?_, ?_, by omega, q2, by rw [yfrom_r W2 (by decide)]; exact h2.2.2.2.2.2⟩, yRn_from h2⟩) (fun s3 h3 f3 => ⟨rfl, ?_⟩)
      · rw [yfrom_r W2 (by decide)]; simp only [if_neg (show ¬ (false = true) by decide)]; have := hb.1; omega
      · rw [ysf]; have := hb.2; omega
      · rcases h3 with ⟨W3, p3, e3, -, h3⟩ | ⟨k, pl, eR, hF⟩
        · have e3' : yTest T n (yFact T n 6) (yfrom W2) p2 = .inl (W3, p3) := e3.symm
          obtain ⟨o1, o2⟩ := yTest_oa hn ho.1 h2.2.2.2.2.2 (by omega) q2 e3'
          rw [e3'] at e2
          exact s_R_piece237 hT hn hu (fun W' => W' = W3) (fun W' hW => by rw [hW]; exact ⟨o1, ⟨fun v => by omega, fun v => by omega, fun v => by omega, fun v => by omega, fun v => by omega, fun v => by omega, fun _ => by rw [g4', o2 4 (by decide)]; exact cm4⟩, by rw [o2 6 (by decide)]; exact h6⟩) hs (fun _ => rfl) (fun v => by omega) (Or.inl ⟨W3, p3, e2, rfl, h3⟩) (fun s4 h4 f4 => hX s4 h4 (F2.trans (f3.trans f4)))
        · rw [eR] at e2
          exact s_R_piece237F hT hn hu e2.symm hF (fun s4 h4 f4 => hX s4 h4 (F2.trans (f3.trans f4)))
    · exact s_R_readTest0 (R := .inr (k, pl)) hT hn hu (Or.inr ⟨k, pl, rfl, hF⟩) (fun s3 h3 f3 => ⟨rfl, by
        rcases h3 with ⟨W3, p3, e3, -⟩ | ⟨k2, pl2, e3, h3⟩
        · exact nomatch e3
        · simp only [Sum.inr.injEq, Prod.mk.injEq] at e3
          exact s_R_piece237F hT hn hu eR (by rw [e3.1, e3.2]; exact h3) (fun s4 h4 f4 => hX s4 h4 (F2.trans (f3.trans f4)))⟩)
  · -- prism, wall
    have x56 : V = 5 ∨ V = 6 := by omega
    rw [if_neg (by omega), if_neg (by omega), if_neg (by omega), if_pos x56] at hR
    exact s_R_piece237 hT hn hu (fun W' => W' = W) (fun W' hW => by rw [hW]; exact ⟨ho.1, ⟨fun v => by omega, fun v => by omega, fun v => by omega, fun v => rfl, fun v => by omega, fun v => by omega, cm⟩, h6⟩) hs (fun _ => rfl) (fun v => by omega) (Or.inl ⟨W, _, hR.symm, rfl, h1⟩) (fun s4 h4 f4 => hX s4 h4 (f1.trans f4))
end RX
