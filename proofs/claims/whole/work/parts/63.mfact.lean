section MFB
variable {G : zG} {σ W : zPH} {X : zX} {T : Nat → Int} {n p i : Nat} {l : List (Int × Bool × Bool)}
theorem yCh_n {T : Nat → Int} {n p : Nat} {a b : Int} {f : Int → zPH → Nat → zPR} {W : zPH} (h : ¬ (ztK T n p = 0 ∧ a ≤ ztV T n p ∧ ztV T n p ≤ b)) : yCh T n a b f W p = yNo T n p := by unfold yCh; rw [if_neg h]
theorem yCh_y {T : Nat → Int} {n p : Nat} {a b : Int} {f : Int → zPH → Nat → zPR} {W : zPH} (h : ztK T n p = 0 ∧ a ≤ ztV T n p ∧ ztV T n p ≤ b) : yCh T n a b f W p = f (ztV T n p - a) W (ztE T n p) := by unfold yCh; rw [if_pos h]
theorem s_M_fact98 (h : ztT σ W T n p i l 1) (hK : ztK T n p = 1) (h1 : ∀ σ' W' p', ySees T n W p = .inl (W', p') → ztK T n p' ≠ 5 → ztT σ' W' T n p' i l 1 → zfk i σ σ' → X none σ') (h0 : ∀ σ' k pl, yFl T n (ySees T n W p) k pl → zFt σ' k pl → zfk i σ σ' → X none σ') : b_M_fact_98 G X σ := by
  have hb := h.b
  obtain ⟨a, c, ci, cl, cr, ct, cb⟩ := h
  have h10 := a.2.1
  have h34 := c.1
  obtain ⟨-, kk1, -⟩ := zmk_1 a
  obtain ⟨-, -, kwd⟩ := kk1 hK
  have hst := a.2.2.2.1.1
  have hs : ySees T n W p = yCh T n 12 15 (fun c W p => .inl (yadd W 1 (yco c), p)) (yask W (ztV T n p) (ztS T n p)) (ztE T n p) := by unfold ySees; rw [if_neg (by omega)]
  have hp1 := ztE_p a.2.2.1 (show ztK T n p ≠ 4 by omega)
  have hp2 := (ztE_s (T := T) a.2.2.1).2.1
  refine ⟨by omega, fun _ => ⟨by omega, ?_⟩, fun z => by omega⟩
  rintro σ1 e1
  have r1 : ∀ q, q ≠ 78 → σ1 q = σ q := fun q hq => by rw [e1, zupd_row hq]
  rw [r1 58 (by decide)]
  refine ⟨by omega, ?_⟩
  rintro σ2 e2 x1 ex1
  have r2 : ∀ q, q ≠ 78 → q ≠ 79 → σ2 q = σ q := fun q hq hq2 => by rw [e2, zupd_row hq2, r1 q hq]
  rw [r2 58 (by decide) (by decide), h34] at ex1
  subst ex1
  have F2 : zfk i σ σ2 := (zfk.rf.u e1 (by omega)).u e2 (by omega)
  have a2 : zmP σ2 T n p := a.to (r2 59 (by decide) (by decide)) (fun k _ _ => by rw [r2 58 (by decide) (by decide)])
  have v13 : ∀ r, r ≠ 13 → r ≠ 14 → yask W (ztV T n p) (ztS T n p) r = W r := fun r a b => by unfold yask; rw [zupd_row b, zupd_row a]
  have c2 : zmc σ2 (yask W (ztV T n p) (ztS T n p)) i := by
    obtain ⟨c1, c2, c3⟩ := c
    refine ⟨by rw [r2 58 (by decide) (by decide), v13 0 (by decide) (by decide)]; exact c1, by rw [v13 0 (by decide) (by decide)]; exact c2, fun k hk => ?_⟩
    rw [v13 0 (by decide) (by decide)] at hk
    rw [r2 75 (by decide) (by decide), r2 76 (by decide) (by decide), v13 9 (by decide) (by decide), v13 10 (by decide) (by decide)]
    refine ⟨(c3 k hk).1, fun y => ⟨((c3 k hk).2 y).1, ?_, ?_⟩⟩
    · rw [e2, zupd_row (by decide), e1, zupd_nk (by omega)]
      unfold yask; rw [zupd_row (by decide), zupd_nk (by omega)]
      exact ((c3 k hk).2 y).2.1
    · rw [e2, zupd_nk (by omega), e1, zupd_row (by decide)]
      unfold yask; rw [zupd_nk (by omega)]
      exact ((c3 k hk).2 y).2.2
  have m2 : zWd (yask W (ztV T n p) (ztS T n p) 13 (yask W (ztV T n p) (ztS T n p) 0 7).toNat) (σ2 78 (yask W (ztV T n p) (ztS T n p) 0 7).toNat) ∧ σ2 79 (yask W (ztV T n p) (ztS T n p) 0 7).toNat = yask W (ztV T n p) (ztS T n p) 14 (yask W (ztV T n p) (ztS T n p) 0 7).toNat := by
    rw [v13 0 (by decide) (by decide)]
    refine ⟨?_, ?_⟩
    · rw [e2, zupd_row (by decide), e1, h34, zupd_same]
      unfold yask; rw [zupd_row (by decide), zupd_same]; exact kwd
    · rw [e2, h34, zupd_same]
      unfold yask; rw [zupd_same]; exact hst
  refine s_M_nextN a2 (fun σ3 a3 f3 => ⟨rfl, ?_⟩)
  have F3 : zfk i σ σ3 := F2.trans (f3.k (Or.inr trivial))
  have b3 : 0 ≤ σ3 58 34 ∧ σ3 58 34 ≤ 1600 := by rw [f3.2 34 (by decide), r2 58 (by decide) (by decide)]; omega
  rcases a3 with ⟨g3, a3⟩ | ⟨g3, a3⟩
  · have c3 := c2.to (σ' := σ3) (fun q _ => f3.1 q (by omega)) (f3.2 34 (by decide))
    refine s_M_colour a3 (fun q0 q1 q2 σ4 a4 f4 => ?_) (fun q σ4 x a4 f4 => ⟨x, rfl, ?_⟩)
    · refine ⟨_, rfl, ?_⟩
      have hs2 := hs
      rw [yCh_y ⟨q0, q1, q2⟩] at hs2
      have hp3 := ztE_p hp2 (show ztK T n (ztE T n p) ≠ 4 by omega)
      have c4 := c3.to (σ' := σ4) (fun q _ => f4.1 q (by omega)) (f4.2 34 (by decide))
      have F4 : zfk i σ σ4 := F3.trans (f4.k (Or.inr trivial))
      have g4 : ∀ k, (k < 5 ∨ 12 < k) → σ4 58 k = σ 58 k := fun k hk => by rw [f4.2 k hk, f3.2 k hk, r2 58 (by decide) (by decide)]
      rcases a4 with ⟨g, a4⟩ | ⟨g, a4⟩
      · have h10 := a4.2.1
        refine ⟨by omega, fun _ => ?_, fun z => by omega⟩
        refine s_M_add c4 (by rw [g4 35 (by decide)]; exact ci.1) ci.2 (by rw [v13 0 (by decide) (by decide)]; omega) (fun _ => ?_) (fun σ5 c5 F5 => ⟨rfl, ?_⟩)
        · rw [show σ4 78 = σ2 78 by rw [f4.1 78 (by decide), f3.1 78 (by decide)], show σ4 79 = σ2 79 by rw [f4.1 79 (by decide), f3.1 79 (by decide)]]
          exact m2
        · rw [F5.2.1 35 (by decide), g4 35 (by decide), ci.1]
          refine ⟨by omega, ?_⟩
          rintro σ6 e6
          rw [v13 0 (by decide) (by decide)] at *
          have k6 : ∀ k, k ≠ 34 → σ6 58 k = σ4 58 k := fun k hk => by rw [e6, zupd_row (by decide), F5.2.1 k hk]
          have r6 : ∀ q, q ≠ 58 → q ≠ 75 → q ≠ 76 → q ≠ 77 → σ6 q = σ2 q := fun q h0 h1 h2 h3 => by rw [e6, zupd_row h3, F5.1 q h0 h1 h2 h3, f4.1 q h0, f3.1 q h0]
          have v7 : (yadd (yask W (ztV T n p) (ztS T n p)) 1 (yco (ztV T n (ztE T n p) - 12))) 0 7 = W 0 7 + 1 := by rw [(yadd_v _ _ _).1, v13 0 (by decide) (by decide)]
          refine h1 σ6 _ _ hs2 g ⟨a4.to (by rw [e6, zupd_row (by decide), F5.1 59 (by decide) (by decide) (by decide) (by decide)]) (fun k _ _ => k6 k (by omega)), c5.to (fun q hq => by rw [e6, zupd_row (by omega)]) (by rw [e6, zupd_row (by decide)]), by rw [k6 35 (by decide), g4 35 (by decide)]; exact ci, by rw [k6 39 (by decide), g4 39 (by decide), k6 40 (by decide), g4 40 (by decide)]; exact cl, cr.to (fun q hq => by rw [r6 q (by omega) (by omega) (by omega) (by omega), r2 q (by omega) (by omega)]), by rw [k6 41 (by decide), g4 41 (by decide)]; exact ct, by rw [v7]; omega, by omega⟩ ((F4.trans F5.k).u e6 (by omega))
      · have e10 := a4.1
        refine ⟨by omega, fun z => by omega, fun _ => h0 σ4 1 _ ?_ ⟨a4, by rw [f4.2 34 (by decide)]; exact b3⟩ F4⟩
        rw [hs2]; exact ⟨g, rfl, rfl⟩
    · have e10 := a4.1
      refine ⟨by omega, fun z => by omega, fun _ => h0 σ4 1 _ ?_ ⟨a4, by rw [f4.2 34 (by decide)]; exact b3⟩ (F3.trans (f4.k (Or.inr trivial)))⟩
      rw [hs, yCh_n q]; exact yNo_Fl
  · have e10 := a3.1
    refine s_M_colour' a3 ⟨0, rfl, by omega, fun z => by omega, fun _ => h0 σ3 1 _ ?_ ⟨a3, b3⟩ F3⟩
    rw [hs, yCh_n (by omega)]; exact yNo_Fl
/-- the model's fact: what it does by the token -/
theorem s_M_fact (h : ztT σ W T n p i l 0)
  (hb : yIs T n p 3 91 → l.length ≤ 6 → ∀ σ', ztN σ' W T n (ztE T n p) i ((1, false, false) :: l) 0 → zfk i σ σ' → X none σ')
  (hn : yIs T n p 0 24 → l.length ≤ 6 → ∀ σ', ztN σ' W T n (ztE T n p) i ((2, false, false) :: l) 0 → zfk i σ σ' → X none σ')
  (h4 : (yIs T n p 3 91 ∨ yIs T n p 0 24) → l.length = 7 → ∀ σ', zFt σ' 4 (ztS T n p) → zfk i σ σ' → X none σ')
  (ha : yIs T n p 0 25 → ∀ σ', ztN σ' (yadd W 0 0) T n (ztE T n p) i l 1 → zfk i σ σ' → X none σ')
  (hs1 : yIs T n p 0 26 → ∀ σ' W' p', ySees T n W (ztE T n p) = .inl (W', p') → ztK T n p' ≠ 5 → ztT σ' W' T n p' i l 1 → zfk i σ σ' → X none σ')
  (hs0 : yIs T n p 0 26 → ∀ σ' k pl, yFl T n (ySees T n W (ztE T n p)) k pl → zFt σ' k pl → zfk i σ σ' → X none σ')
  (h0 : ¬ yIs T n p 3 91 → ¬ yIs T n p 0 24 → ¬ yIs T n p 0 25 → ¬ yIs T n p 0 26 → ∀ σ', zFt σ' 1 (ztF T n p) → zfk i σ σ' → X none σ') : MS G zm_M_fact 4 [zr G 58] σ X := by
  have hB := h.b
  have hh := h
  obtain ⟨a, c, ci, cl, cr, ct, cb⟩ := h
  have h10 := a.2.1
  have hp0 := a.2.2.1
  refine k_M_fact (s_M_isSign a (c := 91) (by decide) (by decide) (fun q => Or.inr ⟨rfl, ?_⟩) (fun q1 => Or.inl ⟨rfl, ?_⟩))
  · have := ztE_p hp0 (show ztK T n p ≠ 4 by have := q.1; omega)
    exact s_M_opens hh ⟨this.1, fun z => absurd z (by decide)⟩ (fun y σ' b f => ⟨rfl, hb q y σ' b f⟩) (fun y σ' b f => ⟨rfl, h4 (Or.inl q) y σ' b f⟩)
  refine s_M_isWord a (i := 24) (zow_w (by rfl) (by decide)) (by decide) (by decide) (fun q => Or.inr ⟨rfl, ?_⟩) (fun q2 => Or.inl ⟨rfl, ?_⟩)
  · have := ztE_p hp0 (show ztK T n p ≠ 4 by have := q.1; omega)
    have := (ztw_n hp0 q.1).1
    have := (ztS_s (T := T) hp0).1.1
    exact s_M_opens hh ⟨by omega, fun _ => by omega⟩ (fun y σ' b f => ⟨rfl, hn q y σ' b f⟩) (fun y σ' b f => ⟨rfl, h4 (Or.inr q) y σ' b f⟩)
  rintro σ1 e1
  have r1 : ∀ q, q ≠ 58 → σ1 q = σ q := fun q hq => by rw [e1, zupd_row hq]
  have k1 : ∀ q, q ≠ 41 → σ1 58 q = σ 58 q := fun q hq => by rw [e1, zupd_nk hq]
  have F1 : zfk i σ σ1 := zfk.rf.u e1 (by omega)
  have hh1 : ztT σ1 W T n p i l 1 := ⟨a.to (r1 59 (by decide)) (fun k _ _ => k1 k (by omega)), c.to (fun q hq => r1 q (by omega)) (k1 34 (by decide)), by rw [k1 35 (by decide)]; exact ci, by rw [k1 39 (by decide), k1 40 (by decide)]; exact cl, cr.to (fun q hq => r1 q (by omega)), by rw [e1, zupd_same], cb⟩
  obtain ⟨a1, c1, ci1, cl1, cr1, ct1, -⟩ := id hh1
  refine s_M_isWord a1 (i := 25) (zow_w (by rfl) (by decide)) (by decide) (by decide) (fun q => Or.inr ⟨rfl, ?_⟩) (fun q3 => Or.inl ⟨rfl, ?_⟩)
  · have hp1 := ztE_p hp0 (show ztK T n p ≠ 4 by have := q.1; omega)
    have hp2 := (ztw_n hp0 q.1).1
    have hp3 := (ztS_s (T := T) hp0).1.1
    refine s_M_add c1 ci1.1 ci1.2 (by omega) (fun z => absurd z (by decide)) (fun σ2 c2 F2 => ⟨rfl, ?_⟩)
    have a2 : zmP σ2 T n p := a1.to (F2.1 59 (by decide) (by decide) (by decide) (by decide)) (fun k _ _ => F2.2.1 k (by omega))
    refine s_M_nextN a2 (fun σ3 a3 f3 => ⟨rfl, ha q σ3 (f3.N a3 c2 (by rw [F2.2.1 35 (by decide)]; exact ci1) (by rw [F2.2.1 39 (by decide), F2.2.1 40 (by decide)]; exact cl1) (cr1.to (fun q hq => F2.1 q (by omega) (by omega) (by omega) (by omega))) (by rw [F2.2.1 41 (by decide)]; exact ct1) ⟨?_, by omega⟩ ?_) ((F1.trans F2.k).trans (f3.k (Or.inr trivial)))⟩)
    · rw [(yadd_v W 0 0).1]; omega
    · rw [(yadd_v W 0 0).1]; omega
  refine s_M_mustWord a1 (i := 26) (zow_w (by rfl) (by decide)) (by decide) (by decide) (fun q σ2 a2 f2 => ⟨rfl, ?_⟩) (fun q σ2 a2 f2 => ⟨rfl, ?_⟩)
  · have F2 : zfk i σ σ2 := F1.trans (f2.k (Or.inr trivial))
    have hp1 := ztE_p hp0 (show ztK T n p ≠ 4 by have := q.1; omega)
    have hN : ztN σ2 W T n (ztE T n p) i l 1 := f2.N a2 c1 ci1 cl1 cr1 ct1 ⟨by omega, by omega⟩ (by omega)
    have bl : ∀ k, ztK T n (ztE T n p) = k → k ≠ 1 → ySees T n W (ztE T n p) = yNo T n (ztE T n p) := fun k hk hk1 => by unfold ySees; rw [if_pos (by omega)]
    rcases hN with ⟨g2, hN⟩ | ⟨g2, hN⟩
    · have h102 := hN.1.2.1
      have b34 := zmc_b hN.2.1 (by omega)
      obtain ⟨z1, z2, z3, z4⟩ := zmk_1 hN.1
      have hst := hN.1.2.2.2.1.1
      have kr := hN.1.2.2.2.1.2.2.2.2.2.2.2.2.2.2
      have blame : ztK T n (ztE T n p) ≠ 1 → b_M_fact_89 G X σ2 := fun hk => by
        unfold b_M_fact_89
        rw [hst, ← ztF_S g2]
        refine s_M_blame h102 (by decide) (fun σ3 F3 f3 _ => ⟨rfl, ?_⟩)
        have e3 := F3.1
        refine ⟨by omega, fun z => by omega, fun _ => hs0 q σ3 1 _ ?_ ⟨F3, by rw [f3.2 34 (by decide)]; exact b34⟩ (F2.trans (f3.k (Or.inr trivial)))⟩
        rw [bl _ rfl hk]; exact yNo_Fl
      refine ⟨by omega, fun z => absurd h102 z, fun _ => ⟨by omega, fun z => blame (fun y => z (z2 y).1), fun z => ?_⟩⟩
      refine s_M_isOwn z3 (fun y => Or.inr ⟨rfl, blame (fun u => y (z2 u).2.1)⟩) (fun y => Or.inl ⟨rfl, ?_⟩)
      exact s_M_fact98 hN (z1 z y) (fun σ' W' p' u v w f => hs1 q σ' W' p' u v w (F2.trans f)) (fun σ' k pl u v f => hs0 q σ' k pl u v (F2.trans f))
    · have e10 := hN.1.1
      refine ⟨by omega, fun _ => ⟨by omega, fun z => by omega, fun _ => hs0 q σ2 1 _ ?_ hN F2⟩, fun z => by omega⟩
      rw [bl _ rfl (by omega)]; exact yNo_Fl
  · have e10 := a2.1
    refine ⟨by omega, fun _ => ⟨by omega, fun z => by omega, fun _ => h0 q1 q2 q3 q σ2 ⟨a2, ?_⟩ (F1.trans (f2.k (Or.inr trivial)))⟩, fun z => by omega⟩
    rw [f2.2 34 (by decide)]; exact zmc_b c1 (by omega)
end MFB
