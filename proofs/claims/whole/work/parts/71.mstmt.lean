/-- behind looks(): the token behind p is looked at, not blamed yet -/
def yLo (σ : zPH) (T : Nat → Int) (n i : Nat) (W : zPH) (p : Nat) : Prop := (zmX σ T n ∧ σ 58 10 = 0 ∧ p ≤ n ∧ zmk σ T n p) ∧ zmc σ W i ∧ zbw σ W i 8 ∧ 2 * W 0 7 ≤ (p : Int) ∧ 0 < p
def yEnd (σ : zPH) (T : Nat → Int) (n i : Nat) (R : zPR) : Prop := (σ 58 35 = (i : Int) ∧ i ≤ 1) ∧ ((∃ W p, R = .inl (W, p) ∧ yLo σ T n i W p) ∨ ∃ k pl, R = .inr (k, pl) ∧ zFt σ k pl)
theorem yfrom_r (W : zPH) {r : Nat} (hr : r ≠ 7) : yfrom W r = W r := by unfold yfrom; rw [zupd_row hr]
section MST
variable {G : zG} {σ : zPH} {X : zX} {T : Nat → Int} {n i g : Nat} {P : zPH → Prop} {R : zPR}
theorem s_M_mover29 {s s0 f : Int} (hs : s = 8 ∨ s = 9) (hf : s ≠ 8 → s0 = f) (h : zOk σ T n i 8 (fun W => yWm W ∧ W 0 4 < 6) (fun W p => ybn (yEx T n 0 11 W p) (fun W p => ybn (yTest T n (yFact T n 6) (yfrom W) p) (ySq T n (fun q W p => .inl (yput W s f (-1) q, p))))) R) (hX : ∀ σ', zOk σ' T n i 8 (fun _ => True) yid R → zfp i σ σ' → X none σ') : b_M_mover_29 G s X s0 σ := by
  have hi35 : (i : Int).toNat = i := Int.toNat_natCast i
  have hii := h.1.2
  have hg : ygr s = 4 := by unfold ygr; rw [if_neg (by omega), if_neg (by omega), if_pos hs]
  refine s_M_mustWordO (i := i) (iw := 11) (zow_w (by rfl) (by decide)) (by decide) (by decide) _ h (fun W p h5 => ?_) (fun σ1 h1 f1 => ⟨rfl, ?_⟩)
  · rw [show yTest T n (yFact T n 6) (yfrom W) p = yNo T n p from yOrs_5 h5 6 false _ (by decide)]; exact yNo_Fl
  have last : ∀ σ2 : zPH, ∀ Q : zPH → Prop, zOk σ2 T n i 8 Q (ySq T n (fun q W p => .inl (yput W s f (-1) q, p))) R → (∀ W, Q W → yWm W ∧ (σ2 73 (6 * i + (W 0 4).toNat) = W 7 (W 0 4).toNat ∧ σ2 74 (6 * i + (W 0 4).toNat) = W 0 7)) → zfp i σ σ2 → (0 ≤ (σ2 58 35) ∧ (σ2 58 35) < 2) ∧ MS G zm_M_place 4 [zr G 58, iZ s, iZ (σ2 65 (σ2 58 35).toNat), iZ s0, iZ (-1)] σ2 (fun v σ63 => v = none ∧ (0 ≤ (σ63 58 35) ∧ (σ63 58 35) < 2) ∧ (0 ≤ (σ63 58 35) ∧ (σ63 58 35) < 2) ∧ ∀ σ78 : zPH, σ78 = zupd σ63 65 (σ63 58 35).toNat ((σ63 65 (σ63 58 35).toNat) + 1) → X none σ78) := by
    intro σ2 Q h2 hQ f2
    rw [h2.1.1, hi35]
    refine ⟨by omega, s_M_placeO (by omega) h2 hf rfl (fun W' hP hb => ⟨(hQ W' hP).1, ?_, fun z => by omega, fun _ => (hQ W' hP).2⟩) (fun z => by omega) (fun σ4 h4 f4 => ⟨rfl, ?_⟩)⟩
    · rw [hg, if_neg (by decide), hb.1.2.2.2.2.2.1, if_neg (by decide)]; omega
    rw [h4.1.1, hi35]
    refine ⟨by omega, by omega, ?_⟩
    rintro σ5 e5
    rw [hg] at h4
    exact hX σ5 (zOk_inc h4 (by decide) e5) ((f2.trans f4).u e5 (by rw [show zbk 65 = 1 from rfl]; omega))
  rw [h1.1.1, hi35]
  refine ⟨by omega, ?_⟩
  obtain ⟨hi1, ⟨W, p, e, hP, S⟩ | ⟨k, pl, y, ft⟩⟩ := h1
  rotate_left
  · exact s_M_test' ft.1 ⟨rfl, last σ1 (fun _ => False) (zOk.F hi1 y ft) (fun _ z => z.elim) f1.p⟩
  dsimp only at e
  obtain ⟨s1, s2, s3, s4, s5⟩ := id S
  have hm := hP.1.2.1
  have h65 : σ1 65 i = (((W 0 4).toNat : Nat) : Int) := by have := s4.1.2.2.2.2.2.1; rw [if_neg (by decide)] at this; omega
  rw [h65]
  have c' : zmc σ1 (yfrom W) i := by
    unfold zmc at s3 ⊢
    rw [yfrom_r W (by decide), yfrom_r W (by decide), yfrom_r W (by decide), yfrom_r W (by decide), yfrom_r W (by decide)]; exact s3
  have hpf : ∀ σ2, zfT i σ1 σ2 → (∀ k, k ≠ 6 * i + (W 0 4).toNat → σ2 73 k = σ1 73 k ∧ σ2 74 k = σ1 74 k) → zfp i σ1 σ2 := fun σ2 F hk => by
    refine ⟨fun q a b => F.1 q a (by omega) (by omega) (by omega), F.2.1, fun q a b k c => ?_⟩
    by_cases q73 : q = 73
    · subst q73; rw [show zbk 73 = 6 from rfl] at c; exact (hk k (by omega)).1
    · by_cases q74 : q = 74
      · subst q74; rw [show zbk 74 = 6 from rfl] at c; exact (hk k (by omega)).2
      · by_cases q75 : q < 75
        · rw [F.1 q (by omega) q73 q74 (by omega)]
        · have : zbk q = 1600 := by unfold zbk; rw [if_neg (by omega), if_neg (by omega), if_neg (by omega), if_neg (by omega)]
          rw [this] at c
          exact F.2.2 q (by omega) k c
  have hi2 : ∀ σ2, zfT i σ1 σ2 → σ2 58 35 = (i : Int) ∧ i ≤ 1 := fun σ2 F => by rw [F.2.1 35 (by omega)]; exact hi1
  refine s_M_test (W := yfrom W) rfl (by omega) s2 c' hi1 (by rw [yfrom_r W (by decide)]; exact s5) (fun σ2 W' p' eT g5 A2 c2 v73 v74 F => ⟨rfl, ?_⟩) (fun σ2 k pl y ft hk F => ⟨rfl, ?_⟩)
  · have hb := S.b
    obtain ⟨b1, b2⟩ := yTest_b T hb.2.2.2.1 (yFact_b T hb.2.2.2.1 6) (by rw [yfrom_r W (by decide)]; exact hb.1) s5.2 hb.2.2.1 eT
    obtain ⟨d1, d2, d3, d4, d5, d6⟩ := b2
    have we := ywe_r T p
    have r0 : ∀ k, k ≠ 7 → W' 0 k = W 0 k := fun k hk => by rw [d2 k hk, yfrom_r W (by decide)]
    have rr : ∀ r, r ≠ 0 → r ≠ 7 → r ≠ 9 → r ≠ 10 → r ≠ 11 → r ≠ 13 → r ≠ 14 → W' r = W r := fun r h0 h7 h9 h10 h11 h13 h14 => by rw [d1 r h0 h9 h10 h11 h13 h14, yfrom_r W h7]
    have h7 : ∀ k, W' 7 k = if k = (W 0 4).toNat then W 0 7 else W 7 k := fun k => by
      rw [d1 7 (by decide) (by decide) (by decide) (by decide) (by decide) (by decide)]
      unfold yfrom
      split
      · rename_i z; rw [z, zupd_same]
      · rename_i z; rw [zupd_nk z]
    have h07 : yfrom W 0 7 = W 0 7 := by rw [yfrom_r W (by decide)]
    rw [h07] at v73 d3 d4
    have nb : zbw σ2 W' i 8 := by
      obtain ⟨w1, w2, w3, w4⟩ := s4
      have fr : ∀ q, 60 ≤ q → q ≤ 72 → σ2 q = σ1 q := fun q a b => F.1 q (by omega) (by omega) (by omega) (by omega)
      unfold zbw
      rw [fr 60 (by decide) (by decide), fr 61 (by decide) (by decide), fr 62 (by decide) (by decide), fr 63 (by decide) (by decide), fr 64 (by decide) (by decide), fr 65 (by decide) (by decide), fr 66 (by decide) (by decide), fr 67 (by decide) (by decide), fr 68 (by decide) (by decide), fr 69 (by decide) (by decide), fr 70 (by decide) (by decide), fr 71 (by decide) (by decide), fr 72 (by decide) (by decide), r0 0 (by decide), r0 1 (by decide), r0 2 (by decide), r0 3 (by decide), r0 4 (by decide), r0 5 (by decide), r0 6 (by decide), rr 1 (by decide) (by decide) (by decide) (by decide) (by decide) (by decide) (by decide), rr 2 (by decide) (by decide) (by decide) (by decide) (by decide) (by decide) (by decide), rr 3 (by decide) (by decide) (by decide) (by decide) (by decide) (by decide) (by decide), rr 4 (by decide) (by decide) (by decide) (by decide) (by decide) (by decide) (by decide), rr 5 (by decide) (by decide) (by decide) (by decide) (by decide) (by decide) (by decide), rr 8 (by decide) (by decide) (by decide) (by decide) (by decide) (by decide) (by decide), rr 20 (by decide) (by decide) (by decide) (by decide) (by decide) (by decide) (by decide)]
      refine ⟨w1, w2, w3, fun m hm' => ?_⟩
      rw [v73, v74, h7, if_neg (by omega), if_neg (by omega), if_neg (by omega)]
      exact w4 m hm'
    refine last σ2 (fun W => yWm W ∧ (σ2 73 (6 * i + (W 0 4).toNat) = W 7 (W 0 4).toNat ∧ σ2 74 (6 * i + (W 0 4).toNat) = W 0 7)) ⟨hi2 σ2 F, Or.inl ⟨W', p', ?_, ⟨?_, ?_, ?_⟩, g5, A2, c2, nb, by omega, by omega⟩⟩ (fun _ z => z) (f1.p.trans (hpf σ2 F (fun k hk => by rw [v73, v74, if_neg hk, if_neg hk]; exact ⟨rfl, rfl⟩)))
    · have e1 : ybn (yTest T n (yFact T n 6) (yfrom W) p) (ySq T n (fun q W p => .inl (yput W s f (-1) q, p))) = R := e
      rw [eT] at e1; exact e1
    · unfold yWm
      rw [r0 0 (by decide), r0 1 (by decide), r0 2 (by decide), r0 3 (by decide), r0 4 (by decide), r0 5 (by decide), rr 1 (by decide) (by decide) (by decide) (by decide) (by decide) (by decide) (by decide)]
      exact hP.1
    · rw [v73, r0 4 (by decide), h7, if_pos rfl, if_pos rfl]
    · rw [v74, r0 4 (by decide), if_pos rfl]
  · refine last σ2 (fun _ => False) (zOk.F (hi2 σ2 F) ?_ ft) (fun _ z => z.elim) (f1.p.trans (hpf σ2 F hk))
    have e1 : ybn (yTest T n (yFact T n 6) (yfrom W) p) (ySq T n (fun q W p => .inl (yput W s f (-1) q, p))) = R := e
    rw [← e1]
    cases hr : yTest T n (yFact T n 6) (yfrom W) p with
    | inl x =>
      obtain ⟨W', p'⟩ := x
      rw [hr] at y
      obtain ⟨y1, y2, y3⟩ := y
      have := yst_sq (T := T) (n := n) (f := fun q W p => .inl (yput W s f (-1) q, p)) W' p' y1
      rw [y2, y3]; exact this
    | inr e => rw [hr] at y; exact y
theorem s_M_moverO {W : zPH} {p : Nat} {s : Int} (hs : s = 8 ∨ s = 9) (S : yRd σ T n i 8 W p) (hi : σ 58 35 = (i : Int) ∧ i ≤ 1) (hW : yWm W) (h0 : ztK T n p = 0 ∧ ztV T n p = s) (hX : ∀ σ', zOk σ' T n i 8 (fun _ => True) yid (yPiece T n W p) → zfp i σ σ' → X none σ') : MS G zm_M_mover 6 [zr G 58, iZ s] σ X := by
  have hi35 : (i : Int).toNat = i := Int.toNat_natCast i
  have hc : σ 65 i = W 0 4 := by have := S.2.2.2.1.1.2.2.2.2.2.1; rw [if_neg (by decide)] at this; omega
  have hm := hW.2.1
  have hg : ygr s = 4 := by unfold ygr; rw [if_neg (by omega), if_neg (by omega), if_pos hs]
  have ey : yPiece T n W p = if 6 ≤ W 0 4 then .inr (5, (ztS T n p : Int)) else if s = 8 then ybn (yEx T n 0 11 W (ztE T n p)) (fun W p => ybn (yTest T n (yFact T n 6) (yfrom W) p) (ySq T n (fun q W p => .inl (yput W 8 0 (-1) q, p)))) else yCh T n 20 21 (fun f W p => ybn (yEx T n 0 11 W p) (fun W p => ybn (yTest T n (yFact T n 6) (yfrom W) p) (ySq T n (fun q W p => .inl (yput W 9 f (-1) q, p))))) W (ztE T n p) := by
    unfold yPiece
    rw [h0.2, if_neg (fun z => z ⟨h0.1, by omega, by omega⟩), hg, show ymx 4 = 6 from rfl]
    by_cases q : 6 ≤ W 0 4
    · rw [if_pos ⟨by decide, q⟩, if_pos q]
    · rw [if_neg (fun z => q z.2), if_neg q, if_neg (by omega), if_neg (by omega), if_neg (by omega), if_neg (by omega), if_neg (by omega)]
  refine k_M_mover ?_
  unfold w_M_mover
  rw [hi.1, hi35, hc]
  rcases hs with rfl | rfl
  · rw [if_pos rfl] at ey
    refine ⟨by omega, s_M_countsO (P := fun W => yWm W ∧ W 0 4 < 6) (fun W p => ybn (yEx T n 0 11 W p) (fun W p => ybn (yTest T n (yFact T n 6) (yfrom W) p) (ySq T n (fun q W p => .inl (yput W 8 0 (-1) q, p))))) S hi (by omega) ⟨by omega, by decide⟩ ey (yst_ex (by decide)) (fun z => ⟨hW, z⟩) (fun σ1 h1 f1 => ⟨rfl, by decide, fun _ => ?_, fun z => absurd z (by decide)⟩)⟩
    exact s_M_mover29 (by omega) (fun z => absurd rfl z) h1 (fun σ2 h2 f2 => hX σ2 h2 (f1.trans f2))
  · rw [if_neg (show ¬ ((9 : Int) = 8) by decide)] at ey
    refine ⟨by omega, s_M_countsO (P := fun W => yWm W ∧ W 0 4 < 6) _ S hi (by omega) ⟨by omega, by decide⟩ ey yst_ch (fun z => ⟨hW, z⟩) (fun σ1 h1 f1 => ⟨rfl, by decide, fun z => absurd rfl z, fun _ => ?_⟩)⟩
    refine s_M_formsO _ h1 (fun c => yst_ex (by decide)) (fun σ2 c h2 f2 => ⟨c, rfl, ?_⟩)
    exact s_M_mover29 (by omega) (fun _ => rfl) h2 (fun σ3 h3 f3 => hX σ3 h3 ((f1.trans f2).trans f3))
theorem s_M_endsO (h : zOk σ T n i 8 (fun _ => True) yid R) (hX : ∀ σ', yEnd σ' T n i (ybn R (yEx T n 3 59)) → zfp i σ σ' → X none σ') : MS G zm_M_ends 2 [zr G 58] σ X := by
  obtain ⟨hi, ⟨W, p, e, -, S⟩ | ⟨k, pl, y, ft⟩⟩ := h
  · have e1 : (.inl (W, p) : zPR) = R := e
    rw [← e1] at hX
    have e2 : ybn (.inl (W, p)) (yEx T n 3 59) = yEx T n 3 59 W p := rfl
    rw [e2] at hX
    have hb := S.b
    obtain ⟨s1, s2, s3, s4, s5⟩ := S
    have h10 := s2.2.1
    have hE := ztE_s (T := T) hb.2.2.1
    have hS := (ztS_s (T := T) hb.2.2.1).1.1
    refine k_M_ends ⟨by omega, fun z => absurd h10 z, fun _ => s_M_isSign s2 (c := 59) (by decide) (by decide) (fun q => Or.inr ⟨rfl, ⟨by omega, fun z => absurd h10 z, fun _ => ?_⟩⟩) (fun q => Or.inl ⟨rfl, ?_⟩)⟩
    · rw [yEx_y q] at hX
      refine s_M_looks s2.1 h10 hE.2.1 (s2.2.2.2.1.2.2.1 s1).2 (fun σ1 k1 f1 => ⟨rfl, ?_⟩)
      have k58 : ∀ k, k ≠ 5 → k ≠ 6 → k ≠ 7 → k ≠ 8 → k ≠ 9 → k ≠ 12 → σ1 58 k = σ 58 k := f1.2
      refine hX σ1 ⟨by rw [k58 35 (by decide) (by decide) (by decide) (by decide) (by decide) (by decide)]; exact hi, Or.inl ⟨W, _, rfl, ⟨s2.1.to (f1.1 59 (by decide)) (k58 4 (by decide) (by decide) (by decide) (by decide) (by decide) (by decide)) (k58 11 (by decide) (by decide) (by decide) (by decide) (by decide) (by decide)), by rw [k58 10 (by decide) (by decide) (by decide) (by decide) (by decide) (by decide)]; exact h10, hE.2.1, k1⟩, s3.to (fun q _ => f1.1 q (by omega)) (k58 34 (by decide) (by decide) (by decide) (by decide) (by decide) (by decide)), s4.to (fun q _ _ => f1.1 q (by omega)), by omega, by omega⟩⟩ f1.q.p
    · rw [yEx_n q] at hX
      rw [s2.2.2.2.1.1, ← ztF_S s1]
      refine s_M_blame h10 (by decide) (fun σ1 F f1 _ => ⟨rfl, ?_⟩)
      have e10 := F.1
      exact ⟨by omega, fun _ => hX σ1 ⟨by rw [f1.2 35 (by decide)]; exact hi, Or.inr ⟨1, _, rfl, F, by rw [f1.2 34 (by decide)]; exact hb.2.2.2.2⟩⟩ f1.p, fun z => by omega⟩
  · have e10 := ft.1.1
    have e11 := ft.1.2.2
    refine k_M_ends ⟨by omega, fun _ => ⟨by omega, fun _ => hX σ ⟨hi, Or.inr ⟨k, pl, ?_, ft⟩⟩ zfp.rf, fun z => by omega⟩, fun z => by omega⟩
    cases R with
    | inl x =>
      obtain ⟨W, p⟩ := x
      obtain ⟨y1, y2, y3⟩ := y
      show yEx T n 3 59 W p = _
      rw [yEx_n (fun z => by have := z.1; omega), y2, y3]; rfl
    | inr e =>
      obtain ⟨y1, y2⟩ := y
      rw [y1, y2]; rfl
theorem s_M_statementO {W : zPH} {p : Nat} (S : yRd σ T n i 8 W p) (hi : σ 58 35 = (i : Int) ∧ i ≤ 1) (hW : yWm W) (hN : yNr W) (hX : ∀ σ', yEnd σ' T n i (ybn (yPiece T n W p) (yEx T n 3 59)) → zfp i σ σ' → X none σ') : MS G zm_M_statement 7 [zr G 58] σ X := by
  have fin : ∀ σ1, zOk σ1 T n i 8 (fun _ => True) yid (yPiece T n W p) → zfp i σ σ1 → b_M_statement_112 G X σ1 := fun σ1 h1 f1 => s_M_endsO h1 (fun σ2 h2 f2 => ⟨rfl, hX σ2 h2 (f1.trans f2)⟩)
  have pc : ∀ v : Int, yIs T n p 0 v → 1 ≤ v → v ≤ 9 → ∀ Z : zPR, (ygr v ≠ 8) → (if v = 1 then yCh T n 12 15 (fun c => yCh T n 16 19 (fun w => ySq T n (fun q W p => .inl (yput W 1 (yco c) w q, p)))) W (ztE T n p)
  else if v = 2 ∨ v = 3 then yCh T n 20 21 (fun f => ySq T n (fun q W p' => .inl (yput W v f (-1) q, p'))) W (ztE T n p)
  else ybn (yName T n W (ztE T n p)) (ySq T n (fun q W p => .inl (yput W 7 (-1) (-1) q, p)))) = Z → (v = 1 ∨ v = 2 ∨ v = 3 ∨ v = 7) → yPiece T n W p = if ymx (ygr v) ≤ W 0 (ygr v) then .inr (5, (ztS T n p : Int)) else Z := by
    intro v q a b Z hg hZ hv
    unfold yPiece
    rw [q.2, if_neg (fun z => z ⟨q.1, a, b⟩)]
    by_cases y : ymx (ygr v) ≤ W 0 (ygr v)
    · rw [if_pos ⟨hg, y⟩, if_pos y]
    · rw [if_neg (fun z => y z.2), if_neg y, ← hZ]
      by_cases v1 : v = 1
      · rw [if_pos v1, if_pos v1]
      · rw [if_neg v1, if_neg v1]
        by_cases v2 : v = 2 ∨ v = 3
        · rw [if_pos v2, if_pos v2]
        · rw [if_neg v2, if_neg v2, if_neg (by omega), if_neg (by omega), if_pos (by omega)]
  refine k_M_statement (s_M_isWord S.2.1 (i := 1) (zow_w (by rfl) (by decide)) (by decide) (by decide) (fun q => Or.inr ⟨rfl, ?_⟩) (fun q1 => Or.inl ⟨rfl, ?_⟩))
  · exact s_M_lampO S hi hW (pc 1 q (by decide) (by decide) _ (by decide) rfl (by decide)) (fun σ1 h1 f1 => ⟨rfl, fin σ1 h1 f1⟩)
  refine s_M_isWord S.2.1 (i := 2) (zow_w (by rfl) (by decide)) (by decide) (by decide) (fun q => Or.inr ⟨rfl, ?_⟩) (fun q2 => Or.inl ⟨rfl, ?_⟩)
  · exact s_M_mirrorO (by decide) S hi hW (pc 2 q (by decide) (by decide) _ (by decide) rfl (by decide)) (fun σ1 h1 f1 => ⟨rfl, fin σ1 h1 f1⟩)
  refine s_M_isWord S.2.1 (i := 3) (zow_w (by rfl) (by decide)) (by decide) (by decide) (fun q => Or.inr ⟨rfl, ?_⟩) (fun q3 => Or.inl ⟨rfl, ?_⟩)
  · exact s_M_mirrorO (by decide) S hi hW (pc 3 q (by decide) (by decide) _ (by decide) rfl (by decide)) (fun σ1 h1 f1 => ⟨rfl, fin σ1 h1 f1⟩)
  refine s_M_isWord S.2.1 (i := 8) (zow_w (by rfl) (by decide)) (by decide) (by decide) (fun q => Or.inr ⟨rfl, ?_⟩) (fun q8 => Or.inl ⟨rfl, ?_⟩)
  · exact s_M_moverO (by decide) S hi hW q (fun σ1 h1 f1 => ⟨rfl, fin σ1 h1 f1⟩)
  refine s_M_isWord S.2.1 (i := 9) (zow_w (by rfl) (by decide)) (by decide) (by decide) (fun q => Or.inr ⟨rfl, ?_⟩) (fun q9 => Or.inl ⟨rfl, ?_⟩)
  · exact s_M_moverO (by decide) S hi hW q (fun σ1 h1 f1 => ⟨rfl, fin σ1 h1 f1⟩)
  refine s_M_isWord S.2.1 (i := 7) (zow_w (by rfl) (by decide)) (by decide) (by decide) (fun q => Or.inr ⟨rfl, ?_⟩) (fun q7 => Or.inl ⟨rfl, ?_⟩)
  · exact s_M_eyeO S hi hW hN (pc 7 q (by decide) (by decide) _ (by decide) rfl (by decide)) (fun σ1 h1 f1 => ⟨rfl, fin σ1 h1 f1⟩)
  refine s_M_plainO S hi hW (fun k0 => ⟨fun z => q1 ⟨k0, z⟩, fun z => q2 ⟨k0, z⟩, fun z => q3 ⟨k0, z⟩, fun z => q7 ⟨k0, z⟩, fun z => q8 ⟨k0, z⟩, fun z => q9 ⟨k0, z⟩⟩) (fun σ1 h1 f1 => ⟨rfl, fin σ1 h1 f1⟩)
end MST
