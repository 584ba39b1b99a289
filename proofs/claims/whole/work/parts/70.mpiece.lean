theorem ztV_n {T : Nat → Int} {n p : Nat} (hp : p ≤ n) (h : ztK T n p = 1) : 0 ≤ ztV T n p ∧ ztV T n p < 387420489 := by
  obtain ⟨a, b, c, d, e⟩ := ztw_l hp (Or.inr h)
  have he := e h
  have hv : ztV T n p = zpkn T (ztS T n p) (ztE T n p - ztS T n p) := by unfold ztV; rw [if_neg (by omega), if_pos h]
  have hr := zpkn_r (T := T) (s := ztS T n p) (k := ztE T n p - ztS T n p) (fun j hj => c _ (by omega) (by omega))
  rw [hv]
  refine ⟨hr.1, ?_⟩
  have : (27 : Int) ^ (ztE T n p - ztS T n p) ≤ 27 ^ 6 := by
    exact_mod_cast Nat.pow_le_pow_right (n := 27) (by decide) he
  have h6 : (27 : Int) ^ 6 = 387420489 := by decide
  omega
theorem yName_n {T : Nat → Int} {n p : Nat} {W : zPH} (h : ztK T n p ≠ 1) : yName T n W p = yNo T n p := by unfold yName; rw [if_pos h]
theorem yeN_r (W : zPH) (e : Int) : ∀ m : Nat, -1 ≤ yeN W e m ∧ yeN W e m < (m : Int) ∨ yeN W e m = -1 := fun m => by
  induction m with
  | zero => exact Or.inr rfl
  | succ m ih =>
    unfold yeN
    split
    · omega
    · split
      · left; omega
      · right; rfl
section MV2
variable {G : zG} {σ : zPH} {X : zX} {T : Nat → Int} {n i g : Nat} {P : zPH → Prop} {R : zPR}
theorem s_M_eyeO {W : zPH} {p : Nat} (S : yRd σ T n i 8 W p) (hi : σ 58 35 = (i : Int) ∧ i ≤ 1) (hW : yWm W) (hN : yNr W) (e : R = if 8 ≤ W 0 5 then .inr (5, (ztS T n p : Int)) else ybn (yName T n W (ztE T n p)) (ySq T n (fun q W p => .inl (yput W 7 (-1) (-1) q, p)))) (hX : ∀ σ', zOk σ' T n i 8 (fun _ => True) yid R → zfp i σ σ' → X none σ') : MS G zm_M_eye 5 [zr G 58] σ X := by
  have hi35 : (i : Int).toNat = i := Int.toNat_natCast i
  have hc : σ 66 i = W 0 5 := by have := S.2.2.2.1.1.2.2.2.2.2.2; rw [if_neg (by decide)] at this; omega
  have hm := hW.2.1
  refine k_M_eye ?_
  unfold w_M_eye
  rw [hi.1, hi35, hc]
  refine ⟨by omega, s_M_countsO (P := fun W => yWm W ∧ W 0 5 < 8 ∧ yNr W) (fun W p => ybn (yName T n W p) (ySq T n (fun q W p => .inl (yput W 7 (-1) (-1) q, p)))) S hi (by omega) ⟨by omega, by decide⟩ e (fun W p h5 => ?_) (fun z => ⟨hW, z, hN⟩) (fun σ1 h1 f1 => ⟨rfl, ?_⟩)⟩
  · show yFl T n (ybn (yName T n W p) _) 1 _
    rw [yName_n (by omega)]; exact yNo_Fl
  have bad77 : ∀ (σ2 : zPH) (k pl : Int), σ2 58 35 = (i : Int) ∧ i ≤ 1 → yFl T n R k pl → zFt σ2 k pl → zfp i σ σ2 → b_M_eye_77 G X σ2 := fun σ2 k pl hi2 y ft f2 => by
    have e10 := ft.1.1
    have e11 := ft.1.2.2
    exact ⟨by omega, fun z => by omega, fun _ => hX σ2 (zOk.F hi2 y ft) f2⟩
  have bad49 : ∀ (σ2 : zPH) (k pl : Int), σ2 58 35 = (i : Int) ∧ i ≤ 1 → yFl T n R k pl → zFt σ2 k pl → zfp i σ σ2 → b_M_eye_49 G X σ2 := fun σ2 k pl hi2 y ft f2 => by
    have e10 := ft.1.1
    have e11 := ft.1.2.2
    exact ⟨by omega, fun z => bad77 σ2 k pl hi2 y ft f2, fun z => by omega⟩
  obtain ⟨hi1, ⟨W1, p1, e1, hP, S1⟩ | ⟨k, pl, y, ft⟩⟩ := h1
  rotate_left
  · have e10 := ft.1.1
    have e11 := ft.1.2.2
    exact ⟨by omega, fun z => bad49 σ1 k pl hi1 y ft f1, fun z => by omega⟩
  clear e
  dsimp only at e1
  have hb := S1.b
  obtain ⟨hWm, h58, hNr⟩ := hP
  have h10 := S1.2.1.2.1
  have hc1 : σ1 66 i = W1 0 5 := by have := S1.2.2.2.1.1.2.2.2.2.2.2; rw [if_neg (by decide)] at this; omega
  obtain ⟨z1, z2, z3, z4⟩ := zmk_1 S1.2.1
  have hst := S1.2.1.2.2.2.1.1
  have kr := S1.2.1.2.2.2.1.2.2.2.2.2.2.2.2.2.2
  have hm1 := hWm.2.1
  have bl : ztK T n p1 ≠ 1 → b_M_eye_40 G X σ1 := fun hk => by
    unfold b_M_eye_40
    rw [hst, ← ztF_S S1.1]
    refine s_M_blame h10 (by decide) (fun σ3 F3 f3 _ => ⟨rfl, ?_⟩)
    refine bad49 σ3 1 _ (by rw [f3.2 35 (by decide)]; exact hi1) ?_ ⟨F3, by rw [f3.2 34 (by decide)]; exact hb.2.2.2.2⟩ (f1.trans f3.p)
    rw [← e1, yName_n hk]; exact yNo_Fl
  have go : ztK T n p1 = 1 → b_M_eye_49 G X σ1 := fun hk => by
    have hv := ztV_n hb.2.2.1 hk
    obtain ⟨-, -, kwd⟩ := z2 hk
    have ey : yName T n W1 p1 = if yeN W1 (ztV T n p1) (W1 0 5).toNat ≠ -1 then .inr (3, (ztS T n p1 : Int)) else .inl (zupd W1 20 (W1 0 5).toNat (ztV T n p1), ztE T n p1) := by
      unfold yName; rw [if_neg (by omega)]
    have hyr := yeN_r W1 (ztV T n p1)
    refine ⟨by omega, fun z => absurd h10 z, fun _ => s_M_eyeOf hi1 hc1 (by omega) (fun e he => (S1.2.2.2.1.2.2.1 e he).1) hNr kwd hv z3 ⟨_, rfl, by have := hyr (W1 0 5).toNat; omega, fun z => ?_, fun z => ?_⟩⟩
    · rw [ey, if_neg (fun u => u z)] at e1
      have e1' : ySq T n (fun q W p => .inl (yput W 7 (-1) (-1) q, p)) (zupd W1 20 (W1 0 5).toNat (ztV T n p1)) (ztE T n p1) = R := e1
      refine ⟨by omega, fun _ => ?_, fun u => by omega⟩
      rw [hi1.1, hi35, hc1]
      refine ⟨by omega, by omega, ?_⟩
      rw [show (8 * (i : Int) + W1 0 5).toNat = 8 * i + (W1 0 5).toNat by omega]
      rintro σ2 e2
      have r2 : ∀ q, q ≠ 71 → σ2 q = σ1 q := fun q hq => by rw [e2, zupd_row hq]
      have rW : ∀ r, r ≠ 20 → zupd W1 20 (W1 0 5).toNat (ztV T n p1) r = W1 r := fun r hr => by rw [zupd_row hr]
      have S2 : yRd σ2 T n i 8 (zupd W1 20 (W1 0 5).toNat (ztV T n p1)) p1 := by
        obtain ⟨s1, s2, s3, s4, s5⟩ := S1
        refine ⟨s1, s2.to (r2 59 (by decide)) (fun k _ _ => by rw [r2 58 (by decide)]), ?_, ?_, by rw [rW 0 (by decide)]; exact s5⟩
        · have c' : zmc σ2 W1 i := s3.to (fun q _ => r2 q (by omega)) (by rw [r2 58 (by decide)])
          unfold zmc at c' ⊢
          rw [rW 0 (by decide), rW 9 (by decide), rW 10 (by decide), rW 13 (by decide), rW 14 (by decide)]
          exact c'
        · obtain ⟨w1, w2, w3, w4⟩ := s4
          unfold zbw
          rw [rW 0 (by decide), rW 1 (by decide), rW 2 (by decide), rW 3 (by decide), rW 4 (by decide), rW 5 (by decide), rW 7 (by decide), rW 8 (by decide), r2 60 (by decide), r2 61 (by decide), r2 62 (by decide), r2 63 (by decide), r2 64 (by decide), r2 65 (by decide), r2 66 (by decide), r2 67 (by decide), r2 68 (by decide), r2 69 (by decide), r2 70 (by decide), r2 72 (by decide), r2 73 (by decide), r2 74 (by decide)]
          refine ⟨w1, w2, fun e he => ⟨?_, (w3 e he).2⟩, w4⟩
          rw [zupd_nk (by omega), e2, zupd_nk (by omega)]
          exact (w3 e he).1
      refine s_M_nextN S2.2.1 (fun σ3 a3 f3 => ⟨rfl, ?_⟩)
      have hE := ztE_s (T := T) hb.2.2.1
      have hS := (ztS_s (T := T) hb.2.2.1).1.1
      have h3 : zOk σ3 T n i 8 (fun W' => yWm W' ∧ W' 0 5 < 8 ∧ zWd (W' 20 (W' 0 5).toNat) (σ3 71 (8 * i + (W' 0 5).toNat))) (ySq T n (fun q W p => .inl (yput W 7 (-1) (-1) q, p))) R := by
        refine S2.N (by rw [r2 58 (by decide)]; exact hi1) (by omega) f3 a3 ?_ e1' yst_sq
        unfold yWm
        rw [rW 0 (by decide), rW 1 (by decide), zupd_same, f3.1 71 (by decide), e2, zupd_same]
        exact ⟨hWm, h58, kwd⟩
      rw [h3.1.1, hi35]
      have h66 : σ3 66 i = W1 0 5 := by rw [f3.1 66 (by decide), r2 66 (by decide)]; exact hc1
      refine ⟨by omega, s_M_placeO (by decide) h3 (fun _ => rfl) rfl (fun W' hP hb => ⟨hP.1, ?_, fun _ => hP.2, fun z => absurd z (by decide)⟩) (fun _ => by omega) (fun σ4 h4 f4 => ⟨rfl, ?_⟩)⟩
      · rw [if_neg (by decide), hb.1.2.2.2.2.2.2, if_neg (by decide), show ygr 7 = 5 from rfl]; omega
      rw [h4.1.1, hi35]
      refine ⟨by omega, by omega, ?_⟩
      rintro σ5 e5
      exact hX σ5 (zOk_inc h4 (by decide) e5) ((((f1.u e2 (by rw [show zbk 71 = 8 from rfl]; omega)).trans f3.p).trans f4).u e5 (by rw [show zbk 66 = 1 from rfl]; omega))
    · rw [ey, if_pos z] at e1
      rw [hst]
      refine s_M_blame h10 (by decide) (fun σ3 F3 f3 _ => ⟨rfl, ?_⟩)
      refine bad77 σ3 3 _ (by rw [f3.2 35 (by decide)]; exact hi1) ?_ ⟨F3, by rw [f3.2 34 (by decide)]; exact hb.2.2.2.2⟩ (f1.trans f3.p)
      rw [← e1]; exact ⟨rfl, rfl⟩
  refine ⟨by omega, fun z => absurd h10 z, fun _ => ⟨by omega, fun z => bl (fun y => z (z2 y).1), fun z => s_M_isOwn z3 (fun y => Or.inr ⟨rfl, bl (fun u => y (z2 u).2.1)⟩) (fun y => Or.inl ⟨rfl, go (z1 z y)⟩)⟩⟩
theorem s_M_plainO {W : zPH} {p : Nat} (S : yRd σ T n i 8 W p) (hi : σ 58 35 = (i : Int) ∧ i ≤ 1) (hW : yWm W) (h1 : ztK T n p = 0 → ztV T n p ≠ 1 ∧ ztV T n p ≠ 2 ∧ ztV T n p ≠ 3 ∧ ztV T n p ≠ 7 ∧ ztV T n p ≠ 8 ∧ ztV T n p ≠ 9) (hX : ∀ σ', zOk σ' T n i 8 (fun _ => True) yid (yPiece T n W p) → zfp i σ σ' → X none σ') : MS G zm_M_plain 5 [zr G 58] σ X := by
  have h10 := S.2.1.2.1
  have hE := ztE_s (T := T) S.b.2.2.1
  have hS := (ztS_s (T := T) S.b.2.2.1).1.1
  have nm : ∀ (s : Int), s = 4 ∨ s = 5 ∨ s = 6 → ygr s = 8 := fun s hs => by unfold ygr; rw [if_neg (by omega), if_neg (by omega), if_neg (by omega), if_neg (by omega)]
  have last : ∀ (σ2 : zPH) (s f : Int), (s = 4 ∨ s = 5 ∨ s = 6) → zOk σ2 T n i 8 yWm (ySq T n (fun q W p => .inl (yput W s f (-1) q, p))) (yPiece T n W p) → zfp i σ σ2 → b_M_plain_84 G X s f σ2 := fun σ2 s f hs h2 f2 => by
    refine s_M_placeO (by omega) h2 (fun _ => rfl) rfl (fun W' hP hb => ⟨hP, by rw [if_pos (nm s hs)], fun z => by omega, fun z => by omega⟩) (fun z => by omega) (fun σ4 h4 f4 => ⟨rfl, ?_⟩)
    rw [nm s hs] at h4
    exact hX σ4 h4 (f2.trans f4)
  have plain56 : ∀ s : Int, s = 5 ∨ s = 6 → yIs T n p 0 s → b_M_plain_46 G X 0 s σ := fun s hs q => by
    refine ⟨by omega, fun z => ⟨by omega, fun y => absurd h10 y, fun _ => s_M_nextN S.2.1 (fun σ1 a1 f1 => ⟨rfl, ⟨by decide, fun _ => last σ1 s (-1) (by omega) (S.N (P := yWm) hi (by omega) f1 a1 hW ?_ yst_sq) f1.p, fun u => absurd rfl u⟩⟩)⟩, fun z => by omega⟩
    unfold yPiece
    obtain ⟨q0, q1⟩ := q
    have hv := q1
    rw [if_neg (fun z => z ⟨q0, by omega, by omega⟩), if_neg (fun z => z.1 (nm _ (by omega))), if_neg (by omega), if_neg (by omega), if_neg (by omega), if_pos (by omega), q1]
  have none' : ¬ yIs T n p 0 4 → ¬ yIs T n p 0 5 → ¬ yIs T n p 0 6 → b_M_plain_46 G X 0 (-1) σ := fun q4 q5 q6 => by
    refine ⟨by decide, fun z => absurd rfl z, fun _ => ?_⟩
    rw [S.2.1.2.2.2.1.1, ← ztF_S S.1]
    refine s_M_blame h10 (by decide) (fun σ3 F3 f3 _ => ⟨rfl, ?_⟩)
    have e10 := F3.1
    have e12 := S.b
    refine ⟨by omega, fun _ => ⟨by decide, fun _ => s_M_place' F3 ⟨rfl, hX σ3 (S.Fl hi f3 F3 ?_) f3.p⟩, fun u => absurd rfl u⟩, fun u => by omega⟩
    unfold yPiece
    rw [if_pos]
    · exact yNo_Fl
    · rintro ⟨a, b, c⟩
      have := h1 a
      have : ztV T n p = 4 ∨ ztV T n p = 5 ∨ ztV T n p = 6 := by omega
      rcases this with y | y | y
      · exact q4 ⟨a, y⟩
      · exact q5 ⟨a, y⟩
      · exact q6 ⟨a, y⟩
  refine k_M_plain (s_M_isWord S.2.1 (i := 4) (zow_w (by rfl) (by decide)) (by decide) (by decide) (fun q => ⟨1, Or.inr rfl, rfl, by decide, fun z => absurd z (by decide), fun _ => ?_⟩) (fun q4 => ⟨0, Or.inl rfl, rfl, by decide, fun _ => ?_, fun z => absurd rfl z⟩))
  · refine ⟨by decide, fun z => ⟨by omega, fun y => absurd h10 y, fun _ => s_M_nextN S.2.1 (fun σ1 a1 f1 => ⟨rfl, ⟨by decide, fun u => absurd u (by decide), fun _ => ?_⟩⟩)⟩, fun z => absurd z (by decide)⟩
    refine s_M_colourO (P := yWm) (R := yPiece T n W p) (fun x => ySq T n (fun q W p => .inl (yput W 4 x (-1) q, p))) (S.N (P := yWm) hi (by omega) f1 a1 hW ?_ yst_ch) (fun _ => yst_sq) (fun σ2 c h2 f2 => ⟨c, rfl, last σ2 4 c (by omega) h2 (f1.p.trans f2)⟩)
    unfold yPiece
    obtain ⟨q0, q1⟩ := q
    rw [if_neg (fun z => z ⟨q0, by omega, by omega⟩), if_neg (fun z => z.1 (nm _ (by omega))), if_neg (by omega), if_neg (by omega), if_pos q1]
  · refine s_M_isWord S.2.1 (i := 5) (zow_w (by rfl) (by decide)) (by decide) (by decide) (fun q => Or.inr ⟨rfl, plain56 5 (by omega) q⟩) (fun q5 => Or.inl ⟨rfl, ?_⟩)
    exact s_M_isWord S.2.1 (i := 6) (zow_w (by rfl) (by decide)) (by decide) (by decide) (fun q => Or.inr ⟨rfl, plain56 6 (by omega) q⟩) (fun q6 => Or.inl ⟨rfl, none' q4 q5 q6⟩)
end MV2
