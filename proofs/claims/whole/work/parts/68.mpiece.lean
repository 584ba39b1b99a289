/-- told nothing by a token that is none -/
def yst (T : Nat → Int) (n : Nat) (f : zPH → Nat → zPR) : Prop := ∀ W p, ztK T n p = 5 → yFl T n (f W p) 1 (ztF T n p)
def yid : zPH → Nat → zPR := fun W p => .inl (W, p)
theorem yst_id {T : Nat → Int} {n : Nat} : yst T n yid := fun _ _ h => ⟨h, rfl, rfl⟩
theorem yst_ch {T : Nat → Int} {n : Nat} {a b : Int} {f : Int → zPH → Nat → zPR} : yst T n (yCh T n a b f) := fun W p h => by rw [yCh_n (by omega)]; exact yNo_Fl
theorem yEx_n {T : Nat → Int} {n p : Nat} {k v : Int} {W : zPH} (h : ¬ yIs T n p k v) : yEx T n k v W p = yNo T n p := by unfold yEx; rw [if_neg h]
theorem yEx_y {T : Nat → Int} {n p : Nat} {k v : Int} {W : zPH} (h : yIs T n p k v) : yEx T n k v W p = .inl (W, ztE T n p) := by unfold yEx; rw [if_pos h]
theorem yst_ex {T : Nat → Int} {n : Nat} {k v : Int} {f : zPH → Nat → zPR} (hk : k ≠ 5) : yst T n (fun W p => ybn (yEx T n k v W p) f) := fun W p h => by
  show yFl T n (ybn (yEx T n k v W p) f) 1 _
  rw [yEx_n (fun z => hk (by rw [← z.1, h]))]; exact yNo_Fl
theorem yst_sq {T : Nat → Int} {n : Nat} {f : Nat → zPH → Nat → zPR} : yst T n (ySq T n f) := fun W p h => by
  unfold ySq; rw [yEx_n (fun z => by have := z.1; omega)]; exact yNo_Fl
/-- the model stands at p with W -/
def yRd (σ : zPH) (T : Nat → Int) (n i g : Nat) (W : zPH) (p : Nat) : Prop := ztK T n p ≠ 5 ∧ zmP σ T n p ∧ zmc σ W i ∧ zbw σ W i g ∧ 2 * W 0 7 ≤ (p : Int) ∧ 0 < p
/-- the model stands where f gives R, or has told R's fault -/
def zOk (σ : zPH) (T : Nat → Int) (n i g : Nat) (P : zPH → Prop) (f : zPH → Nat → zPR) (R : zPR) : Prop := (σ 58 35 = (i : Int) ∧ i ≤ 1) ∧ ((∃ W p, f W p = R ∧ P W ∧ yRd σ T n i g W p) ∨ ∃ k pl, yFl T n R k pl ∧ zFt σ k pl)
section MP
variable {G : zG} {σ : zPH} {X : zX} {T : Nat → Int} {n i g : Nat} {P : zPH → Prop} {R : zPR}
theorem yRd.b {W : zPH} {p : Nat} (h : yRd σ T n i g W p) : 0 ≤ W 0 7 ∧ W 0 7 ≤ 800 ∧ p ≤ n ∧ n ≤ 1600 ∧ (0 ≤ σ 58 34 ∧ σ 58 34 ≤ 1600) := by
  obtain ⟨a, b, c, d, e, f⟩ := h
  have := b.1.2.2.1
  have := b.2.2.1
  have := c.2.1
  have h4 := c.1
  exact ⟨by omega, by omega, by omega, by omega, by omega, by omega⟩
theorem zOk.F {f : zPH → Nat → zPR} {k pl : Int} (hi : σ 58 35 = (i : Int) ∧ i ≤ 1) (y : yFl T n R k pl) (ft : zFt σ k pl) : zOk σ T n i g P f R := ⟨hi, Or.inr ⟨k, pl, y, ft⟩⟩
/-- behind next() -/
theorem yRd.N {W : zPH} {p p' : Nat} {σ' : zPH} {f : zPH → Nat → zPR} (h : yRd σ T n i g W p) (hi : σ 58 35 = (i : Int) ∧ i ≤ 1) (hp : p ≤ p') (fq : zfq σ σ') (a : zmN σ' T n p') (hP : P W) (e : f W p' = R) (hs : yst T n f) : zOk σ' T n i g P f R := by
  have hb := h.b
  obtain ⟨h5, A, c, w, b⟩ := h
  have hi' : σ' 58 35 = (i : Int) ∧ i ≤ 1 := by rw [fq.2 35 (by decide)]; exact hi
  rcases a with ⟨g5, a⟩ | ⟨g5, a⟩
  · exact ⟨hi', Or.inl ⟨W, p', e, hP, g5, a, c.to (fun q _ => fq.1 q (by omega)) (fq.2 34 (by decide)), w.to (fun q _ _ => fq.1 q (by omega)), by omega, by omega⟩⟩
  · exact ⟨hi', Or.inr ⟨1, _, by rw [← e]; exact hs W p' g5, a, by rw [fq.2 34 (by decide)]; exact hb.2.2.2.2⟩⟩
theorem yRd.Fl {W : zPH} {p : Nat} {σ' : zPH} {f : zPH → Nat → zPR} {k pl : Int} (h : yRd σ T n i g W p) (hi : σ 58 35 = (i : Int) ∧ i ≤ 1) (fq : zfq σ σ') (a : zmFt σ' k pl) (e : yFl T n R k pl) : zOk σ' T n i g P f R :=
  ⟨by rw [fq.2 35 (by decide)]; exact hi, Or.inr ⟨k, pl, e, a, by rw [fq.2 34 (by decide)]; exact h.b.2.2.2.2⟩⟩
theorem s_M_colourO (f : Int → zPH → Nat → zPR) (h : zOk σ T n i g P (yCh T n 12 15 (fun c => f (yco c))) R) (hs : ∀ c, yst T n (f c)) (hX : ∀ σ' c, zOk σ' T n i g P (f c) R → zfp i σ σ' → X (some (iZ c)) σ') : MS G zm_M_colour 3 [zr G 58] σ X := by
  obtain ⟨hi, ⟨W, p, e, hP, S⟩ | ⟨k, pl, y, ft⟩⟩ := h
  · have hE := (ztE_s (T := T) S.2.1.2.2.1)
    have hS := (ztS_s (T := T) S.2.1.2.2.1).1.1
    refine s_M_colour S.2.1 (fun q0 q1 q2 σ1 a1 f1 => hX σ1 _ (S.N hi (by omega) f1 a1 hP (by rw [← e, yCh_y ⟨q0, q1, q2⟩]) (hs _)) f1.p) (fun q σ1 x a1 f1 => hX σ1 x (S.Fl hi f1 a1 (by rw [← e, yCh_n q]; exact yNo_Fl)) f1.p)
  · exact s_M_colour' ft.1 (hX σ 0 (zOk.F hi y ft) zfp.rf)
theorem s_M_waysO (f : Int → zPH → Nat → zPR) (h : zOk σ T n i g P (yCh T n 16 19 f) R) (hs : ∀ c, yst T n (f c)) (hX : ∀ σ' c, zOk σ' T n i g P (f c) R → zfp i σ σ' → X (some (iZ c)) σ') : MS G zm_M_ways 3 [zr G 58] σ X := by
  obtain ⟨hi, ⟨W, p, e, hP, S⟩ | ⟨k, pl, y, ft⟩⟩ := h
  · have hE := (ztE_s (T := T) S.2.1.2.2.1)
    have hS := (ztS_s (T := T) S.2.1.2.2.1).1.1
    refine s_M_ways S.2.1 (fun q0 q1 q2 σ1 a1 f1 => hX σ1 _ (S.N hi (by omega) f1 a1 hP (by rw [← e, yCh_y ⟨q0, q1, q2⟩]) (hs _)) f1.p) (fun q σ1 x a1 f1 => hX σ1 x (S.Fl hi f1 a1 (by rw [← e, yCh_n q]; exact yNo_Fl)) f1.p)
  · exact s_M_ways' ft.1 (hX σ (-1) (zOk.F hi y ft) zfp.rf)
theorem s_M_formsO (f : Int → zPH → Nat → zPR) (h : zOk σ T n i g P (yCh T n 20 21 f) R) (hs : ∀ c, yst T n (f c)) (hX : ∀ σ' c, zOk σ' T n i g P (f c) R → zfp i σ σ' → X (some (iZ c)) σ') : MS G zm_M_forms 3 [zr G 58] σ X := by
  obtain ⟨hi, ⟨W, p, e, hP, S⟩ | ⟨k, pl, y, ft⟩⟩ := h
  · have hE := (ztE_s (T := T) S.2.1.2.2.1)
    have hS := (ztS_s (T := T) S.2.1.2.2.1).1.1
    refine s_M_forms S.2.1 (fun q0 q1 q2 σ1 a1 f1 => hX σ1 _ (S.N hi (by omega) f1 a1 hP (by rw [← e, yCh_y ⟨q0, q1, q2⟩]) (hs _)) f1.p) (fun q σ1 x a1 f1 => hX σ1 x (S.Fl hi f1 a1 (by rw [← e, yCh_n q]; exact yNo_Fl)) f1.p)
  · exact s_M_forms' ft.1 (hX σ (-1) (zOk.F hi y ft) zfp.rf)
theorem s_M_mustWordO {w iw : Int} (hw : ∀ x : Int, x = w ↔ zow x = iw) (h0 : 0 ≤ iw) (hJ : zJ w) (f : zPH → Nat → zPR) (h : zOk σ T n i g P (fun W p => ybn (yEx T n 0 iw W p) f) R) (hs : yst T n f) (hX : ∀ σ', zOk σ' T n i g P f R → zfq σ σ' → X none σ') : MS G zm_M_mustWord 3 [zr G 58, lZ w] σ X := by
  obtain ⟨hi, ⟨W, p, e, hP, S⟩ | ⟨k, pl, y, ft⟩⟩ := h
  · have hE := (ztE_s (T := T) S.2.1.2.2.1)
    have hS := (ztS_s (T := T) S.2.1.2.2.1).1.1
    have e : ybn (yEx T n 0 iw W p) f = R := e
    refine s_M_mustWord S.2.1 hw h0 hJ (fun q σ1 a1 f1 => hX σ1 (S.N hi (by omega) f1 a1 hP (by rw [← e, yEx_y q]; rfl) hs) f1) (fun q σ1 a1 f1 => hX σ1 (S.Fl hi f1 a1 (by rw [← e, yEx_n q]; exact yNo_Fl)) f1)
  · exact s_M_mustWord' ft.1 (hX σ (zOk.F hi y ft) zfq.rf)
theorem s_M_countsO {W : zPH} {p : Nat} {n0 most : Int} (f : zPH → Nat → zPR) (S : yRd σ T n i g W p) (hi : σ 58 35 = (i : Int) ∧ i ≤ 1) (h0 : n0 ≤ most) (hI : zI n0 ∧ zI most) (e : R = if most ≤ n0 then .inr (5, (ztS T n p : Int)) else f W (ztE T n p)) (hs : yst T n f) (hP : n0 < most → P W) (hX : ∀ σ', zOk σ' T n i g P f R → zfp i σ σ' → X none σ') : MS G zm_M_counts 3 [zr G 58, iZ n0, iZ most] σ X := by
  have h10 := S.2.1.2.1
  have hE := (ztE_s (T := T) S.2.1.2.2.1)
  have hS := (ztS_s (T := T) S.2.1.2.2.1).1.1
  refine k_M_counts ⟨by omega, fun z => absurd h10 z, fun _ => ⟨hI, fun z => ⟨by omega, fun y => absurd h10 y, fun _ => ?_⟩, fun z => ?_⟩⟩
  · rw [if_neg (by omega)] at e
    exact s_M_nextN S.2.1 (fun σ1 a1 f1 => ⟨rfl, hX σ1 (S.N hi (by omega) f1 a1 (hP (by omega)) e.symm hs) f1.p⟩)
  · rw [if_pos (by omega)] at e
    rw [S.2.1.2.2.2.1.1]
    refine s_M_blame h10 (by decide) (fun σ1 F f1 _ => ⟨rfl, ?_⟩)
    have e1 := F.1
    exact ⟨by omega, fun _ => hX σ1 (S.Fl hi f1 F (by rw [e]; exact ⟨rfl, rfl⟩)) f1.p, fun y => by omega⟩
theorem s_M_place' {s num of to a b : Int} (h : zmFt σ a b) (hX : X none σ) : MS G zm_M_place 4 [zr G 58, iZ s, iZ num, iZ of, iZ to] σ X :=
  k_M_place (s_M_mustWord' h ⟨rfl, by have := h.1; have := h.2.2; omega, fun z => by have := h.1; have := h.2.2; omega, fun _ => hX⟩)
theorem s_M_placeO {s num of to f w : Int} (hs : 1 ≤ s ∧ s ≤ 9) (h : zOk σ T n i 8 P (ySq T n (fun q W p => .inl (yput W s f w q, p))) R) (hof : s ≠ 8 → of = f) (hto : to = w)
  (hq : ∀ W, P W → zbw σ W i 8 → yWm W ∧ num = (if ygr s = 8 then -1 else W 0 (ygr s)) ∧ (s = 7 → W 0 5 < 8 ∧ zWd (W 20 (W 0 5).toNat) (σ 71 (8 * i + (W 0 5).toNat))) ∧ (s = 8 ∨ s = 9 → σ 73 (6 * i + (W 0 4).toNat) = W 7 (W 0 4).toNat ∧ σ 74 (6 * i + (W 0 4).toNat) = W 0 7))
  (hnum : s = 7 → 0 ≤ num ∧ num < 8)
  (hX : ∀ σ', zOk σ' T n i (ygr s) (fun _ => True) yid R → zfp i σ σ' → X none σ') : MS G zm_M_place 4 [zr G 58, iZ s, iZ num, iZ of, iZ to] σ X := by
  have hi := h.1
  subst hto
  refine k_M_place (s_M_mustWordO (i := i) (iw := 10) (zow_w (by rfl) (by decide)) (by decide) (by decide) _ h (fun W p h5 => ?_) (fun σ1 h1 f1 => ⟨rfl, ?_⟩))
  · unfold yNum; rw [if_pos (by omega)]; exact yNo_Fl
  have bad101 : ∀ (σ2 : zPH) (x5 x6 k pl : Int), σ2 58 35 = (i : Int) ∧ i ≤ 1 → yFl T n R k pl → zFt σ2 k pl → zfp i σ σ2 → b_M_place_101 G s num of to X x5 x6 σ2 := fun σ2 x5 x6 k pl hi2 y ft f2 => by
    have e10 := ft.1.1
    have e11 := ft.1.2.2
    exact ⟨by omega, fun z => by omega, fun _ => hX σ2 (zOk.F hi2 y ft) f2⟩
  have bad63 : ∀ (σ2 : zPH) (x5 x6 k pl : Int), σ2 58 35 = (i : Int) ∧ i ≤ 1 → yFl T n R k pl → zFt σ2 k pl → zfp i σ σ2 → b_M_place_63 G s num of to X x5 x6 σ2 := fun σ2 x5 x6 k pl hi2 y ft f2 => by
    have e10 := ft.1.1
    have e11 := ft.1.2.2
    exact ⟨by omega, fun z => bad101 σ2 x5 x6 k pl hi2 y ft f2, fun z => by omega⟩
  obtain ⟨hi1, ⟨W, p, e, hP, S⟩ | ⟨k, pl, y, ft⟩⟩ := h1
  rotate_left
  · have e10 := ft.1.1
    have e11 := ft.1.2.2
    exact ⟨by omega, fun z => by omega, fun _ => hX σ1 (zOk.F hi1 y ft) f1.p⟩
  have hb := S.b
  obtain ⟨h5, A, c, wb, b⟩ := id S
  have h10 := A.2.1
  obtain ⟨hWm, hnm, hnam, hmov⟩ := hq W hP (wb.to (fun q _ _ => (f1.1 q (by omega)).symm))
  have hd := hWm.1
  obtain ⟨w60, w61, -⟩ := wb.1
  have hK5 : ∀ p, ztK T n p = 5 → ztK T n p ≠ 2 := fun p z => by omega
  have e' : yNum T n 0 (W 0 0 - 1) (fun c W p2 => if ztK T n p2 ≠ 2 then yNo T n p2 else if ztV T n p2 < 0 ∨ W 0 1 - 1 < ztV T n p2 then .inr (2, (ztS T n p2 : Int)) else if W 1 (zqo c (ztV T n p2)) ≠ 0 then .inr (3, (ztS T n p : Int)) else .inl (yput W s f to (zqo c (ztV T n p2)), ztE T n p2)) W p = R := e
  clear e
  unfold yNum at e'
  have hi35 : (i : Int).toNat = i := Int.toNat_natCast i
  refine ⟨by omega, fun _ => ?_, fun z => by omega⟩
  rintro x5 ex5
  have hx5 : x5 = (ztS T n p : Int) := by rw [ex5, A.2.2.2.1.1]
  subst hx5
  clear ex5
  rw [hi1.1, hi35, w60]
  refine ⟨by omega, s_M_number A (by decide) (by omega) (fun q0 q1 q2 σ2 a2 f2 => ⟨_, rfl, ?_⟩) (fun q0 q1 σ2 x a2 f2 => ⟨x, rfl, ?_⟩) (fun q0 σ2 x a2 f2 => ⟨x, rfl, ?_⟩)⟩
  · rw [if_neg (by omega), if_neg (by omega)] at e'
    dsimp only at e'
    have F2 : zfp i σ σ2 := f1.p.trans f2.p
    have hi2 : σ2 58 35 = (i : Int) ∧ i ≤ 1 := by rw [f2.2 35 (by decide)]; exact hi1
    have b34 : 0 ≤ σ2 58 34 ∧ σ2 58 34 ≤ 1600 := by rw [f2.2 34 (by decide)]; exact hb.2.2.2.2
    have hE := ztE_s (T := T) hb.2.2.1
    have hS := (ztS_s (T := T) hb.2.2.1).1.1
    rcases a2 with ⟨g5, A2⟩ | ⟨g5, ft⟩
    rotate_left
    · rw [if_pos (hK5 _ g5)] at e'
      have e10 := ft.1
      exact ⟨by omega, fun z => bad63 σ2 _ _ 1 _ hi2 (by rw [← e']; exact yNo_Fl) ⟨ft, b34⟩ F2, fun z => by omega⟩
    have h102 := A2.2.1
    obtain ⟨hx2, -, hp2, ⟨k1, k2, k3, k4, k5, k6, k7, k8, k9, k10, k11⟩, -⟩ := id A2
    have mk2 : σ2 58 7 = 2 → ztK T n (ztE T n p) = 2 := fun z => by
      have r := ztK_r T n (ztE T n p)
      by_cases a0 : ztK T n (ztE T n p) = 0
      · have := (k5 a0).1; omega
      · by_cases a1 : ztK T n (ztE T n p) = 1
        · have := (k6 a1).1; omega
        · by_cases a3 : ztK T n (ztE T n p) = 3
          · have := k8 a3; omega
          · by_cases a4 : ztK T n (ztE T n p) = 4
            · have := k4 a4; omega
            · omega
    refine ⟨by omega, fun z => absurd h102 z, fun _ => ⟨by omega, fun z => ?_, fun z => ?_⟩⟩
    rotate_left
    · have hk : ztK T n (ztE T n p) ≠ 2 := fun y => z (k7 y).1
      rw [if_pos hk] at e'
      rw [k1, ← ztF_S g5]
      refine s_M_blame h102 (by decide) (fun σ3 F f3 _ => ⟨rfl, bad63 σ3 _ _ 1 _ (by rw [f3.2 35 (by decide)]; exact hi2) (by rw [← e']; exact yNo_Fl) ⟨F, by rw [f3.2 34 (by decide)]; exact b34⟩ (F2.trans f3.p)⟩)
    have hk := mk2 z
    have hv := (k7 hk).2
    rw [if_neg (by omega)] at e'
    have w61' : σ2 61 i = W 0 1 := by rw [f2.1 61 (by decide)]; exact w61
    refine ⟨by omega, fun z => absurd h102 z, fun _ => ?_⟩
    rw [hi2.1, hi35, w61']
    refine ⟨by omega, ?_⟩
    rw [hv]
    refine s_M_is (by omega) (by decide) (by omega) (fun u0 u1 => Or.inr ⟨rfl, ?_⟩) (fun u => Or.inl ⟨rfl, ?_⟩)
    rotate_left
    · rw [if_pos (by omega)] at e'
      rw [k1]
      exact s_M_blame h102 (by decide) (fun σ3 F f3 _ => ⟨rfl, bad101 σ3 _ _ 2 _ (by rw [f3.2 35 (by decide)]; exact hi2) (by rw [← e']; exact ⟨rfl, rfl⟩) ⟨F, by rw [f3.2 34 (by decide)]; exact b34⟩ (F2.trans f3.p)⟩)
    rw [if_neg (by omega)] at e'
    refine ⟨by omega, fun _ => ?_, fun y => by omega⟩
    rw [hv, hi2.1]
    rintro x7 ex7 x8 ex8
    subst ex7
    have hq144 : zqo (ztV T n p) (ztV T n (ztE T n p)) < 144 := by unfold zqo; omega
    have hx8 : x8.toNat = 144 * i + zqo (ztV T n p) (ztV T n (ztE T n p)) := by rw [ex8]; unfold zqo; omega
    have hr8 : 0 ≤ x8 ∧ x8 < 288 := by omega
    generalize hQ : zqo (ztV T n p) (ztV T n (ztE T n p)) = Q at *
    have wb2 : zbw σ2 W i 8 := wb.to (fun q _ _ => f2.1 q (by omega))
    have hsq := (wb2.2.1 Q hq144).1
    have hs9 := hWm.2.2 Q
    rw [hx8, hsq]
    refine ⟨hr8, by omega, fun y => ?_, fun y => ?_⟩
    rotate_left
    · rw [if_pos y] at e'
      refine s_M_blame h102 (by decide) (fun σ3 F f3 _ => ⟨rfl, ?_⟩)
      have e10 := F.1
      exact ⟨by omega, fun z => by omega, fun _ => hX σ3 (zOk.F (by rw [f3.2 35 (by decide)]; exact hi2) (by rw [← e']; exact ⟨rfl, rfl⟩) ⟨F, by rw [f3.2 34 (by decide)]; exact b34⟩) (F2.trans f3.p)⟩
    rw [if_neg (by omega)] at e'
    refine ⟨by omega, fun _ => ?_, fun y => by omega⟩
    refine s_M_nextN A2 (fun σ3 a3 f3 => ⟨rfl, hr8, ?_⟩)
    rw [hx8]
    rintro σ4 e4
    refine ⟨hr8, ?_⟩
    rintro σ5 e5
    refine ⟨hr8, ?_⟩
    rintro σ6 e6
    refine ⟨hr8, ?_⟩
    rintro σ7 e7
    have k7' : σ7 58 = σ3 58 := by rw [e7, zupd_row (by decide), e6, zupd_row (by decide), e5, zupd_row (by decide), e4, zupd_row (by decide)]
    have hi7 : σ7 58 35 = (i : Int) := by rw [k7', f3.2 35 (by decide)]; exact hi2.1
    rw [hi7, hi35]
    refine ⟨by omega, by omega, ?_⟩
    rintro σ8 e8
    have F8 : zfp i σ σ8 := by
      have z1 : ∀ q, 67 ≤ q → q ≤ 70 → zbk q = 144 := fun q a b => by unfold zbk; rw [if_neg (by omega), if_pos (by omega)]
      exact ((((F2.trans f3.p).u e4 (by rw [z1 67 (by decide) (by decide)]; omega)).u e5 (by rw [z1 68 (by decide) (by decide)]; omega)).u e6 (by rw [z1 69 (by decide) (by decide)]; omega)).u e7 (by rw [z1 70 (by decide) (by decide)]; omega) |>.u e8 (by rw [show zbk 62 = 1 from rfl]; omega)
    have k8' : σ8 58 = σ3 58 := by rw [e8, zupd_row (by decide), k7']
    have r8 : ∀ q, q ≠ 58 → q ≠ 62 → q ≠ 67 → q ≠ 68 → q ≠ 69 → q ≠ 70 → σ8 q = σ1 q := fun q a b c d f g => by rw [e8, zupd_row b, e7, zupd_row g, e6, zupd_row f, e5, zupd_row d, e4, zupd_row c, f3.1 q a, f2.1 q a]
    have fin : ∀ σ9 : zPH, (∀ q, q ≠ 72 → σ9 q = σ8 q) → (∀ k, σ9 72 k = if s = 7 ∧ k = 8 * i + (W 0 5).toNat then (Q : Int) else σ1 72 k) → zfp i σ σ9 → X none σ9 := by
      intro σ9 r9 r72 F9
      have wb1 := wb
      have k9' : σ9 58 = σ3 58 := by rw [r9 58 (by decide), k8']
      have nb : zbw σ9 (yput W s f to Q) i (ygr s) := by
        refine zbw_put (num := num) wb hs hq144 hWm.2.1.2.2.2.2.2.2.1 hWm.2.1.2.2.2.2.1 hnm (fun q a b c d e f g h => by rw [r9 q h, r8 q (by omega) c d e f g]) ?_ (fun k => ?_) (fun k => ?_) (fun k hk => ?_) (fun hs8 => ?_) (fun k => ?_) r72 (fun z => by rw [f1.1 71 (by decide)]; exact (hnam z).2) (fun z => by rw [f1.1 73 (by decide), f1.1 74 (by decide)]; exact hmov z)
        · rw [r9 62 (by decide), e8, zupd_same, e7, zupd_row (by decide), e6, zupd_row (by decide), e5, zupd_row (by decide), e4, zupd_row (by decide), f3.1 62 (by decide), f2.1 62 (by decide)]
        · rw [r9 67 (by decide), e8, zupd_row (by decide), e7, zupd_row (by decide), e6, zupd_row (by decide), e5, zupd_row (by decide), e4]
          split
          · rename_i y; rw [y, zupd_same]
          · rename_i y; rw [zupd_nk y, f3.1 67 (by decide), f2.1 67 (by decide)]
        · rw [r9 68 (by decide), e8, zupd_row (by decide), e7, zupd_row (by decide), e6, zupd_row (by decide), e5]
          split
          · rename_i y; rw [y, zupd_same]
          · rename_i y; rw [zupd_nk y, e4, zupd_row (by decide), f3.1 68 (by decide), f2.1 68 (by decide)]
        · rw [r9 69 (by decide), e8, zupd_row (by decide), e7, zupd_row (by decide), e6, zupd_nk hk, e5, zupd_row (by decide), e4, zupd_row (by decide), f3.1 69 (by decide), f2.1 69 (by decide)]
        · rw [r9 69 (by decide), e8, zupd_row (by decide), e7, zupd_row (by decide), e6, zupd_same, hof hs8]
        · rw [r9 70 (by decide), e8, zupd_row (by decide), e7]
          split
          · rename_i y; rw [y, zupd_same]
          · rename_i y; rw [zupd_nk y, e6, zupd_row (by decide), e5, zupd_row (by decide), e4, zupd_row (by decide), f3.1 70 (by decide), f2.1 70 (by decide)]
      have hi9 : σ9 58 35 = (i : Int) ∧ i ≤ 1 := by rw [k9', f3.2 35 (by decide)]; exact hi2
      have hE2 := ztE_s (T := T) hp2
      have hS2 := (ztS_s (T := T) hp2).1.1
      have v7 : yput W s f to Q 0 7 = W 0 7 := by
        rw [yput_0, if_neg (by decide), if_neg]
        unfold ygr; split
        · decide
        · split
          · decide
          · split
            · decide
            · split <;> decide
      have vr : ∀ r, 9 ≤ r → r ≠ 12 → yput W s f to Q r = W r := fun r a b => by
        funext k
        unfold yput; rw [if_neg (by omega), if_neg (by omega), if_neg (by omega), if_neg (by omega), if_neg (by omega), if_neg (by omega), if_neg (by omega), if_neg (by omega), if_neg (by omega)]
      have nc : zmc σ9 (yput W s f to Q) i := by
        have c' : zmc σ9 W i := c.to (fun q hq => by rw [r9 q (by omega), r8 q (by omega) (by omega) (by omega) (by omega) (by omega) (by omega)]) (by rw [k9', f3.2 34 (by decide), f2.2 34 (by decide)])
        unfold zmc at c' ⊢
        rw [v7, vr 9 (by decide) (by decide), vr 10 (by decide) (by decide), vr 13 (by decide) (by decide), vr 14 (by decide) (by decide)]
        exact c'
      rcases a3 with ⟨g3, A3⟩ | ⟨g3, ft⟩
      · refine hX σ9 ⟨hi9, Or.inl ⟨_, _, e', trivial, g3, A3.to (by rw [r9 59 (by decide), r8 59 (by decide) (by decide) (by decide) (by decide) (by decide) (by decide), f3.1 59 (by decide), f2.1 59 (by decide)]) (fun k _ _ => by rw [k9']), nc, nb, by rw [v7]; omega, by omega⟩⟩ F9
      · refine hX σ9 ⟨hi9, Or.inr ⟨1, _, by rw [← e']; exact ⟨g3, rfl, rfl⟩, ⟨by rw [k9']; exact ft.1, by rw [k9']; exact ft.2.1, ft.2.2⟩, by rw [k9', f3.2 34 (by decide)]; exact b34⟩⟩ F9
    refine ⟨by omega, fun y => fin σ8 (fun _ _ => rfl) (fun k => by rw [if_neg (fun z => y z.1), r8 72 (by decide) (by decide) (by decide) (by decide) (by decide) (by decide)]) F8, fun y => ?_⟩
    have hi8 : σ8 58 35 = (i : Int) := by rw [k8', f3.2 35 (by decide)]; exact hi2.1
    have hn7 := hnum y
    have hn5 : num = W 0 5 := by rw [hnm, y]; rfl
    rw [hi8]
    refine ⟨by omega, ?_⟩
    rw [show (8 * (i : Int) + num).toNat = 8 * i + (W 0 5).toNat by omega]
    rintro σ9 e9
    refine fin σ9 (fun q hq => by rw [e9, zupd_row hq]) (fun k => ?_) (F8.u e9 (by rw [show zbk 72 = 8 from rfl]; omega))
    rw [e9]
    by_cases z : k = 8 * i + (W 0 5).toNat
    · rw [z, zupd_same, if_pos ⟨y, rfl⟩, ← hQ]; unfold zqo; omega
    · rw [zupd_nk z, if_neg (fun u => z u.2), r8 72 (by decide) (by decide) (by decide) (by decide) (by decide) (by decide)]
  · rw [if_neg (by omega), if_pos q1] at e'
    have e10 := a2.1
    refine ⟨by omega, fun z => bad63 σ2 _ _ 2 _ (by rw [f2.2 35 (by decide)]; exact hi1) (by rw [← e']; exact ⟨rfl, rfl⟩) ⟨a2, by rw [f2.2 34 (by decide)]; exact hb.2.2.2.2⟩ (f1.p.trans f2.p), fun z => by omega⟩
  · rw [if_pos q0] at e'
    have e10 := a2.1
    refine ⟨by omega, fun z => bad63 σ2 _ _ 1 _ (by rw [f2.2 35 (by decide)]; exact hi1) (by rw [← e']; exact yNo_Fl) ⟨a2, by rw [f2.2 34 (by decide)]; exact hb.2.2.2.2⟩ (f1.p.trans f2.p), fun z => by omega⟩
end MP
