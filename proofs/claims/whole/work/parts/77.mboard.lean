section MB0
variable {G : zG} {σ : zPH} {X : zX} {T : Nat → Int} {n i : Nat}
theorem s_M_fresh (hb : σ 58 13 = 0 ∨ σ 58 13 = 1) (hX : ∀ σ' (i : Nat), (i : Int) = 1 - σ 58 13 → σ' 58 35 = (i : Int) → zmc σ' yW0 i → zbw σ' yW0 i 8 → (∀ q, q ≠ 58 → (q < 60 ∨ 67 < q) → σ' q = σ q) → (∀ k, k ≠ 34 → k ≠ 35 → σ' 58 k = σ 58 k) → (∀ q, 60 ≤ q → q ≤ 67 → ∀ k, (k < zbk q * i ∨ zbk q * i + zbk q ≤ k) → σ' q k = σ q k) → X none σ') : MS G zm_M_fresh 0 [zr G 58] σ X := by
  obtain ⟨i, hi⟩ : ∃ i : Nat, (i : Int) = 1 - σ 58 13 := ⟨(1 - σ 58 13).toNat, by omega⟩
  have hX := fun σ' => hX σ' i hi
  have hi35 : (i : Int).toNat = i := Int.toNat_natCast i
  refine k_M_fresh ?_
  unfold w_M_fresh
  rw [← hi]
  rintro σ7 e7
  have k7 : σ7 58 35 = (i : Int) := by rw [e7, zupd_same]
  rw [k7, hi35]
  refine ⟨by omega, ?_⟩
  rintro σ1 e1
  have k1 : σ1 58 35 = (i : Int) := by rw [e1, zupd_row (by decide), k7]
  rw [k1, hi35]
  refine ⟨by omega, ?_⟩
  rintro σ2 e2
  have k2 : σ2 58 35 = (i : Int) := by rw [e2, zupd_row (by decide), k1]
  rw [k2, hi35]
  refine ⟨by omega, ?_⟩
  rintro σ3 e3
  have k3 : σ3 58 35 = (i : Int) := by rw [e3, zupd_row (by decide), k2]
  rw [k3, hi35]
  refine ⟨by omega, ?_⟩
  rintro σ4 e4
  have k4 : σ4 58 35 = (i : Int) := by rw [e4, zupd_row (by decide), k3]
  rw [k4, hi35]
  refine ⟨by omega, ?_⟩
  rintro σ5 e5
  have k5 : σ5 58 35 = (i : Int) := by rw [e5, zupd_row (by decide), k4]
  rw [k5, hi35]
  refine ⟨by omega, ?_⟩
  rintro σ6 e6
  have k6 : σ6 58 35 = (i : Int) := by rw [e6, zupd_row (by decide), k5]
  rw [k6, hi35]
  refine ⟨by omega, ?_⟩
  rintro σ8 e8 σ9 e9
  have k9 : σ9 58 35 = (i : Int) := by rw [e9, zupd_nk (by decide), e8, zupd_row (by decide), k6]
  rw [k9]
  rintro x1 ex1
  have r9 : ∀ q, q ≠ 58 → (q < 60 ∨ 66 < q) → σ9 q = σ q := fun q a b => by rw [e9, zupd_row a, e8, zupd_row (by omega), e6, zupd_row (by omega), e5, zupd_row (by omega), e4, zupd_row (by omega), e3, zupd_row (by omega), e2, zupd_row (by omega), e1, zupd_row (by omega), e7, zupd_row a]
  have c9 : ∀ k, k ≠ 34 → k ≠ 35 → σ9 58 k = σ 58 k := fun k a b => by rw [e9, zupd_nk a, e8, zupd_row (by decide), e6, zupd_row (by decide), e5, zupd_row (by decide), e4, zupd_row (by decide), e3, zupd_row (by decide), e2, zupd_row (by decide), e1, zupd_row (by decide), e7, zupd_nk b]
  have u9 : ∀ q, 60 ≤ q → q ≤ 66 → ∀ k, σ9 q k = if k = i then 0 else σ q k := by
    intro q a b k
    have hq : q = 60 ∨ q = 61 ∨ q = 62 ∨ q = 63 ∨ q = 64 ∨ q = 65 ∨ q = 66 := by omega
    rw [e9, zupd_row (by omega), e8, e6, e5, e4, e3, e2, e1, e7]
    unfold zupd
    rcases hq with rfl | rfl | rfl | rfl | rfl | rfl | rfl <;> simp
  refine zLP1_ind (fun x s => ∃ k : Nat, x = (144 * i + k : Nat) ∧ k ≤ 144 ∧ (∀ q, q ≠ 67 → s q = σ9 q) ∧ (∀ j, j < k → s 67 (144 * i + j) = 0) ∧ ∀ j, (j < 144 * i ∨ 144 * i + 144 ≤ j) → s 67 j = σ 67 j) (fun x _ => (1000 - x).toNat) ?_ ⟨0, by omega, by omega, fun _ _ => rfl, fun j hj => by omega, fun j _ => by rw [r9 67 (by decide) (by omega)]⟩
  rintro K x s ⟨k, rfl, hk, h67, hz, ho⟩ hK
  have s58 : s 58 35 = (i : Int) := by rw [h67 58 (by decide)]; exact k9
  unfold b_M_fresh_94
  rw [s58]
  refine ⟨by omega, fun y => ?_, fun y => ⟨by omega, ?_⟩⟩
  · have k144 : k = 144 := by omega
    subst k144
    refine hX s s58 ⟨?_, by decide, fun k hk => ?_⟩ ⟨⟨?_, ?_, ?_, ?_, ?_, ?_, ?_⟩, fun q hq => ⟨hz q hq, fun z => absurd rfl z⟩, fun e he => ?_, fun m hm => ?_⟩ (fun q a b => by rw [h67 q (by omega), r9 q a (by omega)]) (fun k a b => by rw [h67 58 (by decide), c9 k a b]) (fun q a b k c => ?_)
    · rw [h67 58 (by decide), e9, zupd_same]; rfl
    · have : (k : Int) < 0 := hk
      omega
    · rw [h67 60 (by decide), u9 60 (by decide) (by decide), if_pos rfl]; rfl
    · rw [h67 61 (by decide), u9 61 (by decide) (by decide), if_pos rfl]; rfl
    · rw [h67 62 (by decide), u9 62 (by decide) (by decide), if_pos rfl]; rfl
    · rw [h67 63 (by decide), u9 63 (by decide) (by decide), if_pos rfl, if_neg (by decide)]; rfl
    · rw [h67 64 (by decide), u9 64 (by decide) (by decide), if_pos rfl, if_neg (by decide)]; rfl
    · rw [h67 65 (by decide), u9 65 (by decide) (by decide), if_pos rfl, if_neg (by decide)]; rfl
    · rw [h67 66 (by decide), u9 66 (by decide) (by decide), if_pos rfl, if_neg (by decide)]; rfl
    · have : (e : Int) < 0 := he
      omega
    · have : (m : Int) < 0 := hm
      omega
    · by_cases z : q = 67
      · subst z; rw [show zbk 67 = 144 from rfl] at c; exact ho k c
      · have : zbk q = 1 := by unfold zbk; rw [if_pos (by omega)]
        rw [this] at c
        rw [h67 q z, u9 q a (by omega), if_neg (by omega)]
  · rintro s' es'
    rw [show (((144 * i + k : Nat) : Int)).toNat = 144 * i + k by omega] at es'
    refine hK _ _ ⟨k + 1, by omega, by omega, fun q hq => by rw [es', zupd_row hq]; exact h67 q hq, fun j hj => ?_, fun j hj => ?_⟩ (by omega)
    · rw [es']
      by_cases z : j = k
      · subst z; rw [zupd_same]
      · rw [zupd_nk (by omega)]; exact hz j (by omega)
    · rw [es', zupd_nk (by omega)]; exact ho j hj
theorem s_M_sizesO (A : zmN σ T n 0) (hi : σ 58 35 = (i : Int) ∧ i ≤ 1) (hn : n ≤ 1600) (hc : zmc σ yW0 i) (hw : zbw σ yW0 i 8) (hX : ∀ σ', yEnd σ' T n i (ybn (ySize T n yW0 0) (yEx T n 3 59)) → zfp i σ σ' → X none σ') : MS G zm_M_sizes 4 [zr G 58] σ X := by
  have hi35 : (i : Int).toNat = i := Int.toNat_natCast i
  have h34 := hc.1
  have h34' : yW0 0 7 = 0 := rfl
  rw [h34'] at h34
  have hR : ySize T n yW0 0 = _ := ySize_e
  have exact_ : ∀ (σ1 : zPH) (k pl : Int), zFt σ1 k pl → ySize T n yW0 0 = .inr (k, pl) → σ1 58 35 = (i : Int) → zfp i σ σ1 → X none σ1 := fun σ1 k pl ft e h1 f => hX σ1 ⟨⟨h1, hi.2⟩, Or.inr ⟨k, pl, by rw [e]; rfl, ft⟩⟩ f
  have fin : ∀ (σ1 : zPH), zOk σ1 T n i 8 (fun _ => True) yid (ySize T n yW0 0) → zfp i σ σ1 → MS G zm_M_ends 2 [zr G 58] σ1 (fun v σ64 => v = none ∧ X none σ64) := fun σ1 h1 f1 => s_M_endsO h1 (fun σ2 h2 f2 => ⟨rfl, hX σ2 h2 (f1.trans f2)⟩)
  have ftu : ∀ (σ1 σ2 : zPH) (k pl : Int) (r : Nat) (x : Int), r = 60 ∨ r = 61 → σ2 = zupd σ1 r i x → zFt σ1 k pl → zFt σ2 k pl := fun σ1 σ2 k pl r x hr e ft => by
    unfold zFt zmFt at *; rw [e, zupd_row (by omega)]; exact ft
  have fpu : ∀ (σ1 σ2 : zPH) (r : Nat) (x : Int), r = 60 ∨ r = 61 → σ2 = zupd σ1 r i x → zfp i σ σ1 → zfp i σ σ2 := fun σ1 σ2 r x hr e f => f.u e (by
    have : zbk r = 1 := by unfold zbk; rw [if_pos (by omega)]
    rw [this]; omega)
  have T2 : ∀ (σ3 : zPH) (k pl : Int), yFl T n (ySize T n yW0 0) k pl → zFt σ3 k pl → σ3 58 35 = (i : Int) → zfp i σ σ3 → MS G zm_M_number 3 [zr G 58, iZ 2, iZ 12] σ3 (fun v σ59 => ∃ z59 : Int, v = some (iZ z59) ∧ (0 ≤ (σ3 58 35) ∧ (σ3 58 35) < 2) ∧ ∀ σ62 : zPH, σ62 = zupd σ59 61 (σ3 58 35).toNat z59 → MS G zm_M_ends 2 [zr G 58] σ62 (fun v σ64 => v = none ∧ X none σ64)) := by
    intro σ3 k pl y ft h3 f3
    refine s_M_number' ft.1 ⟨0, rfl, by rw [h3]; omega, ?_⟩
    rw [h3, hi35]
    rintro σ4 e4
    exact fin σ4 (zOk.F (by rw [e4, zupd_row (by decide)]; exact ⟨h3, hi.2⟩) y (ftu σ3 σ4 k pl 61 0 (by decide) e4 ft)) (fpu σ3 σ4 61 0 (by decide) e4 f3)
  have T1 : ∀ (σ3 : zPH) (k pl x : Int), yFl T n (ySize T n yW0 0) k pl → zFt σ3 k pl → σ3 58 35 = (i : Int) → zfp i σ σ3 → ∀ σ46 : zPH, σ46 = zupd σ3 60 i x → MS G zm_M_number 3 [zr G 58, iZ 2, iZ 12] σ46 (fun v σ59 => ∃ z59 : Int, v = some (iZ z59) ∧ (0 ≤ (σ46 58 35) ∧ (σ46 58 35) < 2) ∧ ∀ σ62 : zPH, σ62 = zupd σ59 61 (σ46 58 35).toNat z59 → MS G zm_M_ends 2 [zr G 58] σ62 (fun v σ64 => v = none ∧ X none σ64)) := by
    intro σ3 k pl x y ft h3 f3 σ46 e46
    exact T2 σ46 k pl y (ftu σ3 σ46 k pl 60 x (by decide) e46 ft) (by rw [e46, zupd_row (by decide)]; exact h3) (fpu σ3 σ46 60 x (by decide) e46 f3)
  have f34 : ∀ σ1 : zPH, zfq σ σ1 → 0 ≤ σ1 58 34 ∧ σ1 58 34 ≤ 1600 := fun σ1 f => by rw [f.2 34 (by decide)]; omega
  rcases A with ⟨g0, A⟩ | ⟨g0, ft⟩
  rotate_left
  · have e10 := ft.1
    refine k_M_sizes (s_M_isWord' ft (Or.inl ⟨rfl, s_M_blame' ft ⟨rfl, by omega, fun z => by omega, fun _ => ?_⟩⟩))
    refine exact_ σ 1 _ ⟨ft, f34 σ zfq.rf⟩ ?_ hi.1 zfp.rf
    rw [hR, if_pos (fun z => by have := z.1; omega)]; rfl
  have h10 := A.2.1
  refine k_M_sizes (s_M_isWord A (i := 0) (zow_w (by rfl) (by decide)) (by decide) (by decide) (fun q => Or.inr ⟨rfl, by omega, fun _ => ?_, fun z => by omega⟩) (fun q => Or.inl ⟨rfl, ?_⟩))
  rotate_left
  · rw [A.2.2.2.1.1, ← ztF_S g0]
    refine s_M_blame h10 (by decide) (fun σ1 F f1 _ => ⟨rfl, ?_⟩)
    have e10 := F.1
    exact ⟨by omega, fun z => by omega, fun _ => exact_ σ1 1 _ ⟨F, f34 σ1 f1⟩ (by rw [hR, if_pos q]; rfl) (by rw [f1.2 35 (by decide)]; exact hi.1) f1.p⟩
  rw [if_neg (fun z => z q)] at hR
  have hp0 : (0 : Nat) ≤ n := by omega
  have a0 := ztE_p hp0 (show ztK T n 0 ≠ 4 by have := q.1; omega)
  have a1 := (ztE_s (T := T) hp0).2.1
  refine s_M_nextN A (fun σ1 A1 f1 => ⟨rfl, ?_⟩)
  have h135 : σ1 58 35 = (i : Int) := by rw [f1.2 35 (by decide)]; exact hi.1
  rcases A1 with ⟨g1, A1⟩ | ⟨g1, ft⟩
  rotate_left
  · refine s_M_number' ft ⟨0, rfl, by rw [h135]; omega, ?_⟩
    rw [h135, hi35]
    refine T1 σ1 1 _ 0 ?_ ⟨ft, f34 σ1 f1⟩ h135 f1.p
    rw [hR]; unfold yNum; rw [if_pos (by omega)]; exact yNo_Fl
  have frp : ∀ σ2 : zPH, zfq σ1 σ2 → zfp i σ σ2 := fun σ2 f2 => f1.p.trans f2.p
  have fr34 : ∀ σ2 : zPH, zfq σ1 σ2 → 0 ≤ σ2 58 34 ∧ σ2 58 34 ≤ 1600 := fun σ2 f2 => f34 σ2 (f1.trans f2)
  have fr35 : ∀ σ2 : zPH, zfq σ1 σ2 → σ2 58 35 = (i : Int) := fun σ2 f2 => by rw [f2.2 35 (by decide)]; exact h135
  refine s_M_number A1 (by decide) (by decide) (fun k2 lo hi' σ2 A2 f2 => ⟨_, rfl, by rw [h135]; omega, ?_⟩) (fun k2 lo σ2 x ft f2 => ⟨x, rfl, by rw [h135]; omega, ?_⟩) (fun k2 σ2 x ft f2 => ⟨x, rfl, by rw [h135]; omega, ?_⟩)
  rotate_left
  · rw [h135, hi35]
    refine T1 σ2 2 _ x ?_ ⟨ft, fr34 σ2 f2⟩ (fr35 σ2 f2) (frp σ2 f2)
    rw [hR]; unfold yNum; rw [if_neg (by omega), if_pos lo]; exact ⟨rfl, rfl⟩
  · rw [h135, hi35]
    refine T1 σ2 1 _ x ?_ ⟨ft, fr34 σ2 f2⟩ (fr35 σ2 f2) (frp σ2 f2)
    rw [hR]; unfold yNum; rw [if_pos k2]; exact yNo_Fl
  have hR2 : ySize T n yW0 0 = yNum T n 2 12 (fun r W p => .inl (zupd (zupd W 0 0 (ztV T n (ztE T n 0))) 0 1 r, p)) yW0 (ztE T n (ztE T n 0)) := by
    rw [hR]; conv => lhs; unfold yNum
    rw [if_neg (by omega), if_neg (by omega)]; rfl
  rw [h135, hi35]
  rcases A2 with ⟨g2, A2⟩ | ⟨g2, ft⟩
  rotate_left
  · refine T1 σ2 1 _ _ ?_ ⟨ft, fr34 σ2 f2⟩ (fr35 σ2 f2) (frp σ2 f2)
    rw [hR2]; unfold yNum; rw [if_pos (by omega)]; exact yNo_Fl
  rintro σ3 e3
  have k3 : σ3 58 = σ2 58 := by rw [e3, zupd_row (by decide)]
  have F3 : zfp i σ σ3 := fpu σ2 σ3 60 _ (by decide) e3 (frp σ2 f2)
  have A3 : zmP σ3 T n (ztE T n (ztE T n 0)) := A2.to (by rw [e3, zupd_row (by decide)]) (fun k _ _ => by rw [k3])
  have h335 : σ3 58 35 = (i : Int) := by rw [k3]; exact fr35 σ2 f2
  have a2 := (ztE_s (T := T) a1).2.1
  have fq34 : ∀ σ4 : zPH, zfq σ3 σ4 → 0 ≤ σ4 58 34 ∧ σ4 58 34 ≤ 1600 := fun σ4 f4 => by rw [f4.2 34 (by decide), k3]; exact fr34 σ2 f2
  have fq35 : ∀ σ4 : zPH, zfq σ3 σ4 → σ4 58 35 = (i : Int) := fun σ4 f4 => by rw [f4.2 35 (by decide)]; exact h335
  have last : ∀ (σ4 σ5 : zPH) (k pl x : Int), zfq σ3 σ4 → zmFt σ4 k pl → yFl T n (ySize T n yW0 0) k pl → σ5 = zupd σ4 61 i x → MS G zm_M_ends 2 [zr G 58] σ5 (fun v σ64 => v = none ∧ X none σ64) := fun σ4 σ5 k pl x f4 ft y e5 =>
    fin σ5 (zOk.F (by rw [e5, zupd_row (by decide)]; exact ⟨fq35 σ4 f4, hi.2⟩) y (ftu σ4 σ5 k pl 61 x (by decide) e5 ⟨ft, fq34 σ4 f4⟩)) (fpu σ4 σ5 61 x (by decide) e5 (F3.trans f4.p))
  refine s_M_number A3 (by decide) (by decide) (fun m2 lo2 hi2 σ4 A4 f4 => ⟨_, rfl, by rw [h335]; omega, ?_⟩) (fun m2 lo2 σ4 x ft f4 => ⟨x, rfl, by rw [h335]; omega, ?_⟩) (fun m2 σ4 x ft f4 => ⟨x, rfl, by rw [h335]; omega, ?_⟩)
  rotate_left
  · rw [h335, hi35]
    rintro σ5 e5
    refine last σ4 σ5 2 _ x f4 ft ?_ e5
    rw [hR2]; unfold yNum; rw [if_neg (by omega), if_pos lo2]; exact ⟨rfl, rfl⟩
  · rw [h335, hi35]
    rintro σ5 e5
    refine last σ4 σ5 1 _ x f4 ft ?_ e5
    rw [hR2]; unfold yNum; rw [if_pos m2]; exact yNo_Fl
  have hR3 : ySize T n yW0 0 = .inl (zupd (zupd yW0 0 0 (ztV T n (ztE T n 0))) 0 1 (ztV T n (ztE T n (ztE T n 0))), ztE T n (ztE T n (ztE T n 0))) := by
    rw [hR2]; unfold yNum; rw [if_neg (by omega), if_neg (by omega)]
  rw [h335, hi35]
  rintro σ5 e5
  rcases A4 with ⟨g4, A4⟩ | ⟨g4, ft⟩
  rotate_left
  · refine last σ4 σ5 1 _ _ f4 ft ?_ e5
    rw [hR3]; exact ⟨g4, rfl, rfl⟩
  have k5 : σ5 58 = σ4 58 := by rw [e5, zupd_row (by decide)]
  have a3 := (ztE_s (T := T) a2).2.1
  have a4 := (ztS_s (T := T) a1).1.1
  have a5 := (ztE_s (T := T) a1).1
  have a6 := (ztS_s (T := T) a2).1.1
  have a7 := (ztE_s (T := T) a2).1
  have r5 : ∀ q, q ≠ 58 → q ≠ 60 → q ≠ 61 → σ5 q = σ q := fun q a b c => by rw [e5, zupd_row c, f4.1 q a, e3, zupd_row b, f2.1 q a, f1.1 q a]
  have e00 : ∀ c r : Int, zupd (zupd yW0 0 0 c) 0 1 r 0 0 = c := fun c r => by rw [zupd_nk (by decide), zupd_same]
  have e01 : ∀ c r : Int, zupd (zupd yW0 0 0 c) 0 1 r 0 1 = r := fun c r => by rw [zupd_same]
  have e0 : ∀ (c r : Int) (k : Nat), k ≠ 0 → k ≠ 1 → zupd (zupd yW0 0 0 c) 0 1 r 0 k = 0 := fun c r k a b => by rw [zupd_nk b, zupd_nk a]; rfl
  have er : ∀ (c r : Int) (q : Nat), q ≠ 0 → zupd (zupd yW0 0 0 c) 0 1 r q = yW0 q := fun c r q a => by rw [zupd_row a, zupd_row a]
  refine fin σ5 ⟨⟨by rw [k5]; exact fq35 σ4 f4, hi.2⟩, Or.inl ⟨_, _, hR3.symm, trivial, g4, A4.to (by rw [e5, zupd_row (by decide)]) (fun k _ _ => by rw [k5]), ?_, ?_, ?_, by omega⟩⟩ (fpu σ4 σ5 61 _ (by decide) e5 (F3.trans f4.p))
  · obtain ⟨c1, c2, c3⟩ := hc
    refine ⟨?_, ?_, fun k hk => ?_⟩
    · rw [e0 _ _ 7 (by decide) (by decide), k5, f4.2 34 (by decide), k3, f2.2 34 (by decide), f1.2 34 (by decide), c1]; rfl
    · rw [e0 _ _ 7 (by decide) (by decide)]; decide
    · rw [e0 _ _ 7 (by decide) (by decide)] at hk; omega
  · obtain ⟨⟨w0, w1, w2, w3, w4, w5, w6⟩, wc, we, wm⟩ := hw
    unfold zbw
    rw [e00, e01, e0 _ _ 2 (by decide) (by decide), e0 _ _ 3 (by decide) (by decide), e0 _ _ 4 (by decide) (by decide), e0 _ _ 5 (by decide) (by decide), e0 _ _ 6 (by decide) (by decide), er _ _ 1 (by decide), er _ _ 2 (by decide), er _ _ 3 (by decide), er _ _ 4 (by decide), er _ _ 5 (by decide), er _ _ 7 (by decide), er _ _ 8 (by decide), er _ _ 20 (by decide), r5 62 (by decide) (by decide) (by decide), r5 63 (by decide) (by decide) (by decide), r5 64 (by decide) (by decide) (by decide), r5 65 (by decide) (by decide) (by decide), r5 66 (by decide) (by decide) (by decide), r5 67 (by decide) (by decide) (by decide), r5 68 (by decide) (by decide) (by decide), r5 69 (by decide) (by decide) (by decide), r5 70 (by decide) (by decide) (by decide), r5 71 (by decide) (by decide) (by decide), r5 72 (by decide) (by decide) (by decide), r5 73 (by decide) (by decide) (by decide), r5 74 (by decide) (by decide) (by decide)]
    refine ⟨⟨by rw [e5, zupd_row (by decide), f4.1 60 (by decide), e3, zupd_same], by rw [e5, zupd_same], w2, w3, w4, w5, w6⟩, wc, fun e he => by omega, fun m hm => by omega⟩
  · rw [e0 _ _ 7 (by decide) (by decide)]; omega
end MB0
