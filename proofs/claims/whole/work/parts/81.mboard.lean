/-- what board() has changed while it reads -/
def zfZ (i : Nat) (σ s : zPH) : Prop := (∀ q, q ≠ 58 → (q < 60 ∨ 82 < q) → s q = σ q) ∧ (∀ k, k ≠ 1 → (k < 4 ∨ (12 < k ∧ k ≠ 34 ∧ k ≠ 35 ∧ k ≠ 39 ∧ k ≠ 40 ∧ k ≠ 41)) → s 58 k = σ 58 k) ∧ s 58 1 = 0 ∧ ∀ q, 60 ≤ q → q ≤ 77 → ∀ k, (k < zbk q * i ∨ zbk q * i + zbk q ≤ k) → s q k = σ q k
theorem zfZ.p {i : Nat} {σ s s' : zPH} (h : zfZ i σ s) (f : zfp i s s') : zfZ i σ s' := ⟨fun q a b => by rw [f.1 q a b, h.1 q a b], fun k a b => by rw [f.2.1 k (by omega), h.2.1 k a b], by rw [f.2.1 1 (by omega)]; exact h.2.2.1, fun q a b k c => by rw [f.2.2 q a b k c, h.2.2.2 q a b k c]⟩
section MBB
variable {G : zG} {σ V D : zPH} {X : zX}
theorem zmf_out {σ s1 s2 s3 : zPH} {i : Nat} {kk pl : Int} (hB : zBD V D) (h : zMI σ V D) (hi : (i : Int) = 1 - σ 58 13) (hA : yAll (fun k => D 4 k) (D 0 3).toNat = .inr (kk, pl)) (ft : zFt s1 kk pl) (F : zfZ i σ s1) (e2 : s2 = zupd s1 58 2 (s1 58 10)) (e3 : s3 = zupd s2 58 3 (s2 58 11)) : yRes V D V (yDf D kk pl) (-1) ∧ zMI s3 V (yDf D kk pl) ∧ zfA σ s3 := by
  obtain ⟨hMV, hMR, hMD, hMN, hbs⟩ := h
  have k3 : ∀ k, k ≠ 2 → k ≠ 3 → s3 58 k = s1 58 k := fun k a b => by rw [e3, zupd_nk b, e2, zupd_nk a]
  have v2 : s3 58 2 = kk := by rw [e3, zupd_nk (by decide), e2, zupd_same]; exact ft.1.1
  have v3 : s3 58 3 = pl := by rw [e3, zupd_same, e2, zupd_nk (by decide)]; exact ft.1.2.1
  have r3 : ∀ q, q ≠ 58 → s3 q = s1 q := fun q a => by rw [e3, zupd_row a, e2, zupd_row a]
  have kk3 : ∀ k, k ≠ 1 → k ≠ 2 → k ≠ 3 → (k < 4 ∨ (12 < k ∧ k ≠ 34 ∧ k ≠ 35 ∧ k ≠ 39 ∧ k ≠ 40 ∧ k ≠ 41)) → s3 58 k = σ 58 k := fun k a b c d => by rw [k3 k b c, F.2.1 k a d]
  have hbank : ∀ q, 60 ≤ q → q ≤ 77 → ∀ k, (k < zbk q * i ∨ zbk q * i + zbk q ≤ k) → s3 q k = σ q k := fun q a b k c => by rw [r3 q (by omega), F.2.2.2 q a b k c]
  have h13 : s3 58 13 = σ 58 13 := kk3 13 (by decide) (by decide) (by decide) (by omega)
  have nb : zmBs s3 V := zmBs_bank hB.1 hB.2.1 hbs hi h13 hbank
  have nr : zMR s3 := by
    unfold zMR at *
    rw [kk3 45 (by decide) (by decide) (by decide) (by omega), kk3 46 (by decide) (by decide) (by decide) (by omega), kk3 49 (by decide) (by decide) (by decide) (by omega), kk3 50 (by decide) (by decide) (by decide) (by omega), kk3 51 (by decide) (by decide) (by decide) (by omega), kk3 56 (by decide) (by decide) (by decide) (by omega)]
    exact hMR
  refine ⟨by unfold yRes; rw [hA]; exact ⟨rfl, rfl, rfl⟩, ⟨zMV_0 hB.1 nb nr, nr, ?_, ?_, nb⟩, fun q hq => by rw [r3 q (by omega), F.1 q (by omega) (by omega)]⟩
  · obtain ⟨⟨a1, a2, a3, a4, a5, a6, a7⟩, b, c, d, e⟩ := hMD
    refine ⟨⟨?_, ?_, ?_, ?_, ?_, ?_, ?_⟩, fun e he => ?_, fun j hj => ?_, fun j hj => ?_, fun j hj => ?_⟩
    · rw [kk3 42 (by decide) (by decide) (by decide) (by omega), a1]; rfl
    · rw [kk3 43 (by decide) (by decide) (by decide) (by omega), a2]; rfl
    · rw [kk3 68 (by decide) (by decide) (by decide) (by omega), a3]; rfl
    · rw [k3 1 (by decide) (by decide), F.2.2.1]; rfl
    · rw [v2]; rfl
    · rw [v3]; rfl
    · rw [kk3 72 (by decide) (by decide) (by decide) (by omega), a7]; rfl
    · rw [r3 83 (by decide), F.1 83 (by decide) (by omega)]; exact b e he
    · rw [r3 90 (by decide), F.1 90 (by decide) (by omega), r3 91 (by decide), F.1 91 (by decide) (by omega)]; exact c j hj
    · have : (j : Int) < 0 := hj
      omega
    · rw [r3 92 (by decide), F.1 92 (by decide) (by omega)]; exact e j hj
  · intro e he
    have hb : σ 58 13 = 0 ∨ σ 58 13 = 1 := hbs.1
    have hm := hB.1.2.1
    rw [h13, hbank 71 (by decide) (by decide) _ (by rw [show zbk 71 = 8 from rfl]; omega)]
    exact hMN e he
theorem s_M_board (hB : zBD V D) (h : zMI σ V D) (hX : ∀ σ' V' D' x, yRes V D V' D' x → zMI σ' V' D' → zfA σ σ' → X (some (iZ x)) σ') : MS G zm_M_board 8 [zr G 58] σ X := by
  have hb13 : σ 58 13 = 0 ∨ σ 58 13 = 1 := h.2.2.2.2.1
  have hD := hB.2.2
  have hMD := h.2.2.1
  have hn : (D 0 3).toNat ≤ 1600 := by have := hD.2.2.2.1; omega
  obtain ⟨n, hnD⟩ : ∃ n : Nat, n = (D 0 3).toNat := ⟨_, rfl⟩
  have hn16 : n ≤ 1600 := by omega
  have hnD' : (n : Int) = D 0 3 := by have := hD.2.2.2.1; omega
  refine k_M_board ?_
  rintro σ1 e1 σ2 e2 σ3 e3 σ4 e4 σ5 e5
  have k5 : ∀ k, k ≠ 4 → k ≠ 1 → k ≠ 6 → k ≠ 10 → k ≠ 11 → σ5 58 k = σ 58 k := fun k a b c d f => by rw [e5, zupd_nk f, e4, zupd_nk d, e3, zupd_nk c, e2, zupd_nk b, e1, zupd_nk a]
  have r5 : ∀ q, q ≠ 58 → σ5 q = σ q := fun q a => by rw [e5, zupd_row a, e4, zupd_row a, e3, zupd_row a, e2, zupd_row a, e1, zupd_row a]
  have v4 : σ5 58 4 = (n : Int) := by rw [e5, zupd_nk (by decide), e4, zupd_nk (by decide), e3, zupd_nk (by decide), e2, zupd_nk (by decide), e1, zupd_same, hMD.1.2.2.2.1]; exact hnD'.symm
  have v1 : σ5 58 1 = 0 := by rw [e5, zupd_nk (by decide), e4, zupd_nk (by decide), e3, zupd_nk (by decide), e2, zupd_same]
  have v6 : σ5 58 6 = 0 := by rw [e5, zupd_nk (by decide), e4, zupd_nk (by decide), e3, zupd_same]
  have v10 : σ5 58 10 = 0 := by rw [e5, zupd_nk (by decide), e4, zupd_same]
  have v11 : σ5 58 11 = -1 := by rw [e5, zupd_same]
  have h13 : σ5 58 13 = σ 58 13 := k5 13 (by decide) (by decide) (by decide) (by decide) (by decide)
  refine s_M_fresh (by rw [h13]; exact hb13) (fun σ6 i hi h35 c6 w6 r6 k6 o6 => ⟨rfl, ?_⟩)
  rw [h13] at hi
  have hii : σ6 58 35 = (i : Int) ∧ i ≤ 1 := ⟨h35, by omega⟩
  have F6 : zfZ i σ σ6 := ⟨fun q a b => by rw [r6 q a (by omega), r5 q a], fun k a b => by rw [k6 k (by omega) (by omega), k5 k (by omega) a (by omega) (by omega) (by omega)], by rw [k6 1 (by decide) (by decide)]; exact v1, fun q a b k c => by
    by_cases y : q ≤ 67
    · rw [o6 q a y k c, r5 q (by omega)]
    · rw [r6 q (by omega) (by omega), r5 q (by omega)]⟩
  have hx6 : zmX σ6 (fun k => D 4 k) n := ⟨fun k hk => by
    rw [r6 59 (by decide) (by omega), r5 59 (by decide)]
    exact hMD.2.2.2.1 k (by omega), ⟨by rw [k6 4 (by decide) (by decide)]; exact v4, by rw [k6 11 (by decide) (by decide)]; exact v11⟩, hn16, hD.2.2.2.2.2.2.2.2⟩
  have stop : ∀ (s s1 s2 : zPH) (kk pl : Int), yAll (fun k => D 4 k) n = .inr (kk, pl) → zFt s kk pl → zfZ i σ s → s1 = zupd s 58 2 (s 58 10) → s2 = zupd s1 58 3 (s1 58 11) → X (some (iZ (-1))) s2 := fun s s1 s2 kk pl hA ft F e1 e2 => by
    rw [hnD] at hA
    obtain ⟨a, b, c⟩ := zmf_out hB h hi hA ft F e1 e2
    exact hX s2 V _ (-1) a b c
  have ftA : ∀ (s : zPH) (x kk pl : Int), yAll (fun k => D 4 k) n = .inr (kk, pl) → zFt s kk pl → zfZ i σ s → b_M_board_111 G X x s := fun s x kk pl hA ft F => by
    refine s_M_eyesOfTests' ft ⟨rfl, ?_⟩
    rintro s1 es1 s2 es2
    have e10 : s2 58 10 = s 58 10 := by rw [es2, zupd_nk (by decide), es1, zupd_nk (by decide)]
    have f1 := ft.1.1
    have f2 := ft.1.2.2
    rw [e10]
    exact ⟨by omega, fun z => by omega, fun _ => stop s s1 s2 kk pl hA ft F es1 es2⟩
  have start : ∀ s : zPH, zmN s (fun k => D 4 k) n 0 → zfq σ6 s → MS G zm_M_sizes 4 [zr G 58] s (fun v σ39 => v = none ∧ zLP1 (b_M_board_45 G X) (0 + 1) σ39) := by
    intro s A f
    have his : s 58 35 = (i : Int) ∧ i ≤ 1 := by rw [f.2 35 (by decide)]; exact hii
    refine s_M_sizesO A his hn16 (c6.to (fun q _ => f.1 q (by omega)) (f.2 34 (by decide))) (w6.to (fun q _ _ => f.1 q (by omega))) (fun s1 hE f1 => ⟨rfl, ?_⟩)
    have F1 : zfZ i σ s1 := (F6.p f.p).p f1
    have key : ∀ (RR : (zPH × Nat × Nat) ⊕ (Int × Int)), (∀ kk pl, RR = .inr (kk, pl) → yAll (fun k => D 4 k) n = .inr (kk, pl)) → (∀ W p k, RR = .inl (W, p, k) → yAll (fun k => D 4 k) n = match yEyes W (W 0 7).toNat with | .inr e => .inr e | .inl W' => .inl (W', k)) → ∀ (x0 : Int) (s0 : zPH), ((s0 58 35 = (i : Int)) ∧ zfZ i σ s0 ∧ ((∃ W p, ∃ k g : Nat, x0 = (k : Int) ∧ yLo s0 (fun k => D 4 k) n i W p ∧ yOk W ∧ yBp W p ∧ (1 ≤ k ∧ k ≤ 60) ∧ g + k = 62 ∧ yMore (fun k => D 4 k) n g k W p = RR) ∨ (zI x0 ∧ ∃ kk pl, RR = .inr (kk, pl) ∧ zFt s0 kk pl))) → zLP1 (b_M_board_45 G X) x0 s0 := by
      intro RR hR1 hR2 x0 s0 h0
      refine zLP1_ind (fun x0 s0 => ((s0 58 35 = (i : Int)) ∧ zfZ i σ s0 ∧ ((∃ W p, ∃ k g : Nat, x0 = (k : Int) ∧ yLo s0 (fun k => D 4 k) n i W p ∧ yOk W ∧ yBp W p ∧ (1 ≤ k ∧ k ≤ 60) ∧ g + k = 62 ∧ yMore (fun k => D 4 k) n g k W p = RR) ∨ (zI x0 ∧ ∃ kk pl, RR = .inr (kk, pl) ∧ zFt s0 kk pl)))) (fun x0 s0 => if s0 58 10 = 0 then (100 - x0).toNat else 0) ?_ h0
      clear h0
      rintro K x s0 ⟨h35, F, ⟨W, p, k, g, rfl, L, ok, bp, hk, hg, eR⟩ | ⟨hx, kk, pl, eR, ft⟩⟩ hK
      rotate_left
      · have e10 := ft.1.1
        have e11 := ft.1.2.2
        exact ⟨by omega, fun _ => ftA s0 x kk pl (hR1 kk pl eR) ft F, fun z => by omega⟩
      obtain ⟨⟨hx, h10, hp, km⟩, hc, hw, hb⟩ := L
      have hk5 := km.2.1
      have hk7 := km.2.2.2.2.2.2.2.2.2.2
      have hmu : (if s0 58 10 = 0 then (100 - (k : Int)).toNat else 0) = (100 - (k : Int)).toNat := if_pos h10
      obtain ⟨g', rfl⟩ : ∃ g', g = g' + 1 := ⟨g - 1, by omega⟩
      rw [yMore_e] at eR
      have h07 := hc.2.1
      have h34 := hc.1
      have hb3 := bp.1
      have s7 : s0 58 7 = 0 → ztK (fun k => D 4 k) n p = 4 := fun z => by
        by_cases y : ztK (fun k => D 4 k) n p = 5
        · exact absurd z (hk5 y).2
        · exact (zmk_1 (T := fun k => D 4 k) (n := n) (p := p) ⟨hx, h10, hp, km, y⟩).2.2.2 z
      have s7' : ztK (fun k => D 4 k) n p = 4 → s0 58 7 = 0 := km.2.2.2.1
      refine ⟨by omega, fun z => absurd h10 z, fun _ => ⟨by omega, fun z => ?_, fun z => ?_⟩⟩
      · rw [if_pos (s7 z)] at eR
        have hA := hR2 W p k eR.symm
        refine s_M_eyesOfTests ⟨h35, by omega⟩ hc hw ok.1.2.1 ok.1.2.2.2.2.2 ok.2.2.2 h10 (by omega) (fun s1 W' hy h77 rs f1 => ⟨rfl, ?_⟩) (fun s1 kk pl hy ft f1 => ⟨rfl, ?_⟩)
        · rw [hy] at hA
          dsimp only at hA
          rintro s2 es2 s3 es3
          have s58 : s1 58 = s0 58 := rs 58 (by decide)
          have k3 : ∀ k, k ≠ 2 → k ≠ 3 → s3 58 k = s0 58 k := fun k a b => by rw [es3, zupd_nk b, es2, zupd_nk a, s58]
          rw [k3 10 (by decide) (by decide), h10]
          refine ⟨by decide, fun _ => ?_, fun u => absurd u (by decide)⟩
          rw [k3 35 (by decide) (by decide), h35]
          rintro s4 e4 s5 e5 s6 e6 s7 e7
          have k7 : ∀ k, k ≠ 2 → k ≠ 3 → k ≠ 13 → k ≠ 42 → k ≠ 43 → k ≠ 68 → s7 58 k = s0 58 k := fun k a b c d e f => by rw [e7, zupd_nk f, e6, zupd_nk e, e5, zupd_nk d, e4, zupd_nk c, k3 k a b]
          have r7 : ∀ q, q ≠ 58 → s7 q = s1 q := fun q a => by rw [e7, zupd_row a, e6, zupd_row a, e5, zupd_row a, e4, zupd_row a, es3, zupd_row a, es2, zupd_row a]
          have w2 : s7 58 2 = 0 := by rw [e7, zupd_nk (by decide), e6, zupd_nk (by decide), e5, zupd_nk (by decide), e4, zupd_nk (by decide), es3, zupd_nk (by decide), es2, zupd_same, s58]; exact h10
          have w3 : s7 58 3 = -1 := by
            rw [e7, zupd_nk (by decide), e6, zupd_nk (by decide), e5, zupd_nk (by decide), e4, zupd_nk (by decide), es3, zupd_same, es2, zupd_nk (by decide), s58]
            exact hx.2.1.2
          have w13 : s7 58 13 = (i : Int) := by rw [e7, zupd_nk (by decide), e6, zupd_nk (by decide), e5, zupd_nk (by decide), e4, zupd_same]
          have w42 : s7 58 42 = 0 := by rw [e7, zupd_nk (by decide), e6, zupd_nk (by decide), e5, zupd_same]
          have w43 : s7 58 43 = 0 := by rw [e7, zupd_nk (by decide), e6, zupd_same]
          have w68 : s7 58 68 = 0 := by rw [e7, zupd_same]
          obtain ⟨nbs, nmn⟩ := zmBs_new (s := s7) (i := i) (by omega) w13 ok hy (by omega) (hw.to (fun q a b => by rw [r7 q (by omega), rs q (by omega)])) (hc.to (fun q _ => by rw [r7 q (by omega), rs q (by omega)]) (k7 34 (by decide) (by decide) (by decide) (by decide) (by decide) (by decide))) (fun j hj hj1 => by rw [r7 77 (by decide)]; exact h77 j hj hj1)
          obtain ⟨vd, vt, -, -⟩ := yOk_V ok hy (by omega)
          refine zLP2_ind (fun y0 y1 s => y0 = (k : Int) ∧ ∃ j : Nat, y1 = (j : Int) ∧ j ≤ 8 ∧ (∀ q, q ≠ 83 → s q = s7 q) ∧ ∀ u, u < j → s 83 u = 0) (fun _ y1 _ => (8 - y1).toNat) ?_ ⟨rfl, 0, rfl, by decide, fun _ _ => rfl, fun u hu => by omega⟩
          rintro K2 y0 y1 s8 ⟨rfl, j, rfl, hj, hs8, hz⟩ hK2
          refine ⟨by omega, fun u => ?_, fun u => ⟨by omega, ?_⟩⟩
          · have hj8 : j = 8 := by omega
            subst hj8
            have s858 : s8 58 = s7 58 := hs8 58 (by decide)
            have kk : ∀ k, k ≠ 1 → k ≠ 2 → k ≠ 3 → k ≠ 13 → k ≠ 42 → k ≠ 43 → k ≠ 68 → (k < 4 ∨ (12 < k ∧ k ≠ 34 ∧ k ≠ 35 ∧ k ≠ 39 ∧ k ≠ 40 ∧ k ≠ 41)) → s8 58 k = σ 58 k := fun k a b c d e f g o => by rw [s858, k7 k b c d e f g, F.2.1 k a o]
            have nr : zMR s8 := by
              have := h.2.1
              unfold zMR at *
              rw [kk 45 (by decide) (by decide) (by decide) (by decide) (by decide) (by decide) (by decide) (by omega), kk 46 (by decide) (by decide) (by decide) (by decide) (by decide) (by decide) (by decide) (by omega), kk 49 (by decide) (by decide) (by decide) (by decide) (by decide) (by decide) (by decide) (by omega), kk 50 (by decide) (by decide) (by decide) (by decide) (by decide) (by decide) (by decide) (by omega), kk 51 (by decide) (by decide) (by decide) (by decide) (by decide) (by decide) (by decide) (by omega), kk 56 (by decide) (by decide) (by decide) (by decide) (by decide) (by decide) (by decide) (by omega)]
              exact this
            have nb8 : zmBs s8 W' := nbs.to (fun q _ _ => hs8 q (by omega)) (by rw [s858])
            refine hX s8 W' (yDn D) k ?_ ⟨zMV_0 vd nb8 nr, nr, ⟨⟨?_, ?_, ?_, ?_, ?_, ?_, ?_⟩, fun e he => ?_, fun j hj => ?_, fun j hj => ?_, fun j hj => ?_⟩, ?_, nb8⟩ (fun q hq => ?_)
            · unfold yRes; rw [← hnD, hA]; exact ⟨rfl, rfl, rfl⟩
            · rw [s858, w42]; rfl
            · rw [s858, w43]; rfl
            · rw [s858, w68]; rfl
            · rw [s858, k7 1 (by decide) (by decide) (by decide) (by decide) (by decide) (by decide), F.2.2.1]; rfl
            · rw [s858, w2]; rfl
            · rw [s858, w3]; rfl
            · rw [kk 72 (by decide) (by decide) (by decide) (by decide) (by decide) (by decide) (by decide) (by omega), hMD.1.2.2.2.2.2.2]; rfl
            · have := vd.2.1
              rw [hz e (by omega)]; rfl
            · have : (j : Int) < 0 := hj
              omega
            · have : (j : Int) < 0 := hj
              omega
            · rw [hs8 92 (by decide), r7 92 (by decide), rs 92 (by decide), F.1 92 (by decide) (by omega)]; exact hMD.2.2.2.2 j hj
            · unfold zMN at *; rw [s858, hs8 71 (by decide)]; exact nmn
            · rw [hs8 q (by omega), r7 q (by omega), rs q (by omega), F.1 q (by omega) (by omega)]
          · rintro s9 e9
            rw [Int.toNat_natCast] at e9
            refine hK2 _ _ _ ⟨rfl, j + 1, by omega, by omega, fun q hq => by rw [e9, zupd_row hq]; exact hs8 q hq, fun u hu => ?_⟩ (by omega)
            rw [e9]
            by_cases y : u = j
            · subst y; rw [zupd_same]
            · rw [zupd_nk y]; exact hz u (by omega)
        · rw [hy] at hA
          dsimp only at hA
          rintro s2 es2 s3 es3
          have e10 : s3 58 10 = s1 58 10 := by rw [es3, zupd_nk (by decide), es2, zupd_nk (by decide)]
          have f1' := ft.1.1
          have f2' := ft.1.2.2
          rw [e10]
          exact ⟨by omega, fun z => by omega, fun _ => stop s1 s2 s3 kk pl hA ft (F.p f1) es2 es3⟩
      · have hk4 : ztK (fun k => D 4 k) n p ≠ 4 := fun y => z (s7' y)
        rw [if_neg hk4] at eR
        have bad : ∀ (s1 : zPH) (kk pl : Int), RR = .inr (kk, pl) → zmFt s1 kk pl → zfq s0 s1 → b_M_board_94 G X K (k : Int) s1 := fun s1 kk pl hR F1 f1 => by
          have f2' := F1.1
          have f3' := F1.2.2
          refine ⟨by omega, fun _ => hK _ _ ⟨by rw [f1.2 35 (by decide)]; exact h35, F.p f1.p, Or.inr ⟨by omega, kk, pl, hR, F1, by rw [f1.2 34 (by decide)]; omega⟩⟩ (by rw [hmu]; split <;> omega), fun y => by omega⟩
        refine ⟨by omega, fun u => ?_, fun u => ?_⟩
        · rw [if_neg (by omega)] at eR
          have r12 : zI (s0 58 12) := by
            by_cases y : ztK (fun k => D 4 k) n p = 5
            · have := ztF_r (T := fun k => D 4 k) hn16 hp
              rw [(hk5 y).1]; omega
            · rw [(km.2.2.1 y).1]; decide
          refine ⟨r12, fun w => ?_, fun w => ?_⟩
          · have y : ztK (fun k => D 4 k) n p ≠ 5 := fun y => by have := (hk5 y).1; omega
            refine ⟨by omega, fun v => absurd h10 v, fun _ => ?_⟩
            refine s_M_statementO ⟨y, ⟨hx, h10, hp, km, y⟩, hc, hw, hb⟩ ⟨h35, by omega⟩ ok.1.2.1 ok.1.2.2.2.2.2 (fun s1 hE1 f1 => ⟨rfl, ?_⟩)
            obtain ⟨hi1, ⟨W1, p1, er, L1⟩ | ⟨kk, pl, er, ft⟩⟩ := hE1
            · rw [er] at eR
              obtain ⟨a1, a2, a3, a4⟩ := yStep_ok hn16 ok bp hp er
              refine hK _ _ ⟨hi1.1, F.p f1, Or.inl ⟨W1, p1, k + 1, g', by omega, L1, a1, a2, by omega, by omega, eR⟩⟩ ?_
              rw [hmu]; split <;> omega
            · rw [er] at eR
              refine hK _ _ ⟨hi1.1, F.p f1, Or.inr ⟨by omega, kk, pl, eR.symm, ft⟩⟩ ?_
              have := ft.1.1
              have := ft.1.2.2
              rw [hmu, if_neg (by omega)]; omega
          · have y : ztK (fun k => D 4 k) n p = 5 := by
              by_cases y : ztK (fun k => D 4 k) n p = 5
              · exact y
              · exact absurd (km.2.2.1 y).1 w
            rw [(hk5 y).1]
            have hpn : yPiece (fun k => D 4 k) n W p = yNo (fun k => D 4 k) n p := by
              unfold yPiece; rw [if_pos (fun z => by omega)]
            rw [hpn] at eR
            exact s_M_blame h10 (by decide) (fun s1 F1 f1 _ => ⟨rfl, bad s1 1 _ eR.symm F1 f1⟩)
        · rw [if_pos (by omega)] at eR
          rw [km.1]
          exact s_M_blame h10 (by decide) (fun s1 F1 f1 _ => ⟨rfl, bad s1 5 _ eR.symm F1 f1⟩)
    obtain ⟨hi1, ⟨W1, p1, er, L1⟩ | ⟨kk, pl, er, ft⟩⟩ := hE
    · obtain ⟨o1, o2, o3, o4⟩ := ySize_ok er
      refine key (yMore (fun k => D 4 k) n 61 1 W1 p1) (fun kk pl hr => ?_) (fun W p k hr => ?_) _ s1 ⟨hi1.1, F1, Or.inl ⟨W1, p1, 1, 61, rfl, L1, o1, o2, by omega, rfl, rfl⟩⟩
      · unfold yAll; rw [er]; dsimp only; rw [hr]
      · unfold yAll; rw [er]; dsimp only; rw [hr]
        rfl
    · refine key (.inr (kk, pl)) (fun k2 p2 hr => ?_) (fun W p k hr => nomatch hr) _ s1 ⟨hi1.1, F1, Or.inr ⟨by decide, kk, pl, rfl, ft⟩⟩
      unfold yAll; rw [er]; dsimp only
      simp only [Sum.inr.injEq] at hr ⊢; exact hr
  refine s_M_next0 hx6 (by rw [k6 10 (by decide) (by decide)]; exact v10) (Nat.zero_le _) (by rw [k6 6 (by decide) (by decide), v6]; rfl) (fun s a f => ⟨rfl, start s (Or.inl ⟨a.2.2.2.2, a⟩) f⟩) (fun q s a f => ⟨rfl, start s (Or.inr ⟨q, a⟩) f⟩)
end MBB
