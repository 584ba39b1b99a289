section RR
variable {G : zG} {σ : zPH} {X : zX} {T : Nat → Int} {n u : Nat}
theorem s_R_read (hT : ∀ k, 0 ≤ T k ∧ T k < 256) (hn : n ≤ 1600) (hu : zisT u) (hz : zTs σ u) (h44 : σ 4 4 = ((u : Nat) : Int)) (htx : zkT σ T n)
  (hX1 : ∀ σ' W' k, yAll T n = .inl (W', k) → zTV σ' u W' → zT59 σ' u → zNc σ' u W' → (σ' 4 0 = 0 ∧ σ' 4 1 = -1 ∧ σ' 4 4 = ((u : Nat) : Int)) → yfr u σ σ' → X (some (iZ ((k : Nat) : Int))) σ')
  (hX0 : ∀ σ' e pl, yAll T n = .inr (e, pl) → zTs σ' u → (σ' 4 0 = e ∧ σ' 4 1 = pl ∧ σ' 4 4 = ((u : Nat) : Int)) → yfr u σ σ' → X (some (iZ (-1))) σ') : MS G zm_R_read 42 [zr G 4, zr G 1, iZ (n : Int)] σ X := by
  have hh := hu.h
  have hu32 : 32 ≤ u := hh.1
  have h8s : zsh G.2.2.2 (u + 8) = .inr (0, 4) := by rcases hu with rfl | rfl <;> rfl
  have h2s : zsh G.2.2.2 (u + 2) = .inr (0, 144) := by rcases hu with rfl | rfl <;> rfl
  refine k_R_read hu ?_
  rintro σ1 e1 σ2 e2
  have r2 : ∀ q, q ≠ 4 → σ2 q = σ q := fun q a => by rw [e2, zupd_row a, e1, zupd_row a]
  have k2 : ∀ j, j ≠ 0 → j ≠ 1 → σ2 4 j = σ 4 j := fun j a b => by rw [e2, zupd_nk b, e1, zupd_nk a]
  have v0 : σ2 4 0 = 0 := by rw [e2, zupd_nk (by decide), e1, zupd_same]
  have v1 : σ2 4 1 = -1 := by rw [e2, zupd_same]
  refine s_K_split (htx.to (r2 1 (by decide))) (fun σ3 c hk f3 => ⟨rfl, ?_⟩)
  rintro σ4 e4 σ5 e5
  have r5 : ∀ q, (q < 8 ∨ 12 < q) → q ≠ 4 → σ5 q = σ q := fun q a b => by rw [e5, zupd_row b, e4, zupd_row b, f3 q a, r2 q b]
  have k5 : ∀ j, j ≠ 3 → j ≠ 8 → σ5 4 j = σ2 4 j := fun j a b => by rw [e5, zupd_nk b, e4, zupd_nk a, f3 4 (by omega)]
  have w3 : σ5 4 3 = 0 := by rw [e5, zupd_nk (by decide), e4, zupd_same]
  have w8 : σ5 4 8 = 0 := by rw [e5, zupd_same]
  have w4 : σ5 4 4 = ((u : Nat) : Int) := by rw [k5 4 (by decide) (by decide), k2 4 (by decide) (by decide)]; exact h44
  refine ⟨w4, s_T_clear hu h8s h2s (hz.to (fun q a b => r5 q (by omega) (by omega))) (fun σ6 z6 c14 cm1 cw r6 => ⟨rfl, ?_⟩)⟩
  have F6 : yfr u σ σ6 := fun q a b => by rw [r6 q (by omega) (by omega) (by omega), r5 q (by omega) (by omega)]
  have start : yRn σ6 T n u yRq yW0 0 := by
    have s4 : σ6 4 = σ5 4 := r6 4 (by omega) (by omega) (by omega)
    refine ⟨⟨⟨c, 0, hk.to (fun q a b => by rw [r6 q (by omega) (by omega) (by omega), e5, zupd_row (by omega), e4, zupd_row (by omega)]), by rw [s4]; exact w3, by have := hk.2.1; omega⟩, by rw [s4]; exact w4, z6, by rw [s4, w8]; decide, by rw [c14]; decide, fun e he => ?_⟩, ⟨by rw [s4, k5 0 (by decide) (by decide)]; exact v0, by rw [s4, k5 1 (by decide) (by decide)]; exact v1⟩, by rw [s4, w3]; rfl, cw, ⟨by rw [s4, w8]; rfl, fun k hk => ?_⟩, by decide⟩
    · have h5 : σ6 (u + 8) 3 = 0 := cw.1.2.2.2.2.2.1
      rw [h5] at he; omega
    · have : (k : Int) < 0 := hk
      omega
  have key : ∀ (RR : (zPH × Nat × Nat) ⊕ (Int × Int)), (∀ kk pl, RR = .inr (kk, pl) → yAll T n = .inr (kk, pl)) → (∀ W p k, RR = .inl (W, p, k) → yAll T n = match yEyes W (W 0 7).toNat with | .inr e => .inr e | .inl W' => .inl (W', k)) → (∀ W p, ybn (ySize T n yW0 0) (yEx T n 3 59) = .inl (W, p) → RR = yMore T n 61 1 W p) → (∀ kk pl, ybn (ySize T n yW0 0) (yEx T n 3 59) = .inr (kk, pl) → RR = .inr (kk, pl)) → zLP1 (b_R_read_38 G u (n : Int) X) 0 σ6 := by
    intro RR hR1 hR2 hR3 hR4
    have fault128 : ∀ (s : zPH) (x kk pl : Int), RR = .inr (kk, pl) → yRf s T n u kk pl → yfr u σ s → b_R_read_128 G u (n : Int) X x s := fun s x kk pl eR hF f => by
      have e10 := hF.2.1
      have e11 := hF.2.2.2
      exact s_R_findSeenEyes' hu hF ⟨rfl, by omega, fun _ => hX0 s kk pl (hR1 kk pl eR) hF.1.2.2.1 ⟨hF.2.1, hF.2.2.1, hF.1.2.1⟩ f, fun y => by omega⟩
    have fault120 : ∀ (s : zPH) (x kk pl : Int), zI x → RR = .inr (kk, pl) → yRf s T n u kk pl → yfr u σ s → b_R_read_120 G u (n : Int) X x s := fun s x kk pl hx eR hF f =>
      ⟨hx, fun _ => fault128 s x kk pl eR hF f, fun _ => s_R_refuseToken' hT hn hF ⟨rfl, fault128 s x kk pl eR hF f⟩⟩
    refine zLP1_ind (fun x s => yfr u σ s ∧ ((x = 0 ∧ yRn s T n u yRq yW0 0 ∧ ∀ k, k < 144 → s (u + 2) k = -1) ∨ (∃ W p, ∃ k g : Nat, x = (k : Int) ∧ yRn s T n u yRq W p ∧ yOk W ∧ yBp W p ∧ (0 < p ∧ p ≤ n) ∧ (1 ≤ k ∧ k ≤ 60) ∧ W 0 6 = (k : Int) - 1 ∧ g + k = 62 ∧ yMore T n g k W p = RR) ∨ ((0 ≤ x ∧ x ≤ 61) ∧ ∃ kk pl, RR = .inr (kk, pl) ∧ yRf s T n u kk pl))) (fun x s => (100 - x).toNat) ?_ ⟨F6, Or.inl ⟨rfl, start, cm1⟩⟩
    rintro K x s ⟨f, ⟨rfl, h, h2⟩ | ⟨W, p, k, g, rfl, h, ok, bp, hp, hk, h6, hg, eR⟩ | ⟨hx, kk, pl, eR, hF⟩⟩ hK
    · -- the size
      obtain ⟨a, c', ha, hlt, hkv, ht, h16, e4', hpn, i1, i2⟩ := h.1.tk hT hn
      have hz0 := h.2.2.1
      rw [ht] at hz0
      rw [hz0] at e4'
      have h00 := h.2.1.1
      refine ⟨by decide, fun y => by omega, fun _ => ⟨by omega, fun y => absurd h00 y, fun _ => ⟨by omega, ?_⟩⟩⟩
      rw [ht]
      refine ⟨i1, fun y => ⟨by decide, fun z => absurd rfl z, fun _ => ?_⟩, fun y => ⟨by decide, fun z => absurd rfl z, fun _ => ?_⟩⟩
      · have k4 : ztK T n 0 = 4 := by rw [← e4'.1]; exact y
        refine s_R_refuseToken hT hn hu32 h (fun s1 F1 f1 => ⟨rfl, fault128 s1 0 1 _ (hR4 _ _ ?_) F1 (f.trans f1)⟩)
        rw [ySize_e, if_pos (fun z => by have := z.1; omega)]; rfl
      · refine s_R_readSizeO hT hn hu h h2 (fun s1 h1 f1 => ⟨rfl, ?_⟩)
        refine s_R_expectSignO (S := yRq) (P := fun _ _ => True) (R := ybn (ySize T n yW0 0) (yEx T n 3 59)) hT hn hu32 (by decide) (fun _ _ => True) yid ?_ (fun _ _ _ _ => trivial) (fun s2 h2' f2 => ⟨rfl, ?_⟩)
        · rcases h1 with ⟨W1, p1, q1, -, h1⟩ | ⟨kk, pl, q1, h1⟩
          · refine Or.inl ⟨W1, p1, ?_, trivial, h1⟩
            have q1' : ySize T n yW0 0 = .inl (W1, p1) := q1.symm
            rw [q1']
            show ybn (yEx T n 3 59 W1 p1) yid = yEx T n 3 59 W1 p1
            cases yEx T n 3 59 W1 p1 with
            | inl x => rfl
            | inr x => rfl
          · exact Or.inr ⟨kk, pl, by rw [q1]; rfl, h1⟩
        · rcases h2' with ⟨W2, p2, q2, -, h2'⟩ | ⟨kk, pl, q2, h2'⟩
          · have q2' : ybn (ySize T n yW0 0) (yEx T n 3 59) = .inl (W2, p2) := q2.symm
            obtain ⟨s1', s2', s3', s4'⟩ := ySize_ok q2'
            exact hK _ _ ⟨f.trans (f1.trans f2), Or.inr (Or.inl ⟨W2, p2, 1, 61, rfl, h2', s1', s2', s3', by omega, by rw [s4']; rfl, rfl, (hR3 W2 p2 q2').symm⟩)⟩ (by decide)
          · exact hK _ _ ⟨f.trans (f1.trans f2), Or.inr (Or.inr ⟨by decide, kk, pl, hR4 kk pl q2, h2'⟩)⟩ (by decide)
    · -- a piece
      obtain ⟨a, c', ha, hlt, hkv, ht, h16, e4', hpn, i1, i2⟩ := h.1.tk hT hn
      have hz0 := h.2.2.1
      rw [ht] at hz0
      rw [hz0] at e4'
      have h00 := h.2.1.1
      obtain ⟨g', rfl⟩ : ∃ g', g = g' + 1 := ⟨g - 1, by omega⟩
      rw [yMore_e] at eR
      have bp3 := bp.1
      refine ⟨by omega, fun y => by omega, fun _ => ⟨by omega, fun y => absurd h00 y, fun _ => ⟨by omega, ?_⟩⟩⟩
      rw [ht]
      refine ⟨i1, fun y => ⟨by omega, fun _ => ?_, fun z => by omega⟩, fun y => ⟨by omega, fun _ => ⟨by omega, fun z => ?_, fun z => ?_⟩, fun z => by omega⟩⟩
      · have k4 : ztK T n p = 4 := by rw [← e4'.1]; exact y
        rw [if_pos k4] at eR
        have hA := hR2 W p k eR.symm
        refine s_R_findSeenEyes hu h ok (by omega) (fun s1 W' hy hcode r1 => ⟨rfl, ?_⟩) (fun s1 kk pl hy hF f1 => ⟨rfl, ?_⟩)
        · rw [hy] at hA
          dsimp only at hA
          have s4 : s1 4 = s 4 := r1 4 (by omega)
          rw [s4]
          refine ⟨by omega, fun z => absurd h00 z, fun _ => ?_⟩
          obtain ⟨hA0, hTa, hl, hC⟩ := ok
          obtain ⟨v1', v2', wr, -⟩ := yOk_V ⟨hA0, hTa, hl, hC⟩ hy (by omega)
          obtain ⟨w1, w2, w3, w4, w5, w7, w8, w9, w10⟩ := h.2.2.2.1
          have rt : ∀ q, q ≠ u + 11 → s1 q = s q := r1
          have hva : ∀ q, zva W' q ↔ zva W q := fun q => by unfold zva; rw [wr 0 (by decide)]
          refine hX1 s1 W' k hA ⟨?_, ?_, ?_, ?_, ?_, ?_, ?_⟩ ?_ ?_ ⟨by rw [s4]; exact h00, by rw [s4]; exact h.2.1.2, by rw [s4]; exact h.1.2.1⟩ (f.trans (fun q a b => rt q (by omega)))
          · have := h.1.2.2.1
            unfold zTs zPc at *
            rw [rt u (by omega), rt (u + 1) (by omega), rt (u + 2) (by omega), rt (u + 3) (by omega), rt (u + 4) (by omega), rt (u + 5) (by omega), rt (u + 6) (by omega), rt (u + 7) (by omega), rt (u + 8) (by omega), rt (u + 9) (by omega)]
            exact this
          · unfold zTd at *; rw [wr 0 (by decide), rt u (by omega), rt (u + 8) (by omega)]; exact w1
          · unfold zTn zva zN zE zP at *; rw [wr 0 (by decide), rt (u + 1) (by omega)]; exact w2
          · unfold zTq zva zP at *; rw [wr 0 (by decide), wr 1 (by decide), wr 2 (by decide), wr 3 (by decide), wr 4 (by decide), rt (u + 2) (by omega), rt (u + 3) (by omega), rt (u + 4) (by omega), rt (u + 5) (by omega), rt (u + 6) (by omega), rt (u + 7) (by omega)]; exact w3
          · unfold zTm zva zP at *; rw [wr 0 (by decide), wr 1 (by decide), wr 2 (by decide), rt (u + 2) (by omega), rt (u + 9) (by omega)]; exact w4
          · obtain ⟨n5, n6, n12⟩ := hA0.2.2.2.2.1
            refine ⟨fun l hl z => ?_, fun l hl z => ?_, fun l hl z => ?_⟩
            · rw [wr 0 (by decide)] at hl; rw [wr 12 (by decide)] at z; exact absurd z (n12 l hl)
            · rw [wr 0 (by decide)] at hl; rw [wr 5 (by decide)] at z; exact absurd z (n5 l hl)
            · rw [wr 0 (by decide)] at hl; rw [wr 6 (by decide)] at z; exact absurd z (n6 l hl)
          · intro m hm
            rw [wr 0 (by decide)] at hm
            rw [wr 7 (by decide), wr 8 (by decide), rt (u + 12) (by omega)]
            obtain ⟨t1, t2, t3⟩ := hTa m hm
            exact ⟨w7 m hm, t2, fun j j1 j2 => hcode j (by omega)⟩
          · unfold zT59 at *; rw [rt (u + 2) (by omega)]; exact w9
          · intro e he
            rw [wr 0 (by decide)] at he
            rw [rt (u + 10) (by omega), wr 20 (by decide)]
            exact ⟨w8 e he, hA0.2.2.2.2.2 e he⟩
        · rw [hy] at hA
          dsimp only at hA
          have e10 := hF.2.1
          have e11 := hF.2.2.2
          exact ⟨by omega, fun _ => hX0 s1 kk pl hA hF.1.2.2.1 ⟨hF.2.1, hF.2.2.1, hF.1.2.1⟩ (f.trans f1), fun y => by omega⟩
      · have hk4 : ztK T n p ≠ 4 := fun v => y (by rw [e4'.1]; exact v)
        rw [if_neg hk4, if_neg (by omega)] at eR
        refine s_R_readPieceO hT hn hu h ok bp (by omega) hp.1 (fun s1 h1 f1 => ⟨rfl, ?_⟩)
        refine s_R_expectSignO (S := yRq) (P := fun _ _ => True) (R := ybn (yPiece T n W p) (yEx T n 3 59)) hT hn hu32 (by decide) (fun _ _ => True) yid ?_ (fun _ _ _ _ => trivial) (fun s2 h2' f2 => ⟨rfl, ?_⟩)
        · rcases h1 with ⟨W1, p1, q1, -, h1⟩ | ⟨kk, pl, q1, h1⟩
          · refine Or.inl ⟨W1, p1, ?_, trivial, h1⟩
            have q1' : yPiece T n W p = .inl (W1, p1) := q1.symm
            rw [q1']
            show ybn (yEx T n 3 59 W1 p1) yid = yEx T n 3 59 W1 p1
            cases yEx T n 3 59 W1 p1 with
            | inl x => rfl
            | inr x => rfl
          · exact Or.inr ⟨kk, pl, by rw [q1]; rfl, h1⟩
        · rcases h2' with ⟨W2, p2, q2, -, h2'⟩ | ⟨kk, pl, q2, h2'⟩
          · have q2' : ybn (yPiece T n W p) (yEx T n 3 59) = .inl (W2, p2) := q2.symm
            obtain ⟨a1, a2, a3, a4⟩ := yStep_ok hn ok bp hp.2 q2'
            rw [q2'] at eR
            exact hK _ _ ⟨f.trans (f1.trans f2), Or.inr (Or.inl ⟨W2, p2, k + 1, g', by omega, h2', a1, a2, by omega, by omega, by omega, by omega, eR⟩)⟩ (by omega)
          · rw [q2] at eR
            exact hK _ _ ⟨f.trans (f1.trans f2), Or.inr (Or.inr ⟨by omega, kk, pl, eR.symm, h2'⟩)⟩ (by omega)
      · have hk4 : ztK T n p ≠ 4 := fun v => y (by rw [e4'.1]; exact v)
        rw [if_neg hk4, if_pos (by omega)] at eR
        refine ⟨by omega, ?_⟩
        rw [e4'.2.2.1]
        refine s_R_refuse hu32 h.1 h00 (by decide) (fun s1 F1 f1 _ => ⟨rfl, ?_⟩)
        exact k_R_expectSign (s_R_isSign' F1 (Or.inl ⟨rfl, s_R_refuseToken' hT hn F1 ⟨rfl, rfl, hK _ _ ⟨f.trans f1, Or.inr (Or.inr ⟨by omega, 5, _, eR.symm, F1⟩)⟩ (by omega)⟩⟩))
    · have e10 := hF.2.1
      have e11 := hF.2.2.2
      exact ⟨by omega, fun _ => fault120 s x kk pl (by omega) eR hF f, fun _ => ⟨by omega, fun _ => fault120 s x kk pl (by omega) eR hF f, fun y => by omega⟩⟩
  cases hr : ybn (ySize T n yW0 0) (yEx T n 3 59) with
  | inl y =>
    obtain ⟨W1, p1⟩ := y
    refine key (yMore T n 61 1 W1 p1) (fun kk pl hq => ?_) (fun W p k hq => ?_) (fun W p hq => ?_) (fun kk pl hq => ?_)
    · unfold yAll; rw [hr]; dsimp only; rw [hq]
    · unfold yAll; rw [hr]; dsimp only; rw [hq]; rfl
    · rw [hr] at hq
      simp only [Sum.inl.injEq, Prod.mk.injEq] at hq
      rw [hq.1, hq.2]
    · rw [hr] at hq; exact nomatch hq
  | inr y =>
    obtain ⟨kk0, pl0⟩ := y
    refine key (.inr (kk0, pl0)) (fun kk pl hq => ?_) (fun W p k hq => nomatch hq) (fun W p hq => ?_) (fun kk pl hq => ?_)
    · unfold yAll; rw [hr]; dsimp only
      simp only [Sum.inr.injEq] at hq ⊢; exact hq
    · rw [hr] at hq; exact nomatch hq
    · rw [hr] at hq
      simp only [Sum.inr.injEq] at hq ⊢; exact hq
theorem s_B_board {V D : zPH} {t : Nat} (hB : zBD V D) (h : zCI σ V D t u) (hX : ∀ σ' V' D' x t' u', yRes V D V' D' x → zCI σ' V' D' t' u' → zfB σ σ' → X (some (iZ x)) σ') : MS G zm_B_board 43 [zr G 0] σ X := by
  obtain ⟨⟨ht, hu, htu, h03, h44⟩, ⟨hTV, h59, hNc⟩, hTs, ⟨hL1, hL2⟩, hDc⟩ := h
  obtain ⟨⟨c1, c2, c3, c4, c5, c6, c7⟩, ⟨⟨c8, c9⟩, c10, c11⟩, c12, c13, c14⟩ := hDc
  have hD := hB.2.2
  have hth := ht.h
  have huh := hu.h
  have hdis : u + 12 < t ∨ t + 12 < u := by unfold zisT at ht hu; omega
  have hlen := hD.2.2.2.1
  obtain ⟨n, hn⟩ : ∃ n : Nat, n = (D 0 3).toNat := ⟨_, rfl⟩
  refine k_B_board ht hu ?_
  rintro x1 ex1 σ1 e1
  have r1 : ∀ q, q ≠ 0 → σ1 q = σ q := fun q a => by rw [e1, zupd_row a]
  have k1 : ∀ j, j ≠ 1 → σ1 0 j = σ 0 j := fun j a => by rw [e1, zupd_nk a]
  have hx1 : x1 = (n : Int) := by rw [ex1, c4]; omega
  subst hx1
  refine s_R_read (T := fun k => D 4 k) hD.2.2.2.2.2.2.2.2 (by omega) hu (hTs.to (fun q a b => r1 q (by omega))) (by rw [r1 4 (by decide)]; exact h44) ⟨fun k _ => by rw [r1 1 (by decide)]; exact c13 k, by omega, hD.2.2.2.2.2.2.2.2⟩ (fun s W' k hA tv t59 nc ⟨q0, q1, q4⟩ f => ⟨_, rfl, ?_⟩) (fun s e pl hA ts ⟨q0, q1, q4⟩ f => ⟨_, rfl, by decide, fun y => absurd rfl y, fun _ => ?_⟩)
  · obtain ⟨W0, o1, o2, o3, o4, o5⟩ := (yAll_s (T := fun k => D 4 k) (n := n) (by omega)).2 W' k hA
    have hs0 : s 0 = σ1 0 := f 0 (by omega) (by omega)
    refine ⟨by omega, fun _ => ⟨by rw [hs0, k1 3 (by decide)]; exact h03, k_R_giveTable ht hu ⟨q4, ?_⟩⟩, fun y => by omega⟩
    rintro s2 e2
    refine ⟨rfl, ?_⟩
    rintro s3 e3 s4 e4 s5 e5 s6 e6 s7 e7 s8 e8
    have r8 : ∀ q, q ≠ 0 → q ≠ 4 → q ≠ 29 → s8 q = s q := fun q a b c => by rw [e8, zupd_row c, e7, zupd_row a, e6, zupd_row a, e5, zupd_row a, e4, zupd_row a, e3, zupd_row a, e2, zupd_row b]
    have k8 : ∀ j, j ≠ 3 → j ≠ 7 → j ≠ 8 → j ≠ 9 → j ≠ 10 → s8 0 j = σ1 0 j := fun j a b c d e => by rw [e8, zupd_row (by decide), e7, zupd_nk e, e6, zupd_nk d, e5, zupd_nk c, e4, zupd_nk b, e3, zupd_nk a, e2, zupd_row (by decide), hs0]
    have k84 : ∀ j, j ≠ 4 → s8 4 j = s 4 j := fun j a => by rw [e8, zupd_row (by decide), e7, zupd_row (by decide), e6, zupd_row (by decide), e5, zupd_row (by decide), e4, zupd_row (by decide), e3, zupd_row (by decide), e2, zupd_nk a]
    have v3 : s8 0 3 = ((u : Nat) : Int) := by rw [e8, zupd_row (by decide), e7, zupd_nk (by decide), e6, zupd_nk (by decide), e5, zupd_nk (by decide), e4, zupd_nk (by decide), e3, zupd_same]
    have v7 : s8 0 7 = 0 := by rw [e8, zupd_row (by decide), e7, zupd_nk (by decide), e6, zupd_nk (by decide), e5, zupd_nk (by decide), e4, zupd_same]
    have v8 : s8 0 8 = 0 := by rw [e8, zupd_row (by decide), e7, zupd_nk (by decide), e6, zupd_nk (by decide), e5, zupd_same]
    have v9 : s8 0 9 = 0 := by rw [e8, zupd_row (by decide), e7, zupd_nk (by decide), e6, zupd_same]
    have v10 : s8 0 10 = 0 := by rw [e8, zupd_row (by decide), e7, zupd_same]
    have v29 : s8 29 2 = 0 := by rw [e8, zupd_same]
    have v44 : s8 4 4 = ((t : Nat) : Int) := by rw [e8, zupd_row (by decide), e7, zupd_row (by decide), e6, zupd_row (by decide), e5, zupd_row (by decide), e4, zupd_row (by decide), e3, zupd_row (by decide), e2, zupd_same]
    have v01 : s8 0 1 = 0 := by rw [k8 1 (by decide) (by decide) (by decide) (by decide) (by decide), e1, zupd_same]
    have fr : ∀ q, q ≠ 0 → q ≠ 29 → (q < 4 ∨ 12 < q) → (q < u ∨ u + 12 < q) → s8 q = σ q := fun q a b c d => by rw [r8 q a (by omega) b, f q c d, r1 q a]
    have nobit : ∀ e : Nat, ¬ zbt 0 e := fun e z => by unfold zbt at z; simp at z
    refine hX s8 W' (yDn D) k u t (by unfold yRes; rw [← hn, hA]; exact ⟨rfl, rfl, rfl⟩) ⟨⟨hu, ht, fun z => htu z.symm, v3, v44⟩, ⟨tv.to (fun q a b => r8 q (by omega) (by omega) (by omega)), by unfold zT59 at *; rw [r8 _ (by omega) (by omega) (by omega)]; exact t59, by unfold zNc at *; rw [r8 _ (by omega) (by omega) (by omega)]; exact nc⟩, hTV.1.to (fun q a b => fr q (by omega) (by omega) (by omega) (by omega)), ⟨zLG_to hL1 (fun q a b => fr q (by omega) (by omega) (by omega) (by omega)), zLG_to hL2 (fun q a b => fr q (by omega) (by omega) (by omega) (by omega))⟩, ⟨⟨by rw [v7]; rfl, by rw [v8]; rfl, by rw [v29]; rfl, by rw [v01]; rfl, ?_, ?_, ?_⟩, ⟨⟨by rw [v9]; decide, fun e => ?_⟩, by rw [v10]; decide, fun e => ?_⟩, fun j hj => ?_, fun j => ?_, fun j hj => ?_⟩⟩ (fun q a => fr q (by omega) (by omega) (by omega) (by omega))
    · rw [k84 0 (by decide), q0]; rfl
    · rw [k84 1 (by decide), q1]; rfl
    · rw [k8 13 (by decide) (by decide) (by decide) (by decide) (by decide), k1 13 (by decide), c7]; rfl
    · rw [v9]
      exact ⟨fun z => absurd z (nobit e), fun z => absurd (show (0 : Int) = 1 from z.2) (by decide)⟩
    · rw [v10]
      exact ⟨fun z => absurd z (nobit e), fun z => absurd (show (0 : Int) = 2 from z.2) (by decide)⟩
    · have : (j : Int) < 0 := hj
      omega
    · rw [fr 1 (by decide) (by decide) (by decide) (by omega)]; exact c13 j
    · rw [fr 3 (by decide) (by decide) (by decide) (by omega)]; exact c14 j hj
  · have hs0 : s 0 = σ1 0 := f 0 (by omega) (by omega)
    have fr : ∀ q, q ≠ 0 → (q < 4 ∨ 12 < q) → (q < u ∨ u + 12 < q) → s q = σ q := fun q a c d => by rw [f q c d, r1 q a]
    have k8 : ∀ j, j ≠ 1 → s 0 j = σ 0 j := fun j a => by rw [hs0, k1 j a]
    refine hX s V (yDf D e pl) (-1) t u (by unfold yRes; rw [← hn, hA]; exact ⟨rfl, rfl, rfl⟩) ⟨⟨ht, hu, htu, by rw [k8 3 (by decide)]; exact h03, q4⟩, ⟨hTV.to (fun q a b => fr q (by omega) (by omega) (by omega)), by unfold zT59 at *; rw [fr _ (by omega) (by omega) (by omega)]; exact h59, by unfold zNc at *; rw [fr _ (by omega) (by omega) (by omega)]; exact hNc⟩, ts, ⟨zLG_to hL1 (fun q a b => fr q (by omega) (by omega) (by omega)), zLG_to hL2 (fun q a b => fr q (by omega) (by omega) (by omega))⟩, ⟨⟨by rw [k8 7 (by decide), c1]; rfl, by rw [k8 8 (by decide), c2]; rfl, by rw [fr 29 (by decide) (by omega) (by omega), c3]; rfl, by rw [hs0, e1, zupd_same]; rfl, by rw [q0]; rfl, by rw [q1]; rfl, by rw [k8 13 (by decide), c7]; rfl⟩, ⟨⟨by rw [k8 9 (by decide)]; exact c8, by rw [k8 9 (by decide)]; exact c9⟩, by rw [k8 10 (by decide)]; exact c10, by rw [k8 10 (by decide)]; exact c11⟩, fun j hj => by rw [fr 30 (by decide) (by omega) (by omega), fr 31 (by decide) (by omega) (by omega)]; exact c12 j hj, fun j => by rw [fr 1 (by decide) (by omega) (by omega)]; exact c13 j, fun j hj => by rw [fr 3 (by decide) (by omega) (by omega)]; exact c14 j hj⟩⟩ (fun q a => fr q (by omega) (by omega) (by omega))
end RR
