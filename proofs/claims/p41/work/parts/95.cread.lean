section RY
variable {G : zG} {σ : zPH} {X : zX} {T : Nat → Int} {n u : Nat}
theorem yRn_size {s σ' : zPH} {C R p : Nat} (hu : zisT u) (h : yRn s T n u yRq yW0 p) (h2 : ∀ k, k < 144 → s (u + 2) k = -1) (hC : 2 ≤ C ∧ C ≤ 12) (hR : 2 ≤ R ∧ R ≤ 12) (d : yDo s σ' u C R (R * C)) : yRn σ' T n u yRq (zupd (zupd yW0 0 0 (C : Int)) 0 1 (R : Int)) p := by
  have hh := hu.h
  obtain ⟨f1, ⟨g0, g1⟩, f2, f3, f4⟩ := d
  obtain ⟨⟨⟨c', a', hk', ha', hlt'⟩, b2, b3, b4, b5, b6⟩, z0, gz, gw, gq, g7⟩ := h
  obtain ⟨w1, w2, w3, w4, w5, w7, w8, w9, w10⟩ := gw
  have e00 : zupd (zupd yW0 0 0 (C : Int)) 0 1 (R : Int) 0 0 = (C : Int) := by rw [zupd_nk (by decide), zupd_same]
  have e01 : zupd (zupd yW0 0 0 (C : Int)) 0 1 (R : Int) 0 1 = (R : Int) := by rw [zupd_same]
  have e0 : ∀ k, k ≠ 0 → k ≠ 1 → zupd (zupd yW0 0 0 (C : Int)) 0 1 (R : Int) 0 k = 0 := fun k a b => by rw [zupd_nk b, zupd_nk a]; rfl
  have er : ∀ q k, q ≠ 0 → zupd (zupd yW0 0 0 (C : Int)) 0 1 (R : Int) q k = 0 := fun q k a => by rw [zupd_row a, zupd_row a]; rfl
  generalize hW : zupd (zupd yW0 0 0 (C : Int)) 0 1 (R : Int) = W at *
  have rr : ∀ q, q ≠ u → q ≠ u + 1 → σ' q = s q := f1
  have hzP : ∀ q, zP W q = q / 12 * C + q % 12 := fun q => by unfold zP; rw [e00, Int.toNat_natCast]
  obtain ⟨d0, d1, d2, d3, d4, d5, d6⟩ := w1
  have hzv : ∀ q, zva W q → q % 12 < C ∧ q / 12 < R := fun q hq => by
    obtain ⟨x, y⟩ := hq
    rw [e00] at x; rw [e01] at y; omega
  have zlt : ∀ q, zva W q → zP W q < 144 := fun q hq => by
    obtain ⟨x, y⟩ := hzv q hq
    have := Nat.mul_le_mul (show q / 12 ≤ 11 by omega) hC.2
    rw [hzP]; omega
  obtain ⟨t1, t2, t3, t4, t5, t6, t7, t8, t9⟩ := b3
  refine ⟨⟨⟨c', a', hk'.to (fun q y1 y2 => rr q (by omega) (by omega)), by rw [rr 4 (by omega) (by omega)]; exact ha', hlt'⟩, by rw [rr 4 (by omega) (by omega)]; exact b2, ⟨fun k => ?_, by rw [rr _ (by omega) (by omega)]; exact t2, by rw [rr _ (by omega) (by omega)]; exact t3, ?_, by rw [g0, g1]; omega, by rw [rr _ (by omega) (by omega)]; exact t6, by rw [rr _ (by omega) (by omega)]; exact t7, by rw [rr _ (by omega) (by omega)]; exact t8, by rw [rr (u + 8) (by omega) (by omega), rr (u + 9) (by omega) (by omega), rr (u + 7) (by omega) (by omega), rr (u + 6) (by omega) (by omega)]; exact t9⟩, by rw [rr 4 (by omega) (by omega)]; exact b4, by rw [f2 14 (by decide) (by decide)]; exact b5, by rw [rr (u + 8) (by omega) (by omega), rr (u + 10) (by omega) (by omega)]; exact b6⟩, by rw [rr 4 (by omega) (by omega)]; exact z0, by rw [rr 4 (by omega) (by omega)]; exact gz, ⟨⟨by rw [g0, e00], by rw [g1, e01], by rw [rr _ (by omega) (by omega), e0 2 (by decide) (by decide)]; exact d2, by rw [rr _ (by omega) (by omega), e0 3 (by decide) (by decide)]; exact d3, by rw [rr _ (by omega) (by omega), e0 4 (by decide) (by decide)]; exact d4, by rw [rr _ (by omega) (by omega), e0 5 (by decide) (by decide)]; exact d5, by rw [f2 4 (by decide) (by decide), e0 6 (by decide) (by decide)]; exact d6⟩, ?_, ?_, ?_, ⟨by rw [f2 14 (by decide) (by decide), e0 7 (by decide) (by decide)]; exact w5.1, fun k hk => by rw [e0 7 (by decide) (by decide)] at hk; omega⟩, fun m hm => by rw [e0 4 (by decide) (by decide)] at hm; omega, fun e he => by rw [e0 5 (by decide) (by decide)] at he; omega, ?_, fun q hq => ?_⟩, ?_, by rw [e0 7 (by decide) (by decide)]; decide⟩
  · rcases f4 k with x | x
    · rw [x]; exact t1 k
    · exact x
  · intro i
    have := t4 i
    unfold zPc at *
    rw [rr _ (by omega) (by omega), rr _ (by omega) (by omega), rr _ (by omega) (by omega), rr _ (by omega) (by omega)]; exact this
  · intro q w hq hw
    obtain ⟨x, y⟩ := hzv q hq
    have hm : q / 12 * C + q % 12 < R * C := by
      have := Nat.mul_le_mul_right C (show q / 12 + 1 ≤ R by omega)
      rw [Nat.succ_mul] at this; omega
    have hv := f3 (q / 12) (q % 12) w x hm hw
    rw [hzP, hv]
    have hcs : w = 0 ∨ w = 1 ∨ w = 2 ∨ w = 3 := by omega
    rcases hcs with rfl | rfl | rfl | rfl
    · rw [show zN W q 0 = if 0 < q / 12 then 4 * ((q : Int) - 12) else -1 from rfl, show ynx C R (q / 12) (q % 12) 0 = if 0 < q / 12 then ((4 * ((q / 12 - 1) * C + q % 12) : Nat) : Int) else -1 from rfl]
      by_cases v : 0 < q / 12
      · rw [if_pos v, if_pos v]
        refine ⟨fun z => by omega, fun m hm' => ?_⟩
        have hm2 : m = 4 * (q - 12) := by omega
        unfold zE
        rw [hzP, hm2, show 4 * (q - 12) / 4 = q - 12 by omega, show 4 * (q - 12) % 4 = 0 by omega, show (q - 12) / 12 = q / 12 - 1 by omega, show (q - 12) % 12 = q % 12 by omega]; rfl
      · rw [if_neg v, if_neg v]; exact ⟨fun _ => rfl, fun m hm' => by omega⟩
    · rw [show zN W q 1 = if ((q % 12 + 1 : Nat) : Int) < W 0 0 then 4 * ((q : Int) + 1) + 1 else -1 from rfl, show ynx C R (q / 12) (q % 12) 1 = if q % 12 + 1 < C then ((4 * (q / 12 * C + q % 12 + 1) + 1 : Nat) : Int) else -1 from rfl, e00]
      by_cases v : q % 12 + 1 < C
      · rw [if_pos v, if_pos (by omega)]
        refine ⟨fun z => by omega, fun m hm' => ?_⟩
        have hm2 : m = 4 * (q + 1) + 1 := by omega
        unfold zE
        rw [hzP, hm2, show (4 * (q + 1) + 1) / 4 = q + 1 by omega, show (4 * (q + 1) + 1) % 4 = 1 by omega, show (q + 1) / 12 = q / 12 by omega, show (q + 1) % 12 = q % 12 + 1 by omega, Nat.add_assoc]
      · rw [if_neg v, if_neg (by omega)]; exact ⟨fun _ => rfl, fun m hm' => by omega⟩
    · rw [show zN W q 2 = if ((q / 12 + 1 : Nat) : Int) < W 0 1 then 4 * ((q : Int) + 12) + 2 else -1 from rfl, show ynx C R (q / 12) (q % 12) 2 = if q / 12 + 1 < R then ((4 * ((q / 12 + 1) * C + q % 12) + 2 : Nat) : Int) else -1 from rfl, e01]
      by_cases v : q / 12 + 1 < R
      · rw [if_pos v, if_pos (by omega)]
        refine ⟨fun z => by omega, fun m hm' => ?_⟩
        have hm2 : m = 4 * (q + 12) + 2 := by omega
        unfold zE
        rw [hzP, hm2, show (4 * (q + 12) + 2) / 4 = q + 12 by omega, show (4 * (q + 12) + 2) % 4 = 2 by omega, show (q + 12) / 12 = q / 12 + 1 by omega, show (q + 12) % 12 = q % 12 by omega]
      · rw [if_neg v, if_neg (by omega)]; exact ⟨fun _ => rfl, fun m hm' => by omega⟩
    · rw [show zN W q 3 = if 0 < q % 12 then 4 * ((q : Int) - 1) + 3 else -1 from rfl, show ynx C R (q / 12) (q % 12) 3 = if 0 < q % 12 then ((4 * (q / 12 * C + q % 12 - 1) + 3 : Nat) : Int) else -1 from rfl]
      by_cases v : 0 < q % 12
      · rw [if_pos v, if_pos v]
        refine ⟨fun z => by omega, fun m hm' => ?_⟩
        have hm2 : m = 4 * (q - 1) + 3 := by omega
        unfold zE
        rw [hzP, hm2, show (4 * (q - 1) + 3) / 4 = q - 1 by omega, show (4 * (q - 1) + 3) % 4 = 3 by omega, show (q - 1) / 12 = q / 12 by omega, show (q - 1) % 12 = q % 12 - 1 by omega]
        omega
      · rw [if_neg v, if_neg v]; exact ⟨fun _ => rfl, fun m hm' => by omega⟩
  · intro q hq
    rw [er 1 q (by decide), rr _ (by omega) (by omega)]
    exact ⟨fun _ => h2 _ (zlt q hq), fun z => absurd rfl z⟩
  · intro q hq
    rw [er 1 q (by decide)]
    exact ⟨fun z => absurd z (by decide), fun z => absurd z (by decide), fun z => by omega⟩
  · unfold zT59 at *; rw [rr _ (by omega) (by omega)]; exact w9
  · rw [rr _ (by omega) (by omega), h2 _ (zlt q hq), e0 6 (by decide) (by decide)]; decide
  · rw [rr 4 (by omega) (by omega), rr 5 (by omega) (by omega), rr 6 (by omega) (by omega), rr 7 (by omega) (by omega)]
    refine ⟨?_, fun k hk => by rw [e0 7 (by decide) (by decide)] at hk; omega⟩
    rw [e0 7 (by decide) (by decide)]; exact gq.1
theorem s_R_readSizeO (hT : ∀ k, 0 ≤ T k ∧ T k < 256) (hn : n ≤ 1600) (hu : zisT u) (h : yRn σ T n u yRq yW0 0) (h2 : ∀ k, k < 144 → σ (u + 2) k = -1) (hX : ∀ σ', yOc σ' T n u yRq (fun _ _ => True) yid (ySize T n yW0 0) → yfr u σ σ' → X none σ') : MS G zm_R_readSize 3 [zr G 4] σ X := by
  have hh := hu.h
  have hu32 : 32 ≤ u := hh.1
  have hR : ySize T n yW0 0 = _ := ySize_e
  have T3 : ∀ (s : zPH) (z9 z21 k pl : Int), ySize T n yW0 0 = .inr (k, pl) → yRf s T n u k pl → (∀ q, q ≠ 4 → s q = σ q) → MS G zm_R_advance 0 [zr G 4] s (fun v σ26 => v = none ∧ (zI (σ26 4 0)) ∧ ((σ26 4 0) ≠ 0 → X none σ26) ∧ ((σ26 4 0) = 0 → σ26 4 4 = ((u : Nat) : Int) ∧ MS G zm_T_resize 0 [zr G u, iZ z9, iZ z21] σ26 (fun v σ42 => v = none ∧ X none σ42))) := fun s z9 z21 k pl eR hF f => by
    have e10 := hF.2.1
    have e11 := hF.2.2.2
    exact s_R_advance' hF ⟨rfl, by omega, fun _ => hX s (Or.inr ⟨k, pl, eR, hF⟩) (fun q a b => f q (by omega)), fun y => by omega⟩
  have T2 : ∀ (s : zPH) (z9 k pl : Int), ySize T n yW0 0 = .inr (k, pl) → yRf s T n u k pl → (∀ q, q ≠ 4 → s q = σ q) → MS G zm_R_advance 0 [zr G 4] s (fun v σ14 => v = none ∧ MS G zm_R_readNumber 2 [zr G 4, iZ 2, iZ 12] σ14 (fun v σ21 => ∃ z21 : Int, v = some (iZ z21) ∧ MS G zm_R_advance 0 [zr G 4] σ21 (fun v σ26 => v = none ∧ (zI (σ26 4 0)) ∧ ((σ26 4 0) ≠ 0 → X none σ26) ∧ ((σ26 4 0) = 0 → σ26 4 4 = ((u : Nat) : Int) ∧ MS G zm_T_resize 0 [zr G u, iZ z9, iZ z21] σ26 (fun v σ42 => v = none ∧ X none σ42))))) := fun s z9 k pl eR hF f =>
    s_R_advance' hF ⟨rfl, s_R_readNumber' hT hn ⟨by decide, by decide⟩ hF (fun x hx => ⟨x, rfl, T3 s z9 x k pl eR hF f⟩)⟩
  have hp0 : (0 : Nat) ≤ n := Nat.zero_le _
  have a1 := (ztE_s (T := T) hp0).2.1
  refine k_R_readSize hu (k_R_expect (s_R_isWord hT hn h (by decide) (fun q => Or.inr ⟨rfl, ?_⟩) (fun q => Or.inl ⟨rfl, ?_⟩)))
  rotate_left
  · rw [if_pos q] at hR
    obtain ⟨a, c, ha, hlt, hk, ht, h16, e4, hp, i1, i2⟩ := h.1.tk hT hn
    have hz := h.2.2.1
    rw [ht] at hz
    rw [hz] at e4
    refine k_R_refuseToken ⟨by omega, ?_⟩
    rw [ht, e4.2.2.2]
    exact s_R_refuse hu32 h.1 h.2.1.1 (by decide) (fun s1 F1 f1 r1 => ⟨rfl, rfl, rfl, s_R_readNumber' hT hn ⟨by decide, by decide⟩ F1 (fun x hx => ⟨x, rfl, T2 s1 x 1 _ hR F1 r1⟩)⟩)
  rw [if_neg (fun z => z q)] at hR
  refine s_R_advance (hT := hT) hn hu32 h (by have := q.1; omega) (fun s1 h1 f1 r1 => ⟨rfl, rfl, ?_⟩)
  refine s_R_readNumber hT hn hu32 ⟨by decide, by decide⟩ h1 (fun q0 q1 q2 => ⟨_, rfl, ?_⟩) (fun q0 q1 s2 x hx F2 r2 => ⟨x, rfl, T2 s2 x 2 _ ?_ F2 (fun q a => by rw [r2 q a]; exact r1 q a)⟩) (fun q0 s2 x hx F2 r2 => ⟨x, rfl, T2 s2 x 1 _ ?_ F2 (fun q a => by rw [r2 q a]; exact r1 q a)⟩)
  rotate_left
  · rw [hR]; unfold yNum; rw [if_neg (by omega), if_pos q1]
  · rw [hR]; unfold yNum; rw [if_pos q0]; rfl
  have hR2 : ySize T n yW0 0 = yNum T n 2 12 (fun r W p => .inl (zupd (zupd W 0 0 (ztV T n (ztE T n 0))) 0 1 r, p)) yW0 (ztE T n (ztE T n 0)) := by
    rw [hR]; conv => lhs; unfold yNum
    rw [if_neg (by omega), if_neg (by omega)]; rfl
  have a2 := (ztE_s (T := T) a1).2.1
  refine s_R_advance (hT := hT) hn hu32 h1 (by omega) (fun s2 h2' f2 r2 => ⟨rfl, ?_⟩)
  have R2 : ∀ q, q ≠ 4 → s2 q = σ q := fun q a => by rw [r2 q a]; exact r1 q a
  refine s_R_readNumber hT hn hu32 ⟨by decide, by decide⟩ h2' (fun q3 q4 q5 => ⟨_, rfl, ?_⟩) (fun q3 q4 s3 x hx F3 r3 => ⟨x, rfl, T3 s3 _ x 2 _ ?_ F3 (fun q a => by rw [r3 q a]; exact R2 q a)⟩) (fun q3 s3 x hx F3 r3 => ⟨x, rfl, T3 s3 _ x 1 _ ?_ F3 (fun q a => by rw [r3 q a]; exact R2 q a)⟩)
  rotate_left
  · rw [hR2]; unfold yNum; rw [if_neg (by omega), if_pos q4]
  · rw [hR2]; unfold yNum; rw [if_pos q3]; rfl
  have hR3 : ySize T n yW0 0 = .inl (zupd (zupd yW0 0 0 (ztV T n (ztE T n 0))) 0 1 (ztV T n (ztE T n (ztE T n 0))), ztE T n (ztE T n (ztE T n 0))) := by
    rw [hR2]; unfold yNum; rw [if_neg (by omega), if_neg (by omega)]
  refine s_R_advance (hT := hT) hn hu32 h2' (by omega) (fun s3 h3 f3 r3 => ⟨rfl, ?_⟩)
  have h300 := h3.2.1.1
  obtain ⟨C, hC⟩ : ∃ C : Nat, ztV T n (ztE T n 0) = (C : Int) := ⟨(ztV T n (ztE T n 0)).toNat, by omega⟩
  obtain ⟨R, hRr⟩ : ∃ R : Nat, ztV T n (ztE T n (ztE T n 0)) = (R : Int) := ⟨(ztV T n (ztE T n (ztE T n 0))).toNat, by omega⟩
  rw [hC, hRr] at hR3
  refine ⟨by omega, fun y => absurd h300 y, fun _ => ⟨h3.1.2.1, ?_⟩⟩
  rw [hC, hRr]
  refine s_T_resize hu (by omega) (by omega) (fun s4 d => ⟨rfl, hX s4 (Or.inl ⟨_, _, hR3.symm, trivial, yRn_size hu h3 (fun k hk => by rw [r3 _ (by omega), R2 _ (by omega)]; exact h2 k hk) (by omega) (by omega) d⟩) (fun q a b => by rw [d.1 q (by omega) (by omega), r3 q (by omega)]; exact R2 q (by omega))⟩)
end RY
