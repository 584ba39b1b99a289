/-- the board that is read is sound -/
theorem yOk_V {W W' : zPH} (h : yOk W) (hy : yEyes W (W 0 7).toNat = .inl W') (hc : 3 * W 0 7 ≤ 1600) : zVd W' ∧ zVt W' ∧ (∀ r, r ≠ 11 → W' r = W r) ∧ (∀ k : Nat, (k : Int) < W 0 7 → W 9 k = 1 → 0 ≤ W' 11 k ∧ W' 11 k < W 0 5) := by
  obtain ⟨a, b⟩ := yEyes_s _ _ hy
  obtain ⟨hA, hT, hl, hC⟩ := h
  have h5 := hA.2.1.2.1.2.2.2.2.2.2.1
  have e11 : ∀ k : Nat, (k : Int) < W 0 7 → W 9 k = 1 → 0 ≤ W' 11 k ∧ W' 11 k < W 0 5 := fun k hk h1 => by
    obtain ⟨x, y⟩ := b k (by omega) h1
    have := yeN_r W (W 13 k) (W 0 5).toNat
    omega
  have hz : ∀ f m, zdp W' f m = zdp W f m := fun f m => zdp_c (fun _ _ => by rw [a 9 (by decide)])
  refine ⟨?_, ?_, a, e11⟩
  · have := hA.1
    unfold zVd zva at *
    rw [a 0 (by decide), a 1 (by decide), a 2 (by decide), a 3 (by decide), a 4 (by decide), a 5 (by decide), a 6 (by decide), a 12 (by decide)]
    exact this
  · intro m hm
    rw [a 0 (by decide)] at hm
    obtain ⟨⟨t1, t2, t3⟩, t4, t5, t6⟩ := hT m hm
    rw [a 7 (by decide), a 8 (by decide)]
    refine ⟨by omega, fun j hj => ?_, ?_⟩
    · obtain ⟨u1, u2, u3, u4, u5⟩ := t5 j hj
      rw [a 9 (by decide), a 10 (by decide), a 0 (by decide), hz, hz]
      exact ⟨u1, fun z => ⟨(u2 z).1, e11 _ (by omega) z⟩, u3, u4, u5⟩
    · rw [hz]; exact t6
theorem yRes_D {V D V' D' : zPH} {x : Int} (h : zBD V D) (hr : yRes V D V' D' x) : zBD V' D' ∧ zI x := by
  obtain ⟨hV, hT, d0, d1, d2, d3, d4, d6, dw, dp, dt⟩ := h
  have hn : (D 0 3).toNat ≤ 1600 := by omega
  obtain ⟨s1, s2⟩ := yAll_s (T := fun k => D 4 k) hn
  unfold yRes at hr
  cases hA : yAll (fun k => D 4 k) (D 0 3).toNat with
  | inl y =>
    obtain ⟨W, k⟩ := y
    rw [hA] at hr
    obtain ⟨h1, h2, h3⟩ := hr
    obtain ⟨W0, o1, o2, o3, o4, o5⟩ := s2 W k hA
    obtain ⟨v1, v2, -⟩ := yOk_V o1 o2 o3
    subst h2 h3
    have p3 : (0 : Int) < 2 ^ (V' 0 3).toNat := Int.pow_pos (by decide)
    have p4 : (0 : Int) < 2 ^ (V' 0 4).toNat := Int.pow_pos (by decide)
    exact ⟨⟨v1, v2, ⟨Int.le_refl _, p3⟩, ⟨Int.le_refl _, p4⟩, ⟨(by decide : (0 : Int) ≤ 0), (by decide : (0 : Int) ≤ 16)⟩, ⟨(by decide : (0 : Int) ≤ 0), (by decide : (0 : Int) ≤ 1600)⟩, ⟨(by decide : zI 0), (by decide : zI (-1))⟩, d6, fun e => ⟨(by decide : (0 : Int) ≤ 0), (by decide : (0 : Int) ≤ 2)⟩, fun j hj => by
      have : (j : Int) < 0 := hj
      omega, dt⟩, by omega⟩
  | inr e =>
    obtain ⟨e, pl⟩ := e
    rw [hA] at hr
    obtain ⟨h1, h2, h3⟩ := hr
    obtain ⟨u1, u2⟩ := s1 _ hA
    have u1' : 1 ≤ e ∧ e ≤ 6 := u1
    have u2' : 0 ≤ pl ∧ pl ≤ 2000 := u2
    subst h2 h3
    exact ⟨⟨hV, hT, d0, d1, d2, ⟨(by decide : (0 : Int) ≤ 0), (by decide : (0 : Int) ≤ 1600)⟩, ⟨(by omega : zI e), (by omega : zI pl)⟩, d6, dw, dp, dt⟩, by omega⟩
theorem zmBs_bank {σ s V : zPH} {i : Nat} (hV : zVd V) (hT : zVt V) (h : zmBs σ V) (hi : (i : Int) = 1 - σ 58 13) (r0 : s 58 13 = σ 58 13) (r : ∀ q, 60 ≤ q → q ≤ 77 → ∀ k, (k < zbk q * i ∨ zbk q * i + zbk q ≤ k) → s q k = σ q k) : zmBs s V := by
  obtain ⟨hb, h1, h2, h3, h4, h5, h6⟩ := h
  have hm := hV.2.1
  obtain ⟨b, hbb⟩ : ∃ b : Nat, σ 58 13 = (b : Int) := ⟨(σ 58 13).toNat, by omega⟩
  have hbt : (σ 58 13).toNat = b := by omega
  rw [hbt] at h1 h2 h3 h4 h6
  have z1 : ∀ q, 60 ≤ q → q ≤ 66 → zbk q = 1 := fun q a c => by unfold zbk; rw [if_pos (by omega)]
  have z144 : ∀ q, 67 ≤ q → q ≤ 70 → zbk q = 144 := fun q a c => by unfold zbk; rw [if_neg (by omega), if_pos (by omega)]
  have z1600 : ∀ q, 75 ≤ q → q ≤ 77 → zbk q = 1600 := fun q a c => by unfold zbk; rw [if_neg (by omega), if_neg (by omega), if_neg (by omega), if_neg (by omega)]
  have e1 : ∀ q, 60 ≤ q → q ≤ 66 → s q b = σ q b := fun q a c => r q a (by omega) b (by rw [z1 q a c]; omega)
  have e2 : ∀ q, 67 ≤ q → q ≤ 70 → ∀ k, k < 144 → s q (144 * b + k) = σ q (144 * b + k) := fun q a c k hk => r q (by omega) (by omega) _ (by rw [z144 q a c]; omega)
  have e3 : ∀ k, k < 8 → s 72 (8 * b + k) = σ 72 (8 * b + k) := fun k hk => r 72 (by omega) (by omega) _ (by rw [show zbk 72 = 8 from rfl]; omega)
  have e4 : ∀ q, q = 73 ∨ q = 74 → ∀ k, k < 6 → s q (6 * b + k) = σ q (6 * b + k) := fun q a k hk => r q (by omega) (by omega) _ (by rcases a with rfl | rfl <;> (rw [show zbk _ = 6 from rfl]; omega))
  have e5 : ∀ q, 75 ≤ q → q ≤ 77 → ∀ k, k < 1600 → s q (1600 * b + k) = σ q (1600 * b + k) := fun q a c k hk => r q (by omega) (by omega) _ (by rw [z1600 q a c]; omega)
  refine ⟨by rw [r0]; exact hb, ?_, ?_, ?_, ?_, h5, ?_⟩
  · rw [r0, hbt]; unfold zmB at *
    rw [e1 60 (by decide) (by decide), e1 61 (by decide) (by decide), e1 62 (by decide) (by decide), e1 63 (by decide) (by decide), e1 64 (by decide) (by decide), e1 65 (by decide) (by decide), e1 66 (by decide) (by decide)]; exact h1
  · intro q hq
    rw [r0, hbt, e2 67 (by decide) (by decide) q hq]; exact h2 q hq
  · intro q hq
    have hlt := (zva.lt hV hq).1
    rw [r0, hbt, e2 68 (by decide) (by decide) q hlt, e2 69 (by decide) (by decide) q hlt, e2 70 (by decide) (by decide) q hlt]; exact h3 q hq
  · intro e he
    rw [r0, hbt, e3 e (by omega)]; exact h4 e he
  · rw [r0, hbt]
    intro m hm'
    obtain ⟨t1, t2, t3⟩ := h6 m hm'
    rw [e4 73 (by decide) m (by omega), e4 74 (by decide) m (by omega)]
    refine ⟨t1, t2, fun k k1 k2 => ?_⟩
    have := (hT m hm').1
    rw [e5 75 (by decide) (by decide) k (by omega), e5 76 (by decide) (by decide) k (by omega), e5 77 (by decide) (by decide) k (by omega)]
    exact t3 k k1 k2
theorem zmBs_new {s W W' : zPH} {i : Nat} (hi : i ≤ 1) (h13 : s 58 13 = (i : Int)) (ho : yOk W) (hy : yEyes W (W 0 7).toNat = .inl W') (hc : 3 * W 0 7 ≤ 1600) (hw : zbw s W i 8) (hm : zmc s W i) (h77 : ∀ k : Nat, (k : Int) < W 0 7 → W 9 k = 1 → s 77 (1600 * i + k) = W' 11 k) : zmBs s W' ∧ zMN s W' := by
  obtain ⟨v1, v2, a, e11⟩ := yOk_V ho hy hc
  obtain ⟨⟨hVd, hWm, hO, h23, ⟨n5, n6, n12⟩, hN⟩, hT, hl, hC⟩ := ho
  obtain ⟨⟨w0, w1, w2, w3, w4, w5, w6⟩, wc, we, wt⟩ := hw
  rw [if_neg (by decide)] at w3 w4 w5 w6
  have hit : (s 58 13).toNat = i := by omega
  have hva : ∀ q, zva W' q ↔ zva W q := fun q => by unfold zva; rw [a 0 (by decide)]
  refine ⟨⟨by omega, ?_, ?_, ?_, ?_, ?_, ?_⟩, ?_⟩
  · rw [hit]; unfold zmB; rw [a 0 (by decide)]
    exact ⟨w0, w1, w2, by omega, by omega, by omega, by omega⟩
  · intro q hq
    rw [hit, a 1 (by decide), (wc q hq).1]
    refine ⟨fun _ => rfl, fun z => ?_⟩
    rw [hO q (fun y => z ((hva q).mpr y))]; decide
  · intro q hq
    have hlt := (zva.lt v1 hq).1
    have hq' := (hva q).mp hq
    obtain ⟨c1, c2⟩ := wc q hlt
    obtain ⟨o0, o1, o2, o3, o4, o5, o6, o7⟩ := hVd.2.2.1 q hq'
    rw [hit, a 1 (by decide), a 2 (by decide), a 3 (by decide), a 4 (by decide)]
    refine ⟨fun z0 z5 z6 z7 => ⟨fun z8 => (c2 z0).2.1 z8, fun z4 => ?_⟩, fun z1 => (c2 (by omega)).2.2, fun z0 _ _ _ => (c2 z0).1⟩
    have hcs : W 1 q = 1 ∨ (W 1 q = 2 ∨ W 1 q = 3) ∨ (W 1 q = 8 ∨ W 1 q = 9) := by omega
    rcases hcs with y | y | y
    · exact (o1 y).1.1
    · exact h23 q y
    · exact (o6 y).1.1
  · intro e he
    rw [a 0 (by decide)] at he
    rw [hit, a 5 (by decide), (we e he).2]
    rcases hVd.2.2.2.1 e he with y | ⟨y1, y2, -⟩
    · exact absurd y (n5 e he)
    · have := (zva.lt hVd y2).1
      exact ⟨by omega, rfl⟩
  · intro m hm'
    rw [a 0 (by decide)] at hm'
    rw [a 6 (by decide)]; exact n6 m hm'
  · rw [hit]
    intro m hm'
    rw [a 0 (by decide)] at hm'
    rw [a 7 (by decide), a 8 (by decide), a 9 (by decide), a 10 (by decide)]
    refine ⟨(wt m hm').1, (wt m hm').2, fun k k1 k2 => ?_⟩
    have := (hT m hm').1
    have hk : (k : Int) < W 0 7 := by omega
    exact ⟨(hm.2.2 k hk).1, fun z => ⟨((hm.2.2 k hk).2 z).1, h77 k hk z⟩⟩
  · intro e he
    rw [a 0 (by decide)] at he
    rw [hit, a 20 (by decide)]
    exact ⟨(we e he).1, hN e he⟩
