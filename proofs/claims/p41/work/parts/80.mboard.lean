/-- the board that is read is sound -/
theorem yOk_V {W W' : zPH} (h : yOk W) (hy : yEyes W (W 0 7).toNat = .inl W') (hc : 3 * W 0 7 ≤ 1600) : zVd W' ∧ zVt W' ∧ (∀ r, r ≠ 11 → W' r = W r) ∧ (∀ k : Nat, (k : Int) < W 0 7 → W 9 k = 1 → 0 ≤ W' 11 k ∧ W' 11 k < W 0 5) := by
  obtain ⟨a, b⟩ := yEyes_s _ _ hy
  obtain ⟨hA, hT, hl, hC⟩ := h
  have h5 := hA.2.1.2.1.2.2.2.2.2.2.1
  have e11 : ∀ k : Nat, (k : Int) < W 0 7 → W 9 k = 1 → 0 ≤ W' 11 k ∧ W' 11 k < W 0 5 := fun k hk h1 => by
    obtain ⟨x, y⟩ := b k (by omega) h1
    have := yeN_r W (W 13 k) (W 0 5).toNat
    omega
  have hz : ∀ f m, zdp W' f m = zdp W f m := fun f m => zdp_c (fun _ _ => by rw [a 9 (by decide)])
  refine ⟨?_, ?_, a, e11⟩
  · have := hA.1
    unfold zVd zva at *
    rw [a 0 (by decide), a 1 (by decide), a 2 (by decide), a 3 (by decide), a 4 (by decide), a 5 (by decide), a 6 (by decide), a 12 (by decide)]
    exact this
  · intro m hm
    rw [a 0 (by decide)] at hm
    obtain ⟨⟨t1, t2, t3⟩, t4, t5, t6⟩ := hT m hm
    rw [a 7 (by decide), a 8 (by decide)]
    refine ⟨by omega, fun j hj => ?_, ?_⟩
    · obtain ⟨u1, u2, u3, u4, u5⟩ := t5 j hj
      rw [a 9 (by decide), a 10 (by decide), a 0 (by decide), hz, hz]
      exact ⟨u1, fun z => ⟨(u2 z).1, e11 _ (by omega) z⟩, u3, u4, u5⟩
    · rw [hz]; exact t6
theorem yRes_D {V D V' D' : zPH} {x : Int} (h : zBD V D) (hr : yRes V D V' D' x) : zBD V' D' ∧ zI x := by
  obtain ⟨hV, hT, d0, d1, d2, d3, d4, d6, dw, dp, dt⟩ := h
  have hn : (D 0 3).toNat ≤ 1600 := by omega
  obtain ⟨s1, s2⟩ := yAll_s (T := fun k => D 4 k) hn
  unfold yRes at hr
  cases hA : yAll (fun k => D 4 k) (D 0 3).toNat with
  | inl y =>
    obtain ⟨W, k⟩ := y
    rw [hA] at hr
    obtain ⟨h1, h2, h3⟩ := hr
    obtain ⟨W0, o1, o2, o3, o4, o5⟩ := s2 W k hA
    obtain ⟨v1, v2, -⟩ := yOk_V o1 o2 o3
    subst h2 h3
    have p3 : (0 : Int) < 2 ^ (V' 0 3).toNat := Int.pow_pos (by decide)
    have p4 : (0 : Int) < 2 ^ (V' 0 4).toNat := Int.pow_pos (by decide)
    exact ⟨⟨v1, v2, ⟨Int.le_refl _, p3⟩, ⟨Int.le_refl _, p4⟩, ⟨(by decide : (0 : Int) ≤ 0), (by decide : (0 : Int) ≤ 16)⟩, ⟨(by decide : (0 : Int) ≤ 0), (by decide : (0 : Int) ≤ 1600)⟩, ⟨(by decide : zI 0), (by decide : zI (-1))⟩, d6, fun e => ⟨(by decide : (0 : Int) ≤ 0), (by decide : (0 : Int) ≤ 2)⟩, fun j hj => by
      have : (j : Int) < 0 := hj
      omega, dt⟩, by omega⟩
  | inr e =>
    obtain ⟨e, pl⟩ := e
    rw [hA] at hr
    obtain ⟨h1, h2, h3⟩ := hr
    obtain ⟨u1, u2⟩ := s1 _ hA
    have u1' : 1 ≤ e ∧ e ≤ 6 := u1
    have u2' : 0 ≤ pl ∧ pl ≤ 2000 := u2
    subst h2 h3
    exact ⟨⟨hV, hT, d0, d1, d2, ⟨(by decide : (0 : Int) ≤ 0), (by decide : (0 : Int) ≤ 1600)⟩, ⟨(by omega : zI e), (by omega : zI pl)⟩, d6, dw, dp, dt⟩, by omega⟩
