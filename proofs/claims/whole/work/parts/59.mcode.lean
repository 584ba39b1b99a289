/-- the code so far, in the model's bank i -/
def zmc (σ W : zPH) (i : Nat) : Prop := σ 58 34 = W 0 7 ∧ 0 ≤ W 0 7 ∧ ∀ k : Nat, (k : Int) < W 0 7 → σ 75 (1600 * i + k) = W 9 k ∧ (W 9 k = 1 → σ 76 (1600 * i + k) = W 10 k ∧ zWd (W 13 k) (σ 78 k) ∧ σ 79 k = W 14 k)
/-- only the code has changed -/
def zfo (i : Nat) (σ σ' : zPH) : Prop := ∀ q, (q = 75 ∨ q = 76 ∨ q = 77) → ∀ k, (k < 1600 * i ∨ 1600 * i + 1600 ≤ k) → σ' q k = σ q k
def zfc (i : Nat) (σ σ' : zPH) : Prop := (∀ q, q ≠ 58 → q ≠ 75 → q ≠ 76 → q ≠ 77 → σ' q = σ q) ∧ (∀ k, k ≠ 34 → σ' 58 k = σ 58 k) ∧ zfo i σ σ'
theorem yadd_v (W : zPH) (s c : Int) : yadd W s c 0 7 = W 0 7 + 1 ∧ (∀ k, k ≠ 7 → yadd W s c 0 k = W 0 k) ∧ (∀ k, yadd W s c 9 k = if k = (W 0 7).toNat then s else W 9 k) ∧ (∀ k, yadd W s c 10 k = if k = (W 0 7).toNat then c else W 10 k) ∧ (∀ k, yadd W s c 11 k = if k = (W 0 7).toNat then 0 else W 11 k) ∧ ∀ r, r ≠ 0 → r ≠ 9 → r ≠ 10 → r ≠ 11 → yadd W s c r = W r := by
  unfold yadd
  refine ⟨by rw [zupd_same], fun k hk => by rw [zupd_nk hk, zupd_row (by decide), zupd_row (by decide), zupd_row (by decide)], fun k => ?_, fun k => ?_, fun k => ?_, fun r h0 h9 h10 h11 => by rw [zupd_row h0, zupd_row h11, zupd_row h10, zupd_row h9]⟩
  · rw [zupd_row (by decide), zupd_row (by decide), zupd_row (by decide)]
    split
    · rename_i q; rw [q, zupd_same]
    · rename_i q; rw [zupd_nk q]
  · rw [zupd_row (by decide), zupd_row (by decide)]
    split
    · rename_i q; rw [q, zupd_same]
    · rename_i q; rw [zupd_nk q, zupd_row (by decide)]
  · rw [zupd_row (by decide)]
    split
    · rename_i q; rw [q, zupd_same]
    · rename_i q; rw [zupd_nk q, zupd_row (by decide), zupd_row (by decide)]
section MC
variable {G : zG} {σ W : zPH} {X : zX}
theorem s_M_add {s c : Int} {i : Nat} (hc : zmc σ W i) (hi : σ 58 35 = (i : Int)) (hi1 : i ≤ 1) (hl : W 0 7 < 1600) (hs : s = 1 → zWd (W 13 (W 0 7).toNat) (σ 78 (W 0 7).toNat) ∧ σ 79 (W 0 7).toNat = W 14 (W 0 7).toNat) (hX : ∀ σ', zmc σ' (yadd W s c) i → zfc i σ σ' → X none σ') : MS G zm_M_add 0 [zr G 58, iZ s, iZ c] σ X := by
  obtain ⟨c1, c2, c3⟩ := hc
  have hx : (1600 * (i : Int) + W 0 7).toNat = 1600 * i + (W 0 7).toNat := by omega
  refine k_M_add ?_
  unfold w_M_add
  rw [hi, c1]
  refine ⟨by omega, ?_⟩
  rintro σ1 e1
  rw [hx] at e1
  have k1 : σ1 58 = σ 58 := by rw [e1, zupd_row (by decide)]
  rw [k1, hi, c1]
  refine ⟨by omega, ?_⟩
  rintro σ2 e2
  rw [hx] at e2
  have k2 : σ2 58 = σ 58 := by rw [e2, zupd_row (by decide), k1]
  rw [k2, hi, c1]
  refine ⟨by omega, ?_⟩
  rintro σ3 e3
  have k3 : σ3 58 = σ 58 := by rw [e3, zupd_row (by decide), k2]
  rw [k3, c1]
  rintro σ4 e4
  obtain ⟨v1, v2, v3, v4, v5, v6⟩ := yadd_v W s c
  refine hX σ4 ⟨by rw [e4, zupd_same, v1], by rw [v1]; omega, fun k hk => ?_⟩ ⟨fun q a b d f => by rw [e4, zupd_row a, e3, zupd_row f, e2, zupd_row d, e1, zupd_row b], fun k hk => by rw [e4, zupd_nk hk, k3], fun q hq k hk => by
    rcases hq with rfl | rfl | rfl
    · rw [e4, zupd_row (by decide), e3, zupd_row (by decide), e2, zupd_row (by decide), e1, zupd_nk (by omega)]
    · rw [e4, zupd_row (by decide), e3, zupd_row (by decide), e2, zupd_nk (by omega), e1, zupd_row (by decide)]
    · rw [e4, zupd_row (by decide), e3, zupd_nk (by omega), e2, zupd_row (by decide), e1, zupd_row (by decide)]⟩
  rw [v1] at hk
  rw [v3, v4, v6 13 (by decide) (by decide) (by decide) (by decide), v6 14 (by decide) (by decide) (by decide) (by decide)]
  have r75 : σ4 75 (1600 * i + k) = if k = (W 0 7).toNat then s else σ 75 (1600 * i + k) := by
    rw [e4, zupd_row (by decide), e3, zupd_row (by decide), e2, zupd_row (by decide), e1]
    split
    · rename_i q; rw [q, zupd_same]
    · rename_i q; rw [zupd_nk (by omega)]
  have r76 : σ4 76 (1600 * i + k) = if k = (W 0 7).toNat then c else σ 76 (1600 * i + k) := by
    rw [e4, zupd_row (by decide), e3, zupd_row (by decide), e2]
    split
    · rename_i q; rw [q, zupd_same]
    · rename_i q; rw [zupd_nk (by omega), e1, zupd_row (by decide)]
  have rr : ∀ q, q = 78 ∨ q = 79 → σ4 q = σ q := fun q hq => by rw [e4, zupd_row (by omega), e3, zupd_row (by omega), e2, zupd_row (by omega), e1, zupd_row (by omega)]
  rw [r75, r76, rr 78 (by omega), rr 79 (by omega)]
  by_cases q : k = (W 0 7).toNat
  · rw [if_pos q, if_pos q, if_pos q, if_pos q]
    refine ⟨rfl, fun z => ⟨rfl, ?_⟩⟩
    rw [q]; exact hs z
  · rw [if_neg q, if_neg q, if_neg q, if_neg q]
    exact c3 k (by omega)
end MC
