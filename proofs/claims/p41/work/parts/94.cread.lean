/-- where a node's light goes, by row and column -/
def ynx (C R y x w : Nat) : Int := if w = 0 then (if 0 < y then ((4 * ((y - 1) * C + x) : Nat) : Int) else -1) else if w = 1 then (if x + 1 < C then ((4 * (y * C + x + 1) + 1 : Nat) : Int) else -1) else if w = 2 then (if y + 1 < R then ((4 * ((y + 1) * C + x) + 2 : Nat) : Int) else -1) else (if 0 < x then ((4 * (y * C + x - 1) + 3 : Nat) : Int) else -1)
/-- m cells are told -/
def yDo (σ s : zPH) (u C R m : Nat) : Prop := (∀ q, q ≠ u → q ≠ u + 1 → s q = σ q) ∧ (s u 0 = (C : Int) ∧ s u 1 = (R : Int)) ∧ (∀ j, j ≠ 0 → j ≠ 1 → s u j = σ u j) ∧ (∀ y x w : Nat, x < C → y * C + x < m → w < 4 → s (u + 1) (4 * (y * C + x) + w) = ynx C R y x w) ∧ ∀ k, s (u + 1) k = σ (u + 1) k ∨ (-1 ≤ s (u + 1) k ∧ s (u + 1) k < 576)
theorem ynx_r {C R y x : Nat} (hC : 2 ≤ C ∧ C ≤ 12) (hR : 2 ≤ R ∧ R ≤ 12) (hy : y < R) (hx : x < C) (w : Nat) : -1 ≤ ynx C R y x w ∧ ynx C R y x w < 576 := by
  have a0 : (y - 1) * C ≤ 10 * 12 := Nat.mul_le_mul (by omega) (by omega)
  have a1 : y * C ≤ 11 * 12 := Nat.mul_le_mul (by omega) (by omega)
  unfold ynx
  split
  · split <;> omega
  · split
    · split <;> omega
    · split
      · split
        · have a2 : (y + 1) * C ≤ 11 * 12 := Nat.mul_le_mul (by omega) (by omega)
          omega
        · omega
      · split <;> omega
section RZ
variable {G : zG} {σ : zPH} {X : zX} {T : Nat → Int} {n u : Nat}
theorem yW0_w : ∀ q, ¬ zva yW0 q := fun q h => by
  have : ((q % 12 : Nat) : Int) < 0 := h.1
  omega
/-- nothing is read yet -/
theorem s_T_clear (hu : zisT u) (h8s : zsh G.2.2.2 (u + 8) = .inr (0, 4)) (h2s : zsh G.2.2.2 (u + 2) = .inr (0, 144)) (hz : zTs σ u) (hX : ∀ σ', zTs σ' u → σ' u 14 = 0 → (∀ k, k < 144 → σ' (u + 2) k = -1) → yRw σ' u yW0 → (∀ q, q ≠ u → q ≠ u + 2 → q ≠ u + 8 → σ' q = σ q) → X none σ') : MS G zm_T_clear 1 [zr G u] σ X := by
  have hh := hu.h
  refine k_T_clear hu ?_
  rintro σ1 e1 σ2 e2 σ3 e3 σ4 e4
  have r4 : ∀ q, q ≠ u → σ4 q = σ q := fun q a => by rw [e4, zupd_row a, e3, zupd_row a, e2, zupd_row a, e1, zupd_row a]
  refine s_JA_fill h8s (by decide) (by omega) (fun σ5 r5 z5 o5 => ⟨rfl, ?_⟩)
  refine s_JA_fill h2s (by decide) (by omega) (fun σ6 r6 z6 o6 => ⟨rfl, ?_⟩)
  have u6 : σ6 u = σ4 u := by rw [r6 u (by omega), r5 u (by omega)]
  have v0 : σ6 u 0 = 0 := by rw [u6, e4, zupd_nk (by decide), e3, zupd_nk (by decide), e2, zupd_nk (by decide), e1, zupd_same]
  have v1 : σ6 u 1 = 0 := by rw [u6, e4, zupd_nk (by decide), e3, zupd_nk (by decide), e2, zupd_same]
  have v4 : σ6 u 4 = 0 := by rw [u6, e4, zupd_nk (by decide), e3, zupd_same]
  have v14 : σ6 u 14 = 0 := by rw [u6, e4, zupd_same]
  have c8 : ∀ k, k < 4 → σ6 (u + 8) k = 0 := fun k hk => by rw [r6 _ (by omega)]; exact z5 k hk
  have rr : ∀ q, q ≠ u → q ≠ u + 2 → q ≠ u + 8 → σ6 q = σ q := fun q a b c => by rw [r6 q b, r5 q c, r4 q a]
  have c2 : ∀ k, σ6 (u + 2) k = if k < 144 then -1 else σ (u + 2) k := fun k => by
    split
    · exact z6 k (by assumption)
    · rw [o6 k (by omega), r5 _ (by omega), r4 _ (by omega)]
  obtain ⟨z1, z2, z3, z4, z5', z6', z7, z8, z9⟩ := hz
  refine hX σ6 ⟨by rw [rr _ (by omega) (by omega) (by omega)]; exact z1, fun k => ?_, by rw [rr _ (by omega) (by omega) (by omega)]; exact z3, ?_, by omega, by rw [rr _ (by omega) (by omega) (by omega)]; exact z6', fun g => ?_, by rw [c8 2 (by decide)]; decide, fun l hl => by rw [c8 0 (by decide)] at hl; omega⟩ v14 (fun k hk => by rw [c2, if_pos hk]) ⟨⟨v0, v1, c8 0 (by decide), c8 1 (by decide), c8 2 (by decide), c8 3 (by decide), v4⟩, fun q w hq => absurd hq (yW0_w q), fun q hq => absurd hq (yW0_w q), fun q hq => absurd hq (yW0_w q), ⟨v14, fun k hk => ?_⟩, fun m hm => ?_, fun e he => ?_, fun k hk => ?_, fun q hq => absurd hq (yW0_w q)⟩ rr
  · rw [c2]; split
    · decide
    · exact z2 k
  · intro i
    have := z4 i
    unfold zPc at *
    rw [rr _ (by omega) (by omega) (by omega), rr _ (by omega) (by omega) (by omega), rr _ (by omega) (by omega) (by omega), rr _ (by omega) (by omega) (by omega)]
    exact this
  · by_cases y : g < 4
    · rw [c8 g y]; decide
    · rw [r6 _ (by omega), o5 g (by omega), r4 _ (by omega)]; exact z7 g
  · have : (k : Int) < 0 := hk
    omega
  · have : (m : Int) < 0 := hm
    omega
  · have : (e : Int) < 0 := he
    omega
  · rw [c2, if_pos hk]; decide
/-- the table gets its size -/
theorem s_T_resize {C R : Nat} (hu : zisT u) (hC : 2 ≤ C ∧ C ≤ 12) (hR : 2 ≤ R ∧ R ≤ 12) (hX : ∀ σ', yDo σ σ' u C R (R * C) → X none σ') : MS G zm_T_resize 0 [zr G u, iZ (C : Int), iZ (R : Int)] σ X := by
  have hh := hu.h
  refine k_T_resize hu ?_
  rintro σ1 e1 σ2 e2
  have d0 : yDo σ σ2 u C R 0 := ⟨fun q a b => by rw [e2, zupd_row a, e1, zupd_row a], ⟨by rw [e2, zupd_nk (by decide), e1, zupd_same], by rw [e2, zupd_same]⟩, fun j a b => by rw [e2, zupd_nk b, e1, zupd_nk a], fun y x w _ h => by omega, fun k => Or.inl (by rw [e2, zupd_row (by omega), e1, zupd_row (by omega)])⟩
  refine zLP1_ind (fun x3 s => ∃ y : Nat, x3 = (y : Int) ∧ y ≤ R ∧ yDo σ s u C R (y * C)) (fun x3 _ => (100 - x3).toNat) ?_ ⟨0, rfl, by omega, by rw [Nat.zero_mul]; exact d0⟩
  rintro K12 x3 s ⟨y, rfl, hy, hd⟩ hK12
  have hs1 := hd.2.1.2
  refine ⟨by omega, fun z => ?_, fun z => ?_⟩
  · have : y = R := by omega
    subst this; exact hX s hd
  have hyR : y < R := by omega
  refine zLP2_ind (fun y3 x4 s => y3 = (y : Int) ∧ ∃ x : Nat, x4 = (x : Int) ∧ x ≤ C ∧ yDo σ s u C R (y * C + x)) (fun _ x4 _ => (100 - x4).toNat) ?_ ⟨rfl, 0, rfl, by omega, hd⟩
  rintro K23 y3 x4 s ⟨rfl, x, rfl, hx, hd⟩ hK23
  obtain ⟨f1, ⟨g0, g1⟩, f2, f3, f4⟩ := hd
  refine ⟨by omega, fun z => ?_, fun z => ?_⟩
  · have : x = C := by omega
    subst this
    exact hK12 _ _ ⟨y + 1, by omega, by omega, by rw [Nat.succ_mul]; exact ⟨f1, ⟨g0, g1⟩, f2, f3, f4⟩⟩ (by omega)
  have hxC : x < C := by omega
  rw [g0]
  rintro x5 e5
  have a1 : y * C ≤ 11 * 12 := Nat.mul_le_mul (by omega) (by omega)
  obtain ⟨M, hM⟩ : ∃ M, M = y * C + x := ⟨_, rfl⟩
  have h5 : x5 = ((4 * M : Nat) : Int) := by rw [e5, hM]; push_cast; omega
  have hM144 : M < 144 := by omega
  have hCy : (y : Int) * (C : Int) = ((y * C : Nat) : Int) := by push_cast; rfl
  have hrng := ynx_r hC hR hyR hxC
  have fin : ∀ s4 : zPH, (∀ q, q ≠ u + 1 → s4 q = s q) → (∀ k, s4 (u + 1) k = if 4 * M ≤ k ∧ k < 4 * M + 4 then ynx C R y x (k - 4 * M) else s (u + 1) k) → K23 (y : Int) ((x : Int) + 1) s4 := by
    intro s4 r4 v4
    refine hK23 _ _ _ ⟨rfl, x + 1, by omega, by omega, fun q a b => by rw [r4 q b]; exact f1 q a b, by rw [r4 u (by omega)]; exact ⟨g0, g1⟩, fun j a b => by rw [r4 u (by omega)]; exact f2 j a b, fun y' x' w hx' hm hw => ?_, fun k => ?_⟩ (by omega)
    · rw [v4]
      by_cases q : y' * C + x' = M
      · have hyy : y' = y ∧ x' = x := by
          rw [hM] at q
          have hlt : y' = y := by
            rcases Nat.lt_trichotomy y' y with h | h | h
            · have := Nat.mul_le_mul_right C (show y' + 1 ≤ y from h)
              rw [Nat.succ_mul] at this; omega
            · exact h
            · have := Nat.mul_le_mul_right C (show y + 1 ≤ y' from h)
              rw [Nat.succ_mul] at this; omega
          subst hlt
          exact ⟨rfl, by omega⟩
        obtain ⟨h1, h2⟩ := hyy
        subst h1 h2
        rw [if_pos (by omega), show 4 * (y' * C + x') + w - 4 * M = w by omega]
      · rw [if_neg (by omega)]
        exact f3 y' x' w hx' (by omega) hw
    · rw [v4]
      split
      · exact Or.inr (hrng _)
      · exact f4 k
  -- entry w is written
  have put : ∀ (w : Nat) (t t' : zPH) (v : Int), w < 4 → v = ynx C R y x w → (∀ q, q ≠ u + 1 → t q = s q) → (∀ k, t (u + 1) k = if 4 * M ≤ k ∧ k < 4 * M + w then ynx C R y x (k - 4 * M) else s (u + 1) k) → t' = zupd t (u + 1) (4 * M + w) v → (∀ q, q ≠ u + 1 → t' q = s q) ∧ ∀ k, t' (u + 1) k = if 4 * M ≤ k ∧ k < 4 * M + (w + 1) then ynx C R y x (k - 4 * M) else s (u + 1) k := by
    intro w t t' v hw hv r1 v1 e
    refine ⟨fun q a => by rw [e, zupd_row a, r1 q a], fun k => ?_⟩
    rw [e]
    by_cases q : k = 4 * M + w
    · rw [q, zupd_same, if_pos (by omega), show 4 * M + w - 4 * M = w by omega, hv]
    · rw [zupd_nk q, v1]
      by_cases q2 : 4 * M ≤ k ∧ k < 4 * M + w
      · rw [if_pos q2, if_pos (by omega)]
      · rw [if_neg q2, if_neg (by omega)]
  have b160 : ∀ (t : zPH) (v i5 : Int), i5 = x5 + 3 → v = ynx C R y x 3 → (∀ q, q ≠ u + 1 → t q = s q) → (∀ k, t (u + 1) k = if 4 * M ≤ k ∧ k < 4 * M + 3 then ynx C R y x (k - 4 * M) else s (u + 1) k) → b_T_resize_160 G u (C : Int) (R : Int) X K12 K23 (y : Int) (x : Int) v i5 t := by
    intro t v i5 hi hv r1 v1
    refine ⟨by omega, ?_⟩
    rintro t' et
    rw [show i5.toNat = 4 * M + 3 by omega] at et
    obtain ⟨a, b⟩ := put 3 t t' v (by decide) hv r1 v1 et
    exact fin t' a b
  have b136 : ∀ (t : zPH) (v i5 : Int), i5 = x5 + 2 → v = ynx C R y x 2 → (∀ q, q ≠ u + 1 → t q = s q) → (∀ k, t (u + 1) k = if 4 * M ≤ k ∧ k < 4 * M + 2 then ynx C R y x (k - 4 * M) else s (u + 1) k) → b_T_resize_136 G u (C : Int) (R : Int) X K12 K23 (y : Int) (x : Int) x5 v i5 t := by
    intro t v i5 hi hv r1 v1
    refine ⟨by omega, ?_⟩
    rintro t' et
    rw [show i5.toNat = 4 * M + 2 by omega] at et
    obtain ⟨a, b⟩ := put 2 t t' v (by decide) hv r1 v1 et
    refine ⟨by omega, fun q => b160 t' _ _ rfl ?_ a b, fun q => b160 t' _ _ rfl ?_ a b⟩
    · unfold ynx; rw [if_neg (by decide), if_neg (by decide), if_neg (by decide), if_neg (by omega)]
    · unfold ynx; rw [if_neg (by decide), if_neg (by decide), if_neg (by decide), if_pos (by omega)]; omega
  have b102 : ∀ (t : zPH) (v i5 : Int), i5 = x5 + 1 → v = ynx C R y x 1 → (∀ q, q ≠ u + 1 → t q = s q) → (∀ k, t (u + 1) k = if 4 * M ≤ k ∧ k < 4 * M + 1 then ynx C R y x (k - 4 * M) else s (u + 1) k) → b_T_resize_102 G u (C : Int) (R : Int) X K12 K23 (y : Int) (x : Int) x5 v i5 t := by
    intro t v i5 hi hv r1 v1
    refine ⟨by omega, ?_⟩
    rintro t' et
    rw [show i5.toNat = 4 * M + 1 by omega] at et
    obtain ⟨a, b⟩ := put 1 t t' v (by decide) hv r1 v1 et
    rw [a u (by omega), g0, g1]
    refine ⟨by omega, fun q => b136 t' _ _ rfl ?_ a b, fun q => b136 t' _ _ rfl ?_ a b⟩
    · unfold ynx; rw [if_neg (by decide), if_neg (by decide), if_pos rfl, if_neg (by omega)]
    · unfold ynx; rw [if_neg (by decide), if_neg (by decide), if_pos rfl, if_pos (by omega)]
      have hs := Nat.succ_mul y C
      rw [show (y + 1) * C = y * C + C from hs]; omega
  have b72 : ∀ (v i5 : Int), i5 = x5 + 0 → v = ynx C R y x 0 → b_T_resize_72 G u (C : Int) (R : Int) X K12 K23 (y : Int) (x : Int) x5 v i5 s := by
    intro v i5 hi hv
    refine ⟨by omega, ?_⟩
    rintro t' et
    rw [show i5.toNat = 4 * M + 0 by omega] at et
    obtain ⟨a, b⟩ := put 0 s t' v (by decide) hv (fun _ _ => rfl) (fun k => by rw [if_neg (by omega)]) et
    rw [a u (by omega), g0]
    refine ⟨by omega, fun q => b102 t' _ _ rfl ?_ a b, fun q => b102 t' _ _ rfl ?_ a b⟩
    · unfold ynx; rw [if_neg (by decide), if_pos rfl, if_neg (by omega)]
    · unfold ynx; rw [if_neg (by decide), if_pos rfl, if_pos (by omega)]; omega
  refine ⟨by omega, fun q => b72 _ _ rfl ?_, fun q => b72 _ _ rfl ?_⟩
  · unfold ynx; rw [if_pos rfl, if_neg (by omega)]
  · unfold ynx; rw [if_pos rfl, if_pos (by omega)]
    obtain ⟨y', rfl⟩ : ∃ y', y = y' + 1 := ⟨y - 1, by omega⟩
    rw [Nat.add_sub_cancel]
    rw [Nat.succ_mul] at hM
    omega
end RZ
