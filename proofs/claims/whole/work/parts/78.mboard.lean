/-- D behind a board() that reads a board; that finds a fault -/
def yDn (D : zPH) : zPH := fun r k => if r = 0 then (if k ≤ 4 then 0 else if k = 5 then -1 else D 0 k) else if r = 1 then 0 else D r k
def yDf (D : zPH) (e pl : Int) : zPH := fun r k => if r = 0 then (if k = 3 then 0 else if k = 4 then e else if k = 5 then pl else D 0 k) else D r k
/-- what board() does -/
def yRes (V D V' D' : zPH) (x : Int) : Prop := match yAll (fun k => D 4 k) (D 0 3).toNat with
  | .inl (W, k) => x = (k : Int) ∧ V' = W ∧ D' = yDn D
  | .inr (e, pl) => x = -1 ∧ V' = V ∧ D' = yDf D e pl
section MB1
variable {G : zG} {σ V D W : zPH} {X : zX} {T : Nat → Int} {n i : Nat}
theorem s_M_eyesOfTests (hi : σ 58 35 = (i : Int) ∧ i ≤ 1) (hc : zmc σ W i) (hw : zbw σ W i 8) (hW : yWm W) (hN : yNr W) (hCs : yCs W) (h10 : σ 58 10 = 0) (hl : W 0 7 ≤ 1600)
  (h1 : ∀ σ' W', yEyes W (W 0 7).toNat = .inl W' → (∀ k : Nat, (k : Int) < W 0 7 → W 9 k = 1 → σ' 77 (1600 * i + k) = W' 11 k) → (∀ q, q ≠ 77 → σ' q = σ q) → zfp i σ σ' → X none σ')
  (h0 : ∀ σ' k pl, yEyes W (W 0 7).toNat = .inr (k, pl) → zFt σ' k pl → zfp i σ σ' → X none σ') : MS G zm_M_eyesOfTests 1 [zr G 58] σ X := by
  have hi35 : (i : Int).toNat = i := Int.toNat_natCast i
  have c1 := hc.1
  have c0 := hCs.1
  have hc66 : σ 66 i = W 0 5 := by have := hw.1.2.2.2.2.2.2; rw [if_neg (by decide)] at this; omega
  refine k_M_eyesOfTests ?_
  refine zLP1_ind (fun x s => (∃ k : Nat, x = (k : Int) ∧ (k : Int) ≤ W 0 7 ∧ (∀ q, q ≠ 77 → s q = σ q) ∧ zfp i σ s ∧ ∃ Wk, yEyes W k = .inl Wk ∧ ∀ j : Nat, j < k → W 9 j = 1 → s 77 (1600 * i + j) = Wk 11 j) ∨ (zI x ∧ ∃ k pl, yEyes W (W 0 7).toNat = .inr (k, pl) ∧ zFt s k pl ∧ zfp i σ s)) (fun x s => if s 58 10 = 0 then (4000 - x).toNat else 0) ?_ (Or.inl ⟨0, rfl, c0, fun _ _ => rfl, zfp.rf, W, rfl, fun j hj => by omega⟩)
  rintro K x s (⟨k, rfl, hk, hs, hf, Wk, eW, h77⟩ | ⟨hx, kk, pl, e, ft, hf⟩) hK
  rotate_left
  · have e10 := ft.1.1
    have e11 := ft.1.2.2
    have e34 := ft.2
    exact ⟨⟨hx, by omega⟩, fun _ => h0 s kk pl e ft hf, fun _ => ⟨by omega, fun _ => h0 s kk pl e ft hf, fun z => by omega⟩⟩
  have s58 : s 58 = σ 58 := hs 58 (by decide)
  unfold b_M_eyesOfTests_2
  rw [s58, c1, hi.1]
  refine ⟨by omega, fun y => ?_, fun y => ⟨by omega, fun z => absurd h10 z, fun _ => ⟨by omega, ?_⟩⟩⟩
  · have : k = (W 0 7).toNat := by omega
    subst this
    exact h1 s Wk eW (fun j hj => h77 j (by omega)) hs hf
  have hkk : (1600 * (i : Int) + (k : Int)).toNat = 1600 * i + k := by omega
  obtain ⟨cs1, cs2⟩ := hCs.2 k y
  obtain ⟨cc1, cc2⟩ := hc.2.2 k y
  rw [hkk, hs 75 (by decide), cc1]
  have hm : (if s 58 10 = 0 then (4000 - (k : Int)).toNat else 0) = (4000 - (k : Int)).toNat := if_pos (by rw [s58]; exact h10)
  refine ⟨by omega, fun z => ⟨by omega, ?_⟩, fun z => ?_⟩
  · rw [Int.toNat_natCast, hs 78 (by decide)]
    obtain ⟨cs3, ⟨cs4, cs5⟩, -⟩ := cs2 z
    obtain ⟨cc3, cc4, cc5⟩ := cc2 z
    have hr := yeN_r W (W 13 k) (W 0 5).toNat
    have hm5 := hW.2.1
    have h256 : σ 78 k < 256 ^ 6 := by
      have a := (cc4.2 6).1.mp (by omega)
      have := cc4.1
      omega
    have eS : yEyes W (k + 1) = if yeN W (W 13 k) (W 0 5).toNat = -1 then .inr (6, W 14 k) else .inl (zupd Wk 11 k (yeN W (W 13 k) (W 0 5).toNat)) := by
      conv => lhs; unfold yEyes
      rw [eW]
      dsimp only
      rw [if_neg (fun u => u z)]
    refine s_M_eyeOf (by rw [s58]; exact hi) (by rw [hs 66 (by decide)]; exact hc66) (by omega) (fun e he => by rw [hs 71 (by decide)]; exact (hw.2.2.1 e he).1) hN cc4 ⟨cs4, cs5⟩ ⟨by have := cc4.1; omega, by omega⟩ ⟨_, rfl, by omega, ?_⟩
    rintro s1 e1
    have r1 : ∀ q, q ≠ 77 → s1 q = s q := fun q hq => by rw [e1, zupd_row hq]
    have F1 : zfp i σ s1 := hf.u e1 (by rw [show zbk 77 = 1600 from rfl]; omega)
    rw [r1 58 (by decide), s58, hi.1, hkk]
    refine ⟨by omega, ?_⟩
    rw [show s1 77 (1600 * i + k) = yeN W (W 13 k) (W 0 5).toNat by rw [e1, zupd_same]]
    refine ⟨by omega, fun u => ?_, fun u => ⟨by omega, ?_⟩⟩
    · rw [if_neg u] at eS
      refine hK _ _ (Or.inl ⟨k + 1, by omega, by omega, fun q hq => by rw [r1 q hq]; exact hs q hq, F1, _, eS, fun j hj hj1 => ?_⟩) ?_
      · by_cases w : j = k
        · subst w; rw [e1, zupd_same, zupd_same]
        · rw [e1, zupd_nk (by omega), zupd_nk w]; exact h77 j (by omega) hj1
      · rw [hm]
        split <;> omega
    · rw [if_pos u] at eS
      have eA : yEyes W (W 0 7).toNat = .inr (6, W 14 k) := yEyes_f (k + 1) _ (by omega) eS
      rw [r1 79 (by decide), hs 79 (by decide), cc5]
      refine s_M_blame (by rw [r1 58 (by decide), s58]; exact h10) (by decide) (fun s2 F f2 _ => ⟨rfl, hK _ _ (Or.inr ⟨by omega, 6, _, eA, ⟨F, by rw [f2.2 34 (by decide), r1 58 (by decide), s58]; omega⟩, F1.trans f2.p⟩) ?_⟩)
      rw [hm, if_neg (by rw [F.1]; decide)]; omega
  · have eS : yEyes W (k + 1) = .inl Wk := by
      conv => lhs; unfold yEyes
      rw [eW]
      dsimp only
      rw [if_pos z]
    refine hK _ _ (Or.inl ⟨k + 1, by omega, by omega, hs, hf, Wk, eS, fun j hj hj1 => h77 j (by
      by_cases w : j = k
      · subst w; exact absurd hj1 z
      · omega) hj1⟩) ?_
    rw [hm]
    split <;> omega
theorem s_M_eyesOfTests' {k pl : Int} (ft : zFt σ k pl) (hX : X none σ) : MS G zm_M_eyesOfTests 1 [zr G 58] σ X := by
  have e10 := ft.1.1
  have e11 := ft.1.2.2
  have e34 := ft.2
  refine k_M_eyesOfTests ?_
  refine zLP1_ind (fun x s => x = 0 ∧ s = σ) (fun _ _ => 0) ?_ ⟨rfl, rfl⟩
  rintro K x s ⟨rfl, rfl⟩ -
  exact ⟨⟨by decide, by omega⟩, fun _ => hX, fun _ => ⟨by omega, fun _ => hX, fun z => by omega⟩⟩
end MB1
