/-! The model's board under construction, in bank i; g: the group whose count is one behind -/
def zbk (q : Nat) : Nat := if q ≤ 66 then 1 else if q ≤ 70 then 144 else if q ≤ 72 then 8 else if q ≤ 74 then 6 else 1600
/-- what reading a board changes -/
def zfp (i : Nat) (σ σ' : zPH) : Prop := (∀ q, q ≠ 58 → (q < 60 ∨ 82 < q) → σ' q = σ q) ∧ (∀ k, (k < 5 ∨ (12 < k ∧ k ≠ 34 ∧ k ≠ 39 ∧ k ≠ 40 ∧ k ≠ 41)) → σ' 58 k = σ 58 k) ∧ ∀ q, 60 ≤ q → q ≤ 77 → ∀ k, (k < zbk q * i ∨ zbk q * i + zbk q ≤ k) → σ' q k = σ q k
theorem zfp.rf {i : Nat} {σ : zPH} : zfp i σ σ := ⟨fun _ _ _ => rfl, fun _ _ => rfl, fun _ _ _ _ _ => rfl⟩
theorem zfp.trans {i : Nat} {σ σ1 σ2 : zPH} (h : zfp i σ σ1) (h2 : zfp i σ1 σ2) : zfp i σ σ2 := ⟨fun q a b => by rw [h2.1 q a b, h.1 q a b], fun k a => by rw [h2.2.1 k a, h.2.1 k a], fun q a b k c => by rw [h2.2.2 q a b k c, h.2.2 q a b k c]⟩
theorem zfq.p {i : Nat} {σ σ' : zPH} (h : zfq σ σ') : zfp i σ σ' := ⟨fun q a _ => h.1 q a, fun k a => h.2 k (by omega), fun q a b k _ => by rw [h.1 q (by omega)]⟩
theorem zfp.u {i : Nat} {σ σ1 σ2 : zPH} {r k : Nat} {x : Int} (h : zfp i σ σ1) (e : σ2 = zupd σ1 r k x) (hr : (60 ≤ r ∧ r ≤ 77 ∧ zbk r * i ≤ k ∧ k < zbk r * i + zbk r) ∨ (78 ≤ r ∧ r ≤ 82)) : zfp i σ σ2 := by
  refine h.trans ⟨fun q a b => by rw [e, zupd_row (by omega)], fun q a => by rw [e, zupd_row (by omega)], fun q a b j c => ?_⟩
  by_cases y : q = r
  · subst y; rw [e, zupd_nk (by omega)]
  · rw [e, zupd_row y]
def zbw (σ W : zPH) (i g : Nat) : Prop := (σ 60 i = W 0 0 ∧ σ 61 i = W 0 1 ∧ σ 62 i = W 0 6 ∧ σ 63 i = W 0 2 - (if g = 2 then 1 else 0) ∧ σ 64 i = W 0 3 - (if g = 3 then 1 else 0) ∧ σ 65 i = W 0 4 - (if g = 4 then 1 else 0) ∧ σ 66 i = W 0 5 - (if g = 5 then 1 else 0)) ∧ (∀ q : Nat, q < 144 → σ 67 (144 * i + q) = W 1 q ∧ (W 1 q ≠ 0 → σ 68 (144 * i + q) = W 2 q ∧ (W 1 q ≠ 8 → σ 69 (144 * i + q) = W 3 q) ∧ σ 70 (144 * i + q) = W 4 q)) ∧ (∀ e : Nat, (e : Int) < W 0 5 → zWd (W 20 e) (σ 71 (8 * i + e)) ∧ σ 72 (8 * i + e) = W 5 e) ∧ ∀ m : Nat, (m : Int) < W 0 4 → σ 73 (6 * i + m) = W 7 m ∧ σ 74 (6 * i + m) = W 8 m
theorem zbw.to {σ σ' W : zPH} {i g : Nat} (h : zbw σ W i g) (r : ∀ q, 60 ≤ q → q ≤ 74 → σ' q = σ q) : zbw σ' W i g := by
  unfold zbw at *
  rw [r 60 (by omega) (by omega), r 61 (by omega) (by omega), r 62 (by omega) (by omega), r 63 (by omega) (by omega), r 64 (by omega) (by omega), r 65 (by omega) (by omega), r 66 (by omega) (by omega), r 67 (by omega) (by omega), r 68 (by omega) (by omega), r 69 (by omega) (by omega), r 70 (by omega) (by omega), r 71 (by omega) (by omega), r 72 (by omega) (by omega), r 73 (by omega) (by omega), r 74 (by omega) (by omega)]
  exact h
/-- the board under construction is in its bounds -/
def yWm (W : zPH) : Prop := (2 ≤ W 0 0 ∧ W 0 0 ≤ 12 ∧ 2 ≤ W 0 1 ∧ W 0 1 ≤ 12) ∧ (0 ≤ W 0 2 ∧ W 0 2 ≤ 8 ∧ 0 ≤ W 0 3 ∧ W 0 3 ≤ 8 ∧ 0 ≤ W 0 4 ∧ W 0 4 ≤ 6 ∧ 0 ≤ W 0 5 ∧ W 0 5 ≤ 8) ∧ (∀ q, 0 ≤ W 1 q ∧ W 1 q ≤ 9)
theorem yput_0 (W : zPH) (s f w : Int) (q k : Nat) : yput W s f w q 0 k = if k = 6 then W 0 6 + 1 else if k = ygr s then W 0 k + 1 else W 0 k := by
  unfold yput; rw [if_pos rfl]
theorem zbw_put {σ σ' W : zPH} {i : Nat} {s f w : Int} {q : Nat} {num : Int} (h : zbw σ W i 8) (hs : 1 ≤ s ∧ s ≤ 9) (hq : q < 144) (h5 : 0 ≤ W 0 5) (h4 : 0 ≤ W 0 4) (hn : num = if ygr s = 8 then -1 else W 0 (ygr s))
  (r : ∀ p, 60 ≤ p → p ≤ 74 → p ≠ 62 → p ≠ 67 → p ≠ 68 → p ≠ 69 → p ≠ 70 → p ≠ 72 → σ' p = σ p) (r62 : σ' 62 i = σ 62 i + 1)
  (r67 : ∀ k, σ' 67 k = if k = 144 * i + q then s else σ 67 k) (r68 : ∀ k, σ' 68 k = if k = 144 * i + q then num else σ 68 k) (r69 : ∀ k, k ≠ 144 * i + q → σ' 69 k = σ 69 k) (r69' : s ≠ 8 → σ' 69 (144 * i + q) = f) (r70 : ∀ k, σ' 70 k = if k = 144 * i + q then w else σ 70 k)
  (r72 : ∀ k, σ' 72 k = if s = 7 ∧ k = 8 * i + (W 0 5).toNat then (q : Int) else σ 72 k)
  (hname : s = 7 → zWd (W 20 (W 0 5).toNat) (σ 71 (8 * i + (W 0 5).toNat)))
  (hmov : s = 8 ∨ s = 9 → σ 73 (6 * i + (W 0 4).toNat) = W 7 (W 0 4).toNat ∧ σ 74 (6 * i + (W 0 4).toNat) = W 0 7) : zbw σ' (yput W s f w q) i (ygr s) := by
  obtain ⟨⟨d0, d1, d2, d3, d4, d5, d6⟩, hc, he, hm⟩ := h
  rw [if_neg (by decide)] at d3 d4 d5 d6
  have gr : (s = 1 → ygr s = 2) ∧ (s = 2 ∨ s = 3 → ygr s = 3) ∧ (s = 8 ∨ s = 9 → ygr s = 4) ∧ (s = 7 → ygr s = 5) ∧ (s = 4 ∨ s = 5 ∨ s = 6 → ygr s = 8) := by
    unfold ygr
    refine ⟨fun z => by rw [if_pos z], fun z => by rw [if_neg (by omega), if_pos z], fun z => by rw [if_neg (by omega), if_neg (by omega), if_pos z], fun z => by rw [if_neg (by omega), if_neg (by omega), if_neg (by omega), if_pos z], fun z => by rw [if_neg (by omega), if_neg (by omega), if_neg (by omega), if_neg (by omega)]⟩
  have gv : ygr s = 2 ∨ ygr s = 3 ∨ ygr s = 4 ∨ ygr s = 5 ∨ ygr s = 8 := by omega
  have ge5 : ygr s = 5 ↔ s = 7 := ⟨fun z => by omega, gr.2.2.2.1⟩
  have ge4 : ygr s = 4 ↔ s = 8 ∨ s = 9 := ⟨fun z => by omega, gr.2.2.1⟩
  have p1 : ∀ k, yput W s f w q 1 k = if k = q then s else W 1 k := fun k => by
    unfold yput; rw [if_neg (by decide)]
    by_cases y : k = q
    · rw [if_pos ⟨rfl, y⟩, if_pos y]
    · rw [if_neg (fun z => y z.2), if_neg (fun z => absurd z.1 (by decide)), if_neg (fun z => absurd z.1 (by decide)), if_neg (fun z => absurd z.1 (by decide)), if_neg (fun z => absurd z.1 (by decide)), if_neg (fun z => absurd z.1 (by decide)), if_neg (fun z => absurd z.1 (by decide)), if_neg (fun z => absurd z.1 (by decide)), if_neg y]
  have p2 : ∀ k, yput W s f w q 2 k = if k = q then num else W 2 k := fun k => by
    unfold yput; rw [if_neg (by decide), if_neg (fun z => absurd z.1 (by decide))]
    by_cases y : k = q
    · rw [if_pos ⟨rfl, y⟩, if_pos y, hn]
    · rw [if_neg (fun z => y z.2), if_neg (fun z => absurd z.1 (by decide)), if_neg (fun z => absurd z.1 (by decide)), if_neg (fun z => absurd z.1 (by decide)), if_neg (fun z => absurd z.1 (by decide)), if_neg (fun z => absurd z.1 (by decide)), if_neg (fun z => absurd z.1 (by decide)), if_neg y]
  have p3 : ∀ k, yput W s f w q 3 k = if k = q then f else W 3 k := fun k => by
    unfold yput; rw [if_neg (by decide), if_neg (fun z => absurd z.1 (by decide)), if_neg (fun z => absurd z.1 (by decide))]
    by_cases y : k = q
    · rw [if_pos ⟨rfl, y⟩, if_pos y]
    · rw [if_neg (fun z => y z.2), if_neg (fun z => absurd z.1 (by decide)), if_neg (fun z => absurd z.1 (by decide)), if_neg (fun z => absurd z.1 (by decide)), if_neg (fun z => absurd z.1 (by decide)), if_neg (fun z => absurd z.1 (by decide)), if_neg y]
  have p4 : ∀ k, yput W s f w q 4 k = if k = q then w else W 4 k := fun k => by
    unfold yput; rw [if_neg (by decide), if_neg (fun z => absurd z.1 (by decide)), if_neg (fun z => absurd z.1 (by decide)), if_neg (fun z => absurd z.1 (by decide))]
    by_cases y : k = q
    · rw [if_pos ⟨rfl, y⟩, if_pos y]
    · rw [if_neg (fun z => y z.2), if_neg (fun z => absurd z.1 (by decide)), if_neg (fun z => absurd z.1 (by decide)), if_neg (fun z => absurd z.1 (by decide)), if_neg (fun z => absurd z.1 (by decide)), if_neg y]
  have p5 : ∀ k : Nat, yput W s f w q 5 k = if s = 7 ∧ k = (W 0 5).toNat then (q : Int) else W 5 k := fun k => by
    unfold yput; rw [if_neg (by decide), if_neg (fun z => absurd z.1 (by decide)), if_neg (fun z => absurd z.1 (by decide)), if_neg (fun z => absurd z.1 (by decide)), if_neg (fun z => absurd z.1 (by decide))]
    by_cases y : s = 7 ∧ k = (W 0 5).toNat
    · rw [if_pos ⟨rfl, y.1, by omega⟩, if_pos y]
    · rw [if_neg (fun z => y ⟨z.2.1, by omega⟩), if_neg (fun z => absurd z.1 (by decide)), if_neg (fun z => absurd z.1 (by decide)), if_neg (fun z => absurd z.1 (by decide)), if_neg y]
  have p8 : ∀ k : Nat, yput W s f w q 8 k = if (s = 8 ∨ s = 9) ∧ k = (W 0 4).toNat then W 0 7 else W 8 k := fun k => by
    unfold yput; rw [if_neg (by decide), if_neg (fun z => absurd z.1 (by decide)), if_neg (fun z => absurd z.1 (by decide)), if_neg (fun z => absurd z.1 (by decide)), if_neg (fun z => absurd z.1 (by decide)), if_neg (fun z => absurd z.1 (by decide)), if_neg (fun z => absurd z.1 (by decide)), if_neg (fun z => absurd z.1 (by decide))]
    by_cases y : (s = 8 ∨ s = 9) ∧ k = (W 0 4).toNat
    · rw [if_pos ⟨rfl, y.1, by omega⟩, if_pos y]
    · rw [if_neg (fun z => y ⟨z.2.1, by omega⟩), if_neg y]
  have pr : ∀ r, r = 7 ∨ r = 20 → yput W s f w q r = W r := fun r hr => by
    funext k
    unfold yput; rw [if_neg (by omega), if_neg (by omega), if_neg (by omega), if_neg (by omega), if_neg (by omega), if_neg (by omega), if_neg (by omega), if_neg (by omega), if_neg (by omega)]
  refine ⟨⟨?_, ?_, ?_, ?_, ?_, ?_, ?_⟩, fun k hk => ?_, fun e he' => ?_, fun m hm' => ?_⟩
  · rw [yput_0, if_neg (by decide), if_neg (by omega), r 60 (by decide) (by decide) (by decide) (by decide) (by decide) (by decide) (by decide) (by decide)]; exact d0
  · rw [yput_0, if_neg (by decide), if_neg (by omega), r 61 (by decide) (by decide) (by decide) (by decide) (by decide) (by decide) (by decide) (by decide)]; exact d1
  · rw [yput_0, if_pos rfl, r62, d2]
  · rw [yput_0, if_neg (by decide), r 63 (by decide) (by decide) (by decide) (by decide) (by decide) (by decide) (by decide) (by decide)]
    by_cases y : ygr s = 2
    · rw [if_pos y.symm, if_pos y]; omega
    · rw [if_neg (fun z => y z.symm), if_neg y]; omega
  · rw [yput_0, if_neg (by decide), r 64 (by decide) (by decide) (by decide) (by decide) (by decide) (by decide) (by decide) (by decide)]
    by_cases y : ygr s = 3
    · rw [if_pos y.symm, if_pos y]; omega
    · rw [if_neg (fun z => y z.symm), if_neg y]; omega
  · rw [yput_0, if_neg (by decide), r 65 (by decide) (by decide) (by decide) (by decide) (by decide) (by decide) (by decide) (by decide)]
    by_cases y : ygr s = 4
    · rw [if_pos y.symm, if_pos y]; omega
    · rw [if_neg (fun z => y z.symm), if_neg y]; omega
  · rw [yput_0, if_neg (by decide), r 66 (by decide) (by decide) (by decide) (by decide) (by decide) (by decide) (by decide) (by decide)]
    by_cases y : ygr s = 5
    · rw [if_pos y.symm, if_pos y]; omega
    · rw [if_neg (fun z => y z.symm), if_neg y]; omega
  · rw [p1, p2, p3, p4, r67, r68, r70]
    by_cases y : k = q
    · subst y
      simp only [if_pos]
      exact ⟨trivial, fun _ => ⟨trivial, r69', trivial⟩⟩
    · rw [if_neg (show ¬ 144 * i + k = 144 * i + q by omega), if_neg (show ¬ 144 * i + k = 144 * i + q by omega), if_neg (show ¬ 144 * i + k = 144 * i + q by omega), if_neg y, if_neg y, if_neg y, if_neg y, r69 _ (by omega)]
      exact hc k hk
  · rw [yput_0, if_neg (by decide)] at he'
    rw [pr 20 (by omega), p5, r72, r 71 (by decide) (by decide) (by decide) (by decide) (by decide) (by decide) (by decide) (by decide)]
    by_cases y : s = 7 ∧ e = (W 0 5).toNat
    · rw [if_pos ⟨y.1, by omega⟩, if_pos y, y.2]
      exact ⟨hname y.1, rfl⟩
    · rw [if_neg (fun z => y ⟨z.1, by omega⟩), if_neg y]
      refine he e ?_
      by_cases z : s = 7
      · rw [if_pos (ge5.mpr z).symm] at he'
        have : e ≠ (W 0 5).toNat := fun u => y ⟨z, u⟩
        omega
      · rw [if_neg (fun u => z (ge5.mp u.symm))] at he'; exact he'
  · rw [yput_0, if_neg (by decide)] at hm'
    rw [pr 7 (by omega), p8, r 73 (by decide) (by decide) (by decide) (by decide) (by decide) (by decide) (by decide) (by decide), r 74 (by decide) (by decide) (by decide) (by decide) (by decide) (by decide) (by decide) (by decide)]
    by_cases y : (s = 8 ∨ s = 9) ∧ m = (W 0 4).toNat
    · rw [if_pos y, y.2]; exact hmov y.1
    · rw [if_neg y]
      refine hm m ?_
      by_cases z : s = 8 ∨ s = 9
      · rw [if_pos (ge4.mpr z).symm] at hm'
        have : m ≠ (W 0 4).toNat := fun u => y ⟨z, u⟩
        omega
      · rw [if_neg (fun u => z (ge4.mp u.symm))] at hm'; exact hm'
/-- the count comes -/
theorem zbw_inc {σ σ' W : zPH} {i g : Nat} (h : zbw σ W i g) (hg : 2 ≤ g ∧ g ≤ 5) (e : σ' = zupd σ (61 + g) i (σ (61 + g) i + 1)) : zbw σ' W i 8 := by
  obtain ⟨⟨d0, d1, d2, d3, d4, d5, d6⟩, hc, he, hm⟩ := h
  have r : ∀ q, q ≠ 61 + g → σ' q = σ q := fun q hq => by rw [e, zupd_row hq]
  have v : σ' (61 + g) i = σ (61 + g) i + 1 := by rw [e, zupd_same]
  unfold zbw
  rw [r 60 (by omega), r 61 (by omega), r 62 (by omega), r 67 (by omega), r 68 (by omega), r 69 (by omega), r 70 (by omega), r 71 (by omega), r 72 (by omega), r 73 (by omega), r 74 (by omega)]
  refine ⟨⟨d0, d1, d2, ?_, ?_, ?_, ?_⟩, hc, he, hm⟩
  · by_cases y : g = 2
    · subst y; rw [if_pos rfl] at d3; rw [if_neg (by decide)]; rw [show σ' 63 i = σ 63 i + 1 from v]; omega
    · rw [if_neg y] at d3; rw [if_neg (by decide), r 63 (by omega)]; exact d3
  · by_cases y : g = 3
    · subst y; rw [if_pos rfl] at d4; rw [if_neg (by decide)]; rw [show σ' 64 i = σ 64 i + 1 from v]; omega
    · rw [if_neg y] at d4; rw [if_neg (by decide), r 64 (by omega)]; exact d4
  · by_cases y : g = 4
    · subst y; rw [if_pos rfl] at d5; rw [if_neg (by decide)]; rw [show σ' 65 i = σ 65 i + 1 from v]; omega
    · rw [if_neg y] at d5; rw [if_neg (by decide), r 65 (by omega)]; exact d5
  · by_cases y : g = 5
    · subst y; rw [if_pos rfl] at d6; rw [if_neg (by decide)]; rw [show σ' 66 i = σ 66 i + 1 from v]; omega
    · rw [if_neg y] at d6; rw [if_neg (by decide), r 66 (by omega)]; exact d6
