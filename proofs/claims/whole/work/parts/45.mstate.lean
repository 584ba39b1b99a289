section ME
variable {G : zG} {σ V D : zPH} {X : zX}
theorem zMI.dyn {σ σ' V D D' : zPH} (h : zMI σ V D) (r : ∀ q, 59 < q → q < 83 → σ' q = σ q) (r0 : ∀ k, k = 13 ∨ (45 ≤ k ∧ k ≤ 52) ∨ k = 56 → σ' 58 k = σ 58 k) (hd : zMD σ' V D') : zMI σ' V D' := by
  obtain ⟨h1, h2, h3, h4, h5⟩ := h
  refine ⟨h1.to (fun q q1 q2 => r q (by omega) (by omega)) (fun k hk => r0 k (by omega)), ?_, hd, ?_, h5.to (fun q a b => r q (by omega) (by omega)) (r0 13 (by omega))⟩
  · unfold zMR at *
    rw [r0 45 (by omega), r0 46 (by omega), r0 49 (by omega), r0 50 (by omega), r0 51 (by omega), r0 56 (by omega)]
    exact h2
  · unfold zMN at *
    rw [r 71 (by decide) (by decide), r0 13 (by omega)]; exact h4
/-- what is kept of what was -/
theorem s_M_remembers (hB : zBD V D) (e68 : σ 58 68 = D 0 2) (hp : ∀ j : Nat, (j : Int) < D 0 2 → σ 90 j = D 2 j ∧ σ 91 j = D 3 j) (hX : ∀ σ', (∀ q, q ≠ 58 → q ≠ 90 → q ≠ 91 → σ' q = σ q) → (∀ k, k ≠ 68 → σ' 58 k = σ 58 k) → σ' 58 68 = zpsh D 0 2 → (∀ j : Nat, (j : Int) < zpsh D 0 2 → σ' 90 j = zpsh D 2 j ∧ σ' 91 j = zpsh D 3 j) → X none σ') : MS G zm_M_remembers 0 [zr G 58, iZ (D 0 0), iZ (D 0 1)] σ X := by
  have hc := hB.2.2.2.2.1
  have tail : ∀ (σ1 : zPH) (n : Nat), n < 16 → (∀ q, q ≠ 58 → q ≠ 90 → q ≠ 91 → σ1 q = σ q) → (∀ k, k ≠ 68 → σ1 58 k = σ 58 k) → σ1 58 68 = (n : Int) → zpsh D 0 2 = (n : Int) + 1 → (∀ j : Nat, j < n → σ1 90 j = zpsh D 2 j ∧ σ1 91 j = zpsh D 3 j) → zpsh D 2 n = D 0 0 → zpsh D 3 n = D 0 1 → b_M_remembers_61 G (D 0 0) (D 0 1) X σ1 := by
    intro σ1 n hn F1 K1 e1 hc1 hp1 a1 a2
    unfold b_M_remembers_61
    rw [e1]
    refine ⟨by omega, ?_⟩
    rw [Int.toNat_natCast]
    rintro σ2 e2
    have e2' : σ2 58 68 = (n : Int) := by rw [e2, zupd_row (by decide), e1]
    rw [e2']
    refine ⟨by omega, ?_⟩
    rw [Int.toNat_natCast]
    rintro σ3 e3
    have e3' : σ3 58 68 = (n : Int) := by rw [e3, zupd_row (by decide), e2']
    rw [e3']
    rintro σ4 e4
    refine hX σ4 (fun q q1 q2 q3 => by rw [e4, zupd_row q1, e3, zupd_row q3, e2, zupd_row q2, F1 q q1 q2 q3]) (fun k hk => by rw [e4, zupd_nk hk, e3, zupd_row (by decide), e2, zupd_row (by decide), K1 k hk]) (by rw [e4, zupd_same, hc1]) (fun j hj => ?_)
    rw [e4, zupd_row (by decide), zupd_row (by decide), e3, zupd_row (by decide)]
    by_cases q : j = n
    · rw [q, zupd_same, e2, zupd_same, a1, a2]; exact ⟨rfl, rfl⟩
    · rw [zupd_nk q, e2, zupd_nk q, zupd_row (by decide)]; exact hp1 j (by omega)
  refine k_M_remembers ⟨by omega, fun q => ?_, fun q => ?_⟩
  · rw [e68] at q
    refine tail σ (D 0 2).toNat (by omega) (fun _ _ _ _ => rfl) (fun _ _ => rfl) (by omega) (by rw [zpsh_c, if_neg q]; omega) (fun j hj => ?_) (by rw [zpsh_2, if_neg q, if_pos (by omega)]) (by rw [zpsh_3, if_neg q, if_pos (by omega)])
    rw [zpsh_2, zpsh_3, if_neg q, if_neg q, if_neg (by omega), if_neg (by omega)]; exact hp j (by omega)
  · rw [e68] at q
    refine zLP1_ind (fun x3 σ1 => ∃ i : Nat, x3 = (i : Int) ∧ i ≤ 15 ∧ (∀ q, q ≠ 90 → q ≠ 91 → σ1 q = σ q) ∧ (∀ j, j < i → σ1 90 j = D 2 (j + 1) ∧ σ1 91 j = D 3 (j + 1)) ∧ ∀ j, i ≤ j → σ1 90 j = σ 90 j ∧ σ1 91 j = σ 91 j) (fun x3 _ => (15 - x3).toNat) ?_ ⟨0, rfl, by decide, fun _ _ _ => rfl, fun j hj => by omega, fun j _ => ⟨rfl, rfl⟩⟩
    rintro K x3 σ1 ⟨i, rfl, hi, F1, lo, up⟩ hK
    refine ⟨by omega, fun hge => ?_, fun hlt => ⟨by omega, by omega, ?_⟩⟩
    · have : i = 15 := by omega
      subst this
      rintro σ2 e2
      have e68' : σ1 58 68 = 16 := by rw [F1 58 (by decide) (by decide), e68, q]
      refine tail σ2 15 (by decide) (fun q q1 q2 q3 => by rw [e2, zupd_row q1, F1 q q2 q3]) (fun k hk => by rw [e2, zupd_nk hk, F1 58 (by decide) (by decide)]) (by rw [e2, zupd_same, e68']; rfl) (by rw [zpsh_c, if_pos q]; rfl) (fun j hj => ?_) (by rw [zpsh_2, if_pos q, if_pos rfl]) (by rw [zpsh_3, if_pos q, if_pos rfl])
      rw [zpsh_2, zpsh_3, if_pos q, if_pos q, if_neg (by omega), if_neg (by omega), e2, zupd_row (by decide), zupd_row (by decide)]
      exact lo j hj
    · rw [show ((i : Int) + 1).toNat = i + 1 by omega, Int.toNat_natCast]
      rintro σ2 e2
      refine ⟨by omega, by omega, ?_⟩
      rintro σ3 e3
      have hpi := hp (i + 1) (by omega)
      have hup := up (i + 1) (by omega)
      refine hK _ _ ⟨i + 1, by omega, by omega, fun q q1 q2 => by rw [e3, zupd_row q2, e2, zupd_row q1, F1 q q1 q2], fun j hj => ?_, fun j hj => ?_⟩ (by omega)
      · by_cases y : j = i
        · rw [y, e3, zupd_row (by decide), zupd_same, e2, zupd_same, zupd_row (by decide), hup.1, hup.2]; exact hpi
        · rw [e3, zupd_row (by decide), zupd_nk y, e2, zupd_nk y, zupd_row (by decide)]; exact lo j (by omega)
      · rw [e3, zupd_row (by decide), zupd_nk (by omega), e2, zupd_nk (by omega), zupd_row (by decide)]; exact up j (by omega)
theorem zMD_psh {σ σ' V D : zPH} {a b : Int} (h : zMD σ V D) (r : ∀ q, q = 83 ∨ q = 59 ∨ q = 92 → σ' q = σ q) (r0 : ∀ k, k = 1 ∨ k = 2 ∨ k = 3 ∨ k = 72 → σ' 58 k = σ 58 k) (ea : σ' 58 42 = a) (eb : σ' 58 43 = b) (hc : σ' 58 68 = zpsh D 0 2) (hp : ∀ j : Nat, (j : Int) < zpsh D 0 2 → σ' 90 j = zpsh D 2 j ∧ σ' 91 j = zpsh D 3 j) : zMD σ' V (zset (zpsh D) a b) := by
  obtain ⟨⟨d1, d2, d3, d4, d5, d6, d7⟩, hw, hpp, ht, hwr⟩ := h
  obtain ⟨s1, s2, s3, s4⟩ := zset_v (zpsh D) a b
  refine ⟨⟨by rw [s1]; exact ea, by rw [s2]; exact eb, by rw [s3 2 (by decide) (by decide)]; exact hc, by rw [s3 3 (by decide) (by decide), zpsh_0 (by decide), r0 1 (by omega)]; exact d4, by rw [s3 4 (by decide) (by decide), zpsh_0 (by decide), r0 2 (by omega)]; exact d5, by rw [s3 5 (by decide) (by decide), zpsh_0 (by decide), r0 3 (by omega)]; exact d6, by rw [s3 6 (by decide) (by decide), zpsh_0 (by decide), r0 72 (by omega)]; exact d7⟩, ?_, ?_, ?_, ?_⟩
  · rw [r 83 (by omega), s4 1 (by decide), zpsh_r (by decide) (by decide) (by decide)]; exact hw
  · rw [s3 2 (by decide) (by decide), s4 2 (by decide), s4 3 (by decide)]; exact hp
  · rw [s3 3 (by decide) (by decide), zpsh_0 (by decide), r 59 (by omega), s4 4 (by decide), zpsh_r (by decide) (by decide) (by decide)]; exact ht
  · rw [s3 6 (by decide) (by decide), zpsh_0 (by decide), r 92 (by omega), s4 5 (by decide), zpsh_r (by decide) (by decide) (by decide)]; exact hwr
theorem s_M_bitsOf {v : Int} (hv : 0 ≤ v ∧ v < 256) (hX : X (some (iZ (zpp v))) σ) : MS G zm_M_bitsOf 0 [iZ v] σ X := by
  refine k_M_bitsOf ?_
  refine zLP2_ind (fun x1 x2 σ1 => σ1 = σ ∧ (0 ≤ x2 ∧ x2 ≤ v) ∧ x1 + zpp x2 = zpp v) (fun _ x2 _ => x2.toNat) ?_ ⟨rfl, by omega, by omega⟩
  rintro K x1 x2 σ1 ⟨hσ, h2, hx⟩ hK
  rw [hσ]
  refine ⟨by omega, fun q => ?_, fun q => ?_⟩
  · rw [q] at hx
    rw [show x1 = zpp v by rw [← hx]; unfold zpp; omega]; exact hX
  · rintro y1 rfl
    refine ⟨by omega, ?_⟩
    rintro y2 rfl
    refine hK _ _ _ ⟨rfl, by omega, ?_⟩ (by omega)
    rw [← hx]
    unfold zpp
    omega
theorem s_M_turned (h : zMI σ V D) (hX : X (some (iZ (D 0 0))) σ) : MS G zm_M_turned 0 [zr G 58] σ X := by
  refine k_M_turned ?_
  unfold w_M_turned
  rw [h.2.2.1.1.1]; exact hX
theorem s_M_state (h : zMI σ V D) (hX : X (some (iZ (D 0 1))) σ) : MS G zm_M_state 0 [zr G 58] σ X := by
  refine k_M_state ?_
  unfold w_M_state
  rw [h.2.2.1.1.2.1]; exact hX
theorem s_M_states (hV : zVd V) (h : zMV σ V) (hX : X (some (iZ (2 ^ (V 0 4).toNat))) σ) : MS G zm_M_states 0 [zr G 58] σ X := by
  have hb := h.1.1
  have hc := hV.2.1
  refine k_M_states ⟨by omega, ?_⟩
  rw [h.2.1.2.2.2.2.2.1, Int.one_mul]
  exact ⟨by omega, hX⟩
theorem s_M_turn (hB : zBD V D) (h : zMI σ V D) {m : Int} (hm : zI m) (hX : ∀ σ' x D', zTrn V D m x D' → zMI σ' V D' → zfA σ σ' → X (some (iZ x)) σ') : MS G zm_M_turn 2 [zr G 58, iZ m] σ X := by
  have hr := hB.r
  obtain ⟨d1, d2, d3, -⟩ := h.2.2.1.1
  have hc3 := hB.1.2.1
  refine k_M_turn (s_M_isMirror hB.1 h.1 hm (fun q1 q2 => Or.inr ⟨rfl, ?_⟩) (fun q => Or.inl ⟨rfl, hX σ _ _ (Or.inr ⟨q, rfl, rfl⟩) h zfA.rf⟩))
  rw [d1, d2]
  refine s_M_remembers hB d3 h.2.2.1.2.2.1 (fun σ1 F1 K1 c1 p1 => ⟨rfl, by omega, ?_⟩)
  rw [K1 42 (by decide), d1, Int.one_mul]
  have xr := zxor_r (n := 8) (m := m.toNat) (a := D 0 0) ⟨hr.1.1, hr.1.2⟩ (by omega)
  rw [show (2 : Int) ^ 8 = 256 from rfl] at xr
  refine ⟨⟨by omega, zpow_nn _⟩, ?_⟩
  rintro σ2 e2
  have e42 : σ2 58 42 = zxor (D 0 0) (2 ^ m.toNat) := by rw [e2, zupd_same]
  rw [e42]
  refine s_M_bitsOf xr ⟨_, rfl, ?_⟩
  have r2 : ∀ q, q ≠ 58 → q ≠ 90 → q ≠ 91 → σ2 q = σ q := fun q a b c => by rw [e2, zupd_row a, F1 q a b c]
  have k2 : ∀ k, k ≠ 42 → k ≠ 68 → σ2 58 k = σ 58 k := fun k a b => by rw [e2, zupd_nk a, K1 k b]
  refine hX σ2 _ _ (Or.inl ⟨⟨q1, q2⟩, rfl, rfl⟩) (h.dyn (fun q a b => r2 q (by omega) (by omega) (by omega)) (fun k hk => k2 k (by omega) (by omega)) (zMD_psh h.2.2.1 (fun q hq => r2 q (by omega) (by omega) (by omega)) (fun k hk => k2 k (by omega) (by omega)) e42 (by rw [k2 43 (by decide) (by decide)]; exact d2) (by rw [e2, zupd_nk (by decide)]; exact c1) (fun j hj => by rw [e2, zupd_row (by decide), zupd_row (by decide)]; exact p1 j hj))) (fun q hq => r2 q (by omega) (by omega) (by omega))
theorem s_M_set (hB : zBD V D) (h : zMI σ V D) {s : Int} (hs : zI s) (hX : ∀ σ' x D', zStt V D s x D' → zMI σ' V D' → zfA σ σ' → X (some (iZ x)) σ') : MS G zm_M_set 1 [zr G 58, iZ s] σ X := by
  have hr := hB.r
  obtain ⟨d1, d2, d3, -⟩ := h.2.2.1.1
  have h64 := (zNx_r hB.1 (tu := 0) (st := 0)).2.2
  have hpos : (0 : Int) < 2 ^ (V 0 4).toNat := Int.pow_pos (by decide)
  refine k_M_set (s_M_states hB.1 h.1 ⟨_, rfl, s_M_is hs (by decide) (by omega) (fun q1 q2 => Or.inr ⟨rfl, by omega, fun q => ?_, fun q => ?_⟩) (fun q => Or.inl ⟨rfl, hX σ _ _ (Or.inr ⟨by omega, rfl, rfl⟩) h zfA.rf⟩)⟩)
  · rintro σ1 e1
    have es : σ1 = σ := by
      rw [e1, q]; funext a k; unfold zupd; split
      · rename_i z; rw [z.1, z.2]
      · rfl
    rw [es]
    exact hX σ _ _ (Or.inl ⟨⟨q1, by omega⟩, by unfold zmv; rw [if_pos (by omega)], rfl⟩) h zfA.rf
  · rw [d1, d2]
    refine s_M_remembers hB d3 h.2.2.1.2.2.1 (fun σ1 F1 K1 c1 p1 => ⟨rfl, ?_⟩)
    rintro σ2 e2
    have r2 : ∀ q, q ≠ 58 → q ≠ 90 → q ≠ 91 → σ2 q = σ q := fun q a b c => by rw [e2, zupd_row a, F1 q a b c]
    have k2 : ∀ k, k ≠ 43 → k ≠ 68 → σ2 58 k = σ 58 k := fun k a b => by rw [e2, zupd_nk a, K1 k b]
    refine hX σ2 _ _ (Or.inl ⟨⟨q1, by omega⟩, by unfold zmv; rw [if_neg (by omega)], rfl⟩) (h.dyn (fun q a b => r2 q (by omega) (by omega) (by omega)) (fun k hk => k2 k (by omega) (by omega)) (zMD_psh h.2.2.1 (fun q hq => r2 q (by omega) (by omega) (by omega)) (fun k hk => k2 k (by omega) (by omega)) (by rw [k2 42 (by decide) (by decide)]; exact d1) (by rw [e2, zupd_same]) (by rw [e2, zupd_nk (by decide)]; exact c1) (fun j hj => by rw [e2, zupd_row (by decide), zupd_row (by decide)]; exact p1 j hj))) (fun q hq => r2 q (by omega) (by omega) (by omega))
theorem s_M_step (hB : zBD V D) (h : zMI σ V D) {n : Int} (hn : zI n) (hX : ∀ σ' x D', zStp V D n x D' → zMI σ' V D' → zfA σ σ' → X (some (iZ x)) σ') : MS G zm_M_step 6 [zr G 58, iZ n] σ X := by
  have hr := hB.r
  obtain ⟨d1, d2, d3, -⟩ := h.2.2.1.1
  have hor := zOr_r hB.1 (tu := D 0 0) (zOr_st hB)
  refine k_M_step (s_M_is hn (by decide) (by decide) (fun q1 q2 => Or.inr ⟨rfl, ?_⟩) (fun q => Or.inl ⟨rfl, hX σ _ _ (Or.inr ⟨q, rfl, rfl⟩) h zfA.rf⟩))
  rintro x2 e2
  rw [d2] at e2
  refine zLP2_ind (fun y2 x3 σ1 => y2 = D 0 1 ∧ ∃ i : Nat, x3 = (i : Int) ∧ (i : Int) ≤ n ∧ σ1 58 43 = zOr V (D 0 0) (D 0 1) i ∧ (∀ q, (q < 84 ∨ 89 < q) → q ≠ 58 → σ1 q = σ q) ∧ ∀ k, k ≠ 43 → k ≠ 55 → (k < 59 ∨ 65 < k) → σ1 58 k = σ 58 k) (fun _ x3 _ => (n - x3).toNat) ?_ ⟨e2, 0, rfl, q1, d2, fun _ _ _ => rfl, fun _ _ _ _ => rfl⟩
  rintro K y2 x3 σ1 ⟨rfl, i, rfl, hi, e43, F1, K1⟩ hK
  have hoi := hor i
  have M1 : zMV σ1 V := h.1.to (fun q a b => F1 q (by omega) (by omega)) (fun k hk => K1 k (by omega) (by omega) (by omega))
  unfold b_M_step_20
  rw [e43]
  refine ⟨by omega, fun hge => ?_, fun hlt => ?_⟩
  · have hie : i = n.toNat := by omega
    have hoi' := hoi
    rw [hie] at e43 hoi
    refine ⟨by omega, fun q => ?_, fun q => ?_⟩
    · refine hX σ1 _ _ (Or.inl ⟨⟨q1, q2⟩, by unfold zmv; rw [if_pos (by rw [← hie]; exact q)], by rw [hie]⟩) (h.W ⟨F1, fun k a b => ?_⟩) (fun q hq => F1 q (by omega) (by omega))
      by_cases z : k = 43
      · rw [z, e43, d2, ← hie]; exact q
      · exact K1 k z a b
    · rw [K1 42 (by decide) (by decide) (by decide), d1]
      refine s_M_remembers hB (by rw [K1 68 (by decide) (by decide) (by decide)]; exact d3) (by rw [F1 90 (by decide) (by decide), F1 91 (by decide) (by decide)]; exact h.2.2.1.2.2.1) (fun σ2 F2 K2 c2 p2 => ⟨rfl, ?_⟩)
      rw [K2 43 (by decide), e43]
      have r2 : ∀ q, (q < 84 ∨ 89 < q) → q ≠ 58 → q ≠ 90 → q ≠ 91 → σ2 q = σ q := fun q a b c d => by rw [F2 q b c d, F1 q a b]
      have k2 : ∀ k, k ≠ 43 → k ≠ 55 → (k < 59 ∨ 65 < k) → k ≠ 68 → σ2 58 k = σ 58 k := fun k a b c d => by rw [K2 k d, K1 k a b c]
      refine hX σ2 _ _ (Or.inl ⟨⟨q1, q2⟩, by unfold zmv; rw [if_neg (by rw [← hie]; exact q)], rfl⟩) (h.dyn (fun q a b => r2 q (by omega) (by omega) (by omega) (by omega)) (fun k hk => k2 k (by omega) (by omega) (by omega) (by omega)) (zMD_psh h.2.2.1 (fun q hq => r2 q (by omega) (by omega) (by omega) (by omega)) (fun k hk => k2 k (by omega) (by omega) (by omega) (by omega)) (by rw [k2 42 (by decide) (by decide) (by decide) (by decide)]; exact d1) (by rw [K2 43 (by decide)]; exact e43) c2 p2)) (fun q hq => r2 q (by omega) (by omega) (by omega) (by omega))
  · have e42 : σ1 58 42 = D 0 0 := by rw [K1 42 (by decide) (by decide) (by decide)]; exact d1
    refine s_M_stepped hB.1 hB.2.1 M1 (by rw [e42]; omega) (by rw [K1 56 (by decide) (by decide) (by decide)]; exact h.2.1.2.2.2.2.2) (by omega) (fun σ2 M2 F2 => ⟨_, rfl, ?_⟩)
    rw [e42]
    rintro σ3 e3
    refine hK _ _ _ ⟨rfl, i + 1, by omega, by omega, by rw [e3, zupd_same]; rfl, fun q a b => ?_, fun k a b c => ?_⟩ (by omega)
    · rw [e3, zupd_row b, F2.W.1 q a b, F1 q a b]
    · rw [e3, zupd_nk a, F2.W.2 k b c, K1 k a b c]
end ME
