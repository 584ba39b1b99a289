section MZ
variable {G : zG} {σ V D : zPH} {X : zX}
theorem s_M_behind (hB : zBD V D) (h : zMI σ V D) {e : Int} (he : zI e) (hX : ∀ σ' x, zBeh V D e x → zMI σ' V D → zfA σ σ' → X (some (iZ x)) σ') : MS G zm_M_behind 5 [zr G 58, iZ e] σ X := by
  have hc := hB.1.2.1
  obtain ⟨t1, t2, t3, t4⟩ := h.tu hB
  obtain ⟨d1, d2, -⟩ := h.2.2.1.1
  refine k_M_behind (s_M_isEye hB.1 h.1 he (fun q1 q2 => Or.inr ⟨rfl, ?_⟩) (fun q => Or.inl ⟨rfl, hX σ _ (Or.inr ⟨q, rfl⟩) h zfA.rf⟩))
  refine zLP2_ind (fun x2 x3 σ2 => ∃ i : Nat, x3 = (i : Int) ∧ (i : Int) ≤ V 0 2 ∧ zfX σ σ2 ∧ (∀ k, k = 42 ∨ k = 43 ∨ k = 45 ∨ k = 46 ∨ k = 49 ∨ k = 50 ∨ k = 51 → σ2 58 k = σ 58 k) ∧ zMV σ2 V ∧ 0 ≤ x2 ∧ ∀ l : Nat, zbt x2 l ↔ l < i ∧ zSe V (D 0 0) (D 0 1) (2 ^ l) 7 e.toNat ≠ 0) (fun _ x3 _ => (8 - x3).toNat) ?_ ⟨0, rfl, hc.1, zfX.rf, fun _ _ => rfl, h.1, by decide, fun l => ⟨fun z => absurd z zbt_0, fun z => by omega⟩⟩
  rintro K x2 x3 σ2 ⟨i, rfl, hi, F2, k2, M2, h0, hx⟩ hK
  have hb := M2.1.1
  unfold b_M_behind_14
  rw [M2.2.1.2.2.2.1]
  refine ⟨by omega, by omega, fun hge => ?_, fun hlt => ?_⟩
  · rintro σ3 e3
    refine hX σ3 _ (Or.inl ⟨⟨q1, q2⟩, h0, fun l => ?_⟩) (h.back hB (F2.u e3 (by decide)) fun k hk => ?_) (F2.u e3 (by decide)).A
    · rw [hx]
      exact ⟨fun z => ⟨by omega, z.2⟩, fun z => ⟨by omega, z.2⟩⟩
    · by_cases y : k = 56
      · rw [y, e3, zupd_same]; exact t4.symm
      · rw [e3, zupd_nk y]; exact k2 k (by omega)
  · rintro σ3 e3
    have k3 : ∀ k, k ≠ 56 → σ3 58 k = σ2 58 k := fun k a => by rw [e3, zupd_nk a]
    have M3 : zMV σ3 V := M2.to (fun q a b => by rw [e3, zupd_row (by omega)]) (fun k hk => k3 k (by omega))
    have e42 : σ3 58 42 = D 0 0 := by rw [k3 42 (by decide), k2 42 (by omega)]; exact d1
    have e43 : σ3 58 43 = D 0 1 := by rw [k3 43 (by decide), k2 43 (by omega)]; exact d2
    rw [e43]
    refine s_M_shines hB.1 M3 (by rw [e42, ← d1]; exact t1) (by rw [← d2]; exact ⟨t3, t2.1⟩) (la := 2 ^ i) (Or.inr ⟨i, by omega, by rw [e3, zupd_same], rfl⟩) (fun σ4 M4 F4 L4 => ⟨rfl, ?_⟩)
    rw [e42] at L4
    refine s_M_seen hB.1 M4 L4 (e := e.toNat) (by omega) (by omega) ⟨_, rfl, ?_⟩
    have s8 := zSe_8 (V := V) (tu := D 0 0) (st := D 0 1) (la := 2 ^ i) (co := 7) (e := e.toNat)
    have F4' : zfX σ σ4 := (F2.u e3 (by decide)).trans F4.W.X
    have k4 : ∀ k, k = 42 ∨ k = 43 ∨ k = 45 ∨ k = 46 ∨ k = 49 ∨ k = 50 ∨ k = 51 → σ4 58 k = σ 58 k := fun k hk => by rw [F4.2 k (by omega), k3 k (by omega), k2 k hk]
    refine ⟨by omega, fun z => ⟨⟨h0, by decide⟩, ?_⟩, fun z => ⟨by omega, ⟨h0, by rw [Int.one_mul]; exact zpow_nn _⟩, ?_⟩⟩
    · rintro y ey
      refine hK _ _ _ ⟨i + 1, by omega, by omega, F4', k4, M4, by rw [ey]; exact zor_nn _ _, fun l => ?_⟩ (by omega)
      rw [ey, zor_0 h0, hx]
      exact ⟨fun y => ⟨by omega, y.2⟩, fun y => ⟨by rcases (show l < i ∨ l = i by omega) with u | rfl; exact u; exact absurd z y.2, y.2⟩⟩
    · rintro y ey
      refine hK _ _ _ ⟨i + 1, by omega, by omega, F4', k4, M4, by rw [ey]; exact zor_nn _ _, fun l => ?_⟩ (by omega)
      rw [ey, Int.one_mul, zbt_or, hx, zbt_pow, Int.toNat_natCast]
      constructor
      · rintro (y | rfl)
        · exact ⟨by omega, y.2⟩
        · exact ⟨by omega, z⟩
      · rintro ⟨y1, y2⟩
        rcases (show l < i ∨ l = i by omega) with u | rfl
        · exact Or.inl ⟨u, y2⟩
        · exact Or.inr rfl
theorem s_M_octet (hB : zBD V D) (h : zMI σ V D) {k : Int} (hk : zI k) (hX : ∀ x, zOct D k x → X (some (iZ x)) σ) : MS G zm_M_octet 0 [zr G 58, iZ k] σ X := by
  obtain ⟨⟨d1, d2, d3, d4, d5, d6, d7⟩, -, -, -, im⟩ := h.2.2.1
  have h6 := hB.2.2.2.2.2.2.2.1
  refine k_M_octet ⟨hk, fun q => hX _ (Or.inr ⟨by omega, rfl⟩), fun q => ⟨⟨hk, by omega⟩, fun q2 => hX _ (Or.inr ⟨by omega, rfl⟩), fun q2 => ⟨by omega, hX _ (Or.inl ⟨by omega, im k.toNat (by omega)⟩)⟩⟩⟩
/-- the tape grows -/
theorem zpb_M {σ1 σ2 : zPH} {x : Int} (hB : zBD V D) (h : zMI σ V D) (hl : D 0 3 < 1600) (e1 : σ1 = zupd σ 59 (σ 58 1).toNat x) (e2 : σ2 = zupd σ1 58 1 (σ1 58 1 + 1)) : zMI σ2 V (zpb D x) ∧ zfA σ σ2 := by
  obtain ⟨v1, v2, v3, v4⟩ := zpb_v D x
  obtain ⟨⟨d1, d2, d3, d4, d5, d6, d7⟩, w, p1, tp, im⟩ := id h.2.2.1
  have r : ∀ q, q ≠ 58 → q ≠ 59 → σ2 q = σ q := fun q h1 h2 => by rw [e2, zupd_row h1, e1, zupd_row h2]
  have r0 : ∀ k, k ≠ 1 → σ2 58 k = σ 58 k := fun k h1 => by rw [e2, zupd_nk h1, e1, zupd_row (by decide)]
  have e01 : σ1 58 1 = D 0 3 := by rw [e1, zupd_row (by decide)]; exact d4
  have h3 := hB.2.2.2.2.2.1
  refine ⟨h.dyn (fun q a b => r q (by omega) (by omega)) (fun k hk => r0 k (by omega)) ⟨⟨by rw [v2 0 (by decide), r0 42 (by decide)]; exact d1, by rw [v2 1 (by decide), r0 43 (by decide)]; exact d2, by rw [v2 2 (by decide), r0 68 (by decide)]; exact d3, by rw [v1, e2, zupd_same, e01], by rw [v2 4 (by decide), r0 2 (by decide)]; exact d5, by rw [v2 5 (by decide), r0 3 (by decide)]; exact d6, by rw [v2 6 (by decide), r0 72 (by decide)]; exact d7⟩, ?_, ?_, fun j hj => ?_, ?_⟩, fun q hq => r q (by omega) (by omega)⟩
  · rw [r 83 (by decide) (by decide), v3 1 (by decide) (by decide)]; exact w
  · rw [v2 2 (by decide), v3 2 (by decide) (by decide), v3 3 (by decide) (by decide), r 90 (by decide) (by decide), r 91 (by decide) (by decide)]; exact p1
  · rw [v1] at hj
    rw [v4, e2, zupd_row (by decide), e1, d4]
    split
    · rename_i q; rw [q, zupd_same]
    · rename_i q; rw [zupd_nk q]; exact tp j (by omega)
  · rw [v2 6 (by decide), v3 5 (by decide) (by decide), r 92 (by decide) (by decide)]; exact im
theorem s_M_put (hB : zBD V D) (h : zMI σ V D) {a : Int} (ha : zI a) (hl : D 0 3 + 4 ≤ 1600) (hX : ∀ σ', zMI σ' V (zpk D a 4) → zfA σ σ' → X none σ') : MS G zm_M_put 0 [zr G 58, iZ a] σ X := by
  have h3 := hB.2.2.2.2.2.1
  refine k_M_put ?_
  refine zLP1_ind (fun x2 σ2 => ∃ i : Nat, i ≤ 4 ∧ x2 = 24 - 8 * (i : Int) ∧ zMI σ2 V (zpk D a i) ∧ zfA σ σ2) (fun x2 _ => (x2 + 8).toNat) ?_ ⟨0, by decide, rfl, h, zfA.rf⟩
  rintro K x2 σ2 ⟨i, hi, rfl, c2, f2⟩ hK
  obtain ⟨b2, e2⟩ := zpk_D (a := a) hB i (by omega)
  refine ⟨by omega, fun q => ?_, fun q => ?_⟩
  · have : i = 4 := by omega
    subst this
    exact hX σ2 c2 f2
  · have d4 := c2.2.2.1.1.2.2.2.1
    rw [e2] at d4
    rw [d4]
    refine ⟨⟨ha, by omega, by omega⟩, by omega, ?_⟩
    rintro σ32 e32 σ40 e40
    rw [← d4] at e32
    obtain ⟨c3, f3⟩ := zpb_M (x := a / 2 ^ (24 - 8 * i) % 256) b2 c2 (by rw [e2]; omega) (by rw [e32]; rw [show (24 - 8 * (i : Int)).toNat = 24 - 8 * i by omega]) e40
    exact hK _ _ ⟨i + 1, by omega, by omega, c3, f2.trans f3⟩ (by omega)
theorem s_M_feed (hB : zBD V D) (h : zMI σ V D) {a b c d e : Int} (ha : zI a) (hb : zI b) (hc : zI c) (hd : zI d) (he : zI e) (hX : ∀ σ' x D', zFee D a b c d e x D' → zMI σ' V D' → zfA σ σ' → X (some (iZ x)) σ') : MS G zm_M_feed 1 [zr G 58, iZ a, iZ b, iZ c, iZ d, iZ e] σ X := by
  have h3 := hB.2.2.2.2.2.1
  have d4 := h.2.2.1.1.2.2.2.1
  refine k_M_feed ⟨by omega, fun q => ?_, fun q => hX σ _ _ (Or.inr ⟨by omega, rfl, rfl⟩) h zfA.rf⟩
  obtain ⟨b1, e1⟩ := zpk_D (a := a) hB 4 (by omega)
  obtain ⟨b2, e2⟩ := zpk_D (a := b) b1 4 (by omega)
  obtain ⟨b3, e3⟩ := zpk_D (a := c) b2 4 (by omega)
  obtain ⟨b4, e4⟩ := zpk_D (a := d) b3 4 (by omega)
  obtain ⟨b5, e5⟩ := zpk_D (a := e) b4 4 (by omega)
  refine s_M_put hB h ha (by omega) (fun σ1 c1 f1 => ⟨rfl, ?_⟩)
  refine s_M_put b1 c1 hb (by omega) (fun σ2 c2 f2 => ⟨rfl, ?_⟩)
  refine s_M_put b2 c2 hc (by omega) (fun σ3 c3 f3 => ⟨rfl, ?_⟩)
  refine s_M_put b3 c3 hd (by omega) (fun σ4 c4 f4 => ⟨rfl, ?_⟩)
  refine s_M_put b4 c4 he (by omega) (fun σ5 c5 f5 => ⟨rfl, ?_⟩)
  rw [c5.2.2.1.1.2.2.2.1, e5, e4, e3, e2, e1]
  exact hX σ5 _ _ (Or.inl ⟨by omega, rfl, by omega⟩) c5 ((((f1.trans f2).trans f3).trans f4).trans f5)
theorem zlen_M {σ1 : zPH} {n : Int} (h : zMI σ V D) (hn : n ≤ D 0 3) (e1 : σ1 = zupd σ 58 1 n) : zMI σ1 V (zupd D 0 3 n) ∧ zfA σ σ1 := by
  obtain ⟨⟨d1, d2, d3, d4, d5, d6, d7⟩, w, p1, tp, im⟩ := id h.2.2.1
  have k0 : ∀ k, k ≠ 3 → zupd D 0 3 n 0 k = D 0 k := fun k hk => zupd_nk hk
  have rr : ∀ r, r ≠ 0 → zupd D 0 3 n r = D r := fun r hr => zupd_row hr
  have r : ∀ q, q ≠ 58 → σ1 q = σ q := fun q h1 => by rw [e1, zupd_row h1]
  have r0 : ∀ k, k ≠ 1 → σ1 58 k = σ 58 k := fun k h1 => by rw [e1, zupd_nk h1]
  refine ⟨h.dyn (fun q a b => r q (by omega)) (fun k hk => r0 k (by omega)) ⟨⟨by rw [k0 0 (by decide), r0 42 (by decide)]; exact d1, by rw [k0 1 (by decide), r0 43 (by decide)]; exact d2, by rw [k0 2 (by decide), r0 68 (by decide)]; exact d3, by rw [zupd_same, e1, zupd_same], by rw [k0 4 (by decide), r0 2 (by decide)]; exact d5, by rw [k0 5 (by decide), r0 3 (by decide)]; exact d6, by rw [k0 6 (by decide), r0 72 (by decide)]; exact d7⟩, ?_, ?_, fun j hj => ?_, ?_⟩, fun q hq => r q (by omega)⟩
  · rw [rr 1 (by decide), r 83 (by decide)]; exact w
  · rw [k0 2 (by decide), rr 2 (by decide), rr 3 (by decide), r 90 (by decide), r 91 (by decide)]; exact p1
  · rw [zupd_same] at hj
    rw [rr 4 (by decide), r 59 (by decide)]; exact tp j (by omega)
  · rw [k0 6 (by decide), rr 5 (by decide), r 92 (by decide)]; exact im
theorem s_M_end (hB : zBD V D) (h : zMI σ V D) {n : Int} (hn : zI n) (hX : ∀ σ' x D', zEnf D n x D' → zMI σ' V D' → zfA σ σ' → X (some (iZ x)) σ') : MS G zm_M_end 0 [zr G 58, iZ n] σ X := by
  have h3 := hB.2.2.2.2.2.1
  have d4 := h.2.2.1.1.2.2.2.1
  refine k_M_end ⟨hn, fun q => hX σ _ _ (Or.inr ⟨by omega, rfl, rfl⟩) h zfA.rf, fun q => ⟨⟨hn, by omega⟩, fun q2 => ?_, fun q2 => hX σ _ _ (Or.inr ⟨by omega, rfl, rfl⟩) h zfA.rf⟩⟩
  rintro σ1 e1
  obtain ⟨c1, f1⟩ := zlen_M h (by omega) e1
  exact hX σ1 _ _ (Or.inl ⟨by omega, rfl, rfl⟩) c1 f1
theorem s_M_writes {v : Int} {n : Nat} (hn : σ 58 72 = (n : Int)) (h16 : n < 16) (hX : ∀ σ', (∀ q, q ≠ 58 → q ≠ 92 → σ' q = σ q) → (∀ k, k ≠ 72 → σ' 58 k = σ 58 k) → σ' 58 72 = ((n + 1 : Nat) : Int) → (∀ k, σ' 92 k = if k = n then v else σ 92 k) → X none σ') : MS G zm_M_writes 0 [zr G 58, iZ v] σ X := by
  refine k_M_writes ?_
  unfold w_M_writes
  rw [hn, Int.toNat_natCast]
  refine ⟨by omega, ?_⟩
  rintro σ1 e1 σ2 e2
  refine hX σ2 (fun q a b => by rw [e2, zupd_row a, e1, zupd_row b]) (fun k a => by rw [e2, zupd_nk a, e1, zupd_row (by decide)]) ?_ (fun k => ?_)
  · rw [e2, zupd_same, e1, zupd_row (by decide), hn]; omega
  · rw [e2, zupd_row (by decide), e1]
    split
    · rename_i z; rw [z, zupd_same]
    · rename_i z; rw [zupd_nk z]
theorem s_M_image (hB : zBD V D) (h : zMI σ V D) (hX : ∀ σ' x D', zIma V D x D' → zMI σ' V D' → zfA σ σ' → X (some (iZ x)) σ') : MS G zm_M_image 1 [zr G 58] σ X := by
  have hrr := hB.r
  have hc := hB.1.2.1
  have w7 := hB.2.2.2.2.2.2.2.2.1
  obtain ⟨⟨d1, d2, d3, d4, d5, d6, d7⟩, w, p1, tp, im⟩ := id h.2.2.1
  have hb := h.1.1.1
  obtain ⟨e60, e61, e62, e63, e64, e65, e66⟩ := h.1.2.1
  refine k_M_image ?_
  rintro σ0 y0
  have F0 : ∀ q, q ≠ 58 → q ≠ 92 → σ0 q = σ q := fun q a b => by rw [y0, zupd_row a]
  have K0 : ∀ k, k ≠ 72 → σ0 58 k = σ 58 k := fun k a => by rw [y0, zupd_nk a]
  have c0 : σ0 58 72 = ((0 : Nat) : Int) := by rw [y0, zupd_same]; rfl
  rw [K0 13 (by decide)]
  refine ⟨by omega, ?_⟩
  rw [F0 64 (by decide) (by decide), e64]
  refine s_M_writes c0 (by decide) (fun σ1 F1 K1 c1 v1 => ⟨rfl, ?_⟩)
  rw [K1 13 (by decide), K0 13 (by decide)]
  refine ⟨by omega, ?_⟩
  rw [F1 65 (by decide) (by decide), F0 65 (by decide) (by decide), e65]
  refine s_M_writes c1 (by decide) (fun σ2 F2 K2 c2 v2 => ⟨rfl, ?_⟩)
  rw [K2 13 (by decide), K1 13 (by decide), K0 13 (by decide)]
  refine ⟨by omega, ?_⟩
  rw [F2 66 (by decide) (by decide), F1 66 (by decide) (by decide), F0 66 (by decide) (by decide), e66]
  refine s_M_writes c2 (by decide) (fun σ3 F3 K3 c3 v3 => ⟨rfl, ?_⟩)
  rw [K3 42 (by decide), K2 42 (by decide), K1 42 (by decide), K0 42 (by decide), d1]
  refine s_M_writes c3 (by decide) (fun σ4 F4 K4 c4 v4 => ⟨rfl, ?_⟩)
  rw [K4 43 (by decide), K3 43 (by decide), K2 43 (by decide), K1 43 (by decide), K0 43 (by decide), d2]
  refine s_M_writes c4 (by decide) (fun σ5 F5 K5 c5 v5 => ⟨rfl, ?_⟩)
  have F5' : ∀ q, q ≠ 58 → q ≠ 92 → σ5 q = σ q := fun q a b => by rw [F5 q a b, F4 q a b, F3 q a b, F2 q a b, F1 q a b, F0 q a b]
  have K5' : ∀ k, k ≠ 72 → σ5 58 k = σ 58 k := fun k a => by rw [K5 k a, K4 k a, K3 k a, K2 k a, K1 k a, K0 k a]
  have g5 : ∀ k : Nat, k < 5 → σ5 92 k = zim0 V D k := by
    intro k hk
    have cs : k = 0 ∨ k = 1 ∨ k = 2 ∨ k = 3 ∨ k = 4 := by omega
    rcases cs with rfl | rfl | rfl | rfl | rfl
    · rw [v5, if_neg (by decide), v4, if_neg (by decide), v3, if_neg (by decide), v2, if_neg (by decide), v1, if_pos rfl]; rfl
    · rw [v5, if_neg (by decide), v4, if_neg (by decide), v3, if_neg (by decide), v2, if_pos rfl]; rfl
    · rw [v5, if_neg (by decide), v4, if_neg (by decide), v3, if_pos rfl]; rfl
    · rw [v5, if_neg (by decide), v4, if_pos rfl]; rfl
    · rw [v5, if_pos rfl]; rfl
  refine zLP1_ind (fun x1 σ6 => ∃ i : Nat, x1 = (i : Int) ∧ (i : Int) ≤ V 0 5 ∧ (∀ q, q ≠ 58 → q ≠ 92 → σ6 q = σ q) ∧ (∀ k, k ≠ 72 → σ6 58 k = σ 58 k) ∧ σ6 58 72 = ((5 + i : Nat) : Int) ∧ ∀ k : Nat, k < 5 + i → σ6 92 k = zim0 V D k) (fun x1 _ => (8 - x1).toNat) ?_ ⟨0, rfl, hc.2.2.2.2.2.2.1, F5', K5', c5, g5⟩
  rintro K x1 σ6 ⟨i, rfl, hi, F6, K6, c6, g6⟩ hK
  unfold b_M_image_62
  rw [K6 13 (by decide), F6 66 (by decide) (by decide), e66]
  refine ⟨by omega, by omega, fun hge => ?_, fun hlt => ⟨by omega, ?_⟩⟩
  · have hie : (i : Int) = V 0 5 := by omega
    clear hK
    have r8 : ∀ k, k < 5 + i → 0 ≤ zim0 V D k ∧ zim0 V D k < 256 := fun k hk => by
      unfold zim0
      have := w7 (k - 5)
      split
      · omega
      · split
        · omega
        · split
          · omega
          · split
            · omega
            · split <;> omega
    refine zLP2_ind (fun y1 y2 σ7 => σ7 = σ6 ∧ ∃ j : Nat, y2 = (j : Int) ∧ j ≤ 5 + i ∧ y1 = zck (zim0 V D) j) (fun _ y2 _ => (16 - y2).toNat) ?_ ⟨rfl, 0, rfl, by omega, rfl⟩
    rintro K y1 y2 σ7 ⟨hσ, j, rfl, hj, rfl⟩ hK
    rw [hσ]
    have ck := zck_r (zim0 V D) j
    unfold b_M_image_96
    rw [c6]
    refine ⟨by omega, fun hge2 => ?_, fun hlt2 => ?_⟩
    · have hj5 : j = 5 + i := by omega
      refine s_M_writes c6 (by omega) (fun σ8 F8 K8 c8 v8 => ⟨rfl, ?_⟩)
      rw [c8]
      obtain ⟨v1', v2', v3', v4'⟩ := zimg_v V D
      have F8' : ∀ q, q ≠ 58 → q ≠ 92 → σ8 q = σ q := fun q a b => by rw [F8 q a b, F6 q a b]
      have K8' : ∀ k, k ≠ 72 → σ8 58 k = σ 58 k := fun k a => by rw [K8 k a, K6 k a]
      refine hX σ8 _ _ ⟨rfl, by omega⟩ (h.dyn (fun q a b => F8' q (by omega) (by omega)) (fun k hk => K8' k (by omega)) ?_) (fun q hq => F8' q (by omega) (by omega))
      refine ⟨⟨by rw [v2' 0 (by decide), K8' 42 (by decide)]; exact d1, by rw [v2' 1 (by decide), K8' 43 (by decide)]; exact d2, by rw [v2' 2 (by decide), K8' 68 (by decide)]; exact d3, by rw [v2' 3 (by decide), K8' 1 (by decide)]; exact d4, by rw [v2' 4 (by decide), K8' 2 (by decide)]; exact d5, by rw [v2' 5 (by decide), K8' 3 (by decide)]; exact d6, by rw [v1', c8]; omega⟩, ?_, ?_, ?_, fun k hk => ?_⟩
      · rw [v3' 1 (by decide) (by decide), F8' 83 (by decide) (by decide)]; exact w
      · rw [v2' 2 (by decide), v3' 2 (by decide) (by decide), v3' 3 (by decide) (by decide), F8' 90 (by decide) (by decide), F8' 91 (by decide) (by decide)]; exact p1
      · rw [v2' 3 (by decide), v3' 4 (by decide) (by decide), F8' 59 (by decide) (by decide)]; exact tp
      · rw [v1'] at hk
        rw [v4', v8]
        unfold zimb
        by_cases z : (k : Int) = 5 + V 0 5
        · rw [if_pos z, if_pos (by omega), show k = j by omega]
        · rw [if_neg z, if_neg (by omega)]; exact g6 k (by omega)
    · rw [Int.toNat_natCast, g6 j (by omega)]
      have := r8 j (by omega)
      refine ⟨by omega, by omega, ?_⟩
      rintro y1' rfl
      exact hK _ _ _ ⟨rfl, j + 1, by omega, by omega, rfl⟩ (by omega)
  · rw [Int.toNat_natCast, F6 83 (by decide) (by decide), w i hlt]
    refine s_M_writes c6 (by omega) (fun σ7 F7 K7 c7 v7 => ⟨rfl, ?_⟩)
    refine hK _ _ ⟨i + 1, by omega, by omega, fun q a b => by rw [F7 q a b, F6 q a b], fun k a => by rw [K7 k a, K6 k a], by rw [c7]; rfl, fun k hk => ?_⟩ (by omega)
    rw [v7]
    by_cases z : k = 5 + i
    · rw [if_pos z, z]
      unfold zim0
      rw [if_neg (by omega), if_neg (by omega), if_neg (by omega), if_neg (by omega), if_neg (by omega), show 5 + i - 5 = i by omega]
    · rw [if_neg z]; exact g6 k (by omega)
theorem s_M_isImage (hB : zBD V D) (h : zMV σ V) {n : Int} (hn : 0 ≤ n ∧ n ≤ 1600) (ht : ∀ j : Nat, (j : Int) < n → σ 59 j = D 4 j) (h1 : zIsI V (zupd D 0 3 n) → X (some (iZ 1)) σ) (h0 : ¬ zIsI V (zupd D 0 3 n) → X (some (iZ 0)) σ) : MS G zm_M_isImage 1 [zr G 58, iZ n] σ X := by
  have hc := hB.1.2.1
  have hb := h.1.1
  obtain ⟨e60, e61, e62, e63, e64, e65, e66⟩ := h.2.1
  have tb := hB.2.2.2.2.2.2.2.2.2.2
  have p3 := zpow_le (show (V 0 3).toNat ≤ 8 by omega)
  have p4 := zpow_le (show (V 0 4).toNat ≤ 8 by omega)
  rw [show (2 : Int) ^ 8 = 256 from rfl] at p3 p4
  have n3 := zpow_nn (V 0 3).toNat
  have n4 := zpow_nn (V 0 4).toNat
  have e03 : zupd D 0 3 n 0 3 = n := by rw [zupd_same]
  have e04 : zupd D 0 3 n 4 = D 4 := zupd_row (by decide)
  unfold zIsI at h1 h0
  rw [e03, e04] at h1 h0
  refine k_M_isImage ?_
  unfold w_M_isImage
  rw [e64, e65, e66, Int.one_mul]
  refine ⟨by omega, by omega, fun q1 => h0 (fun z => q1 (by omega)), fun q1 => ?_⟩
  have t0 := ht 0 (by omega)
  have t1 := ht 1 (by omega)
  have t2 := ht 2 (by omega)
  have t3 := ht 3 (by omega)
  have t4 := ht 4 (by omega)
  have b0 := tb 0
  have b1 := tb 1
  have b2 := tb 2
  have b3 := tb 3
  have b4 := tb 4
  rw [t0, t1, t2, t3, t4]
  refine ⟨by omega, by omega, fun q2 => h0 (fun z => q2 z.2.1.1), fun q2 => ⟨by omega, by omega, fun q3 => h0 (fun z => q3 z.2.1.2.1), fun q3 => ⟨by omega, by omega, fun q4 => ⟨by omega, by omega, by omega, fun q5 => h0 (fun z => by have := z.2.2.1.1; omega), fun q5 => ?_⟩, fun q4 => h0 (fun z => q4 z.2.1.2.2)⟩⟩⟩
  refine s_M_states hB.1 h ⟨_, rfl, by omega, fun q6 => ?_, fun q6 => h0 (fun z => by have := z.2.2.1.2; omega)⟩
  refine zLP1_ind (fun y2 σ6 => ∃ i : Nat, y2 = (i : Int) ∧ (i : Int) ≤ V 0 5 ∧ σ6 = σ ∧ ∀ k : Nat, k < i → D 4 (5 + k) ≤ 2) (fun y2 _ => (8 - y2).toNat) ?_ ⟨0, rfl, hc.2.2.2.2.2.2.1, rfl, fun k hk => by omega⟩
  rintro K y2 σ6 ⟨i, rfl, hi, hσ, g6⟩ hK
  rw [hσ]
  unfold b_M_isImage_109
  rw [e66]
  refine ⟨by omega, by omega, fun hge => ?_, fun hlt => ⟨by omega, ?_⟩⟩
  · clear hK
    refine zLP2_ind (fun y1 y2 σ7 => σ7 = σ ∧ ∃ j : Nat, y2 = (j : Int) ∧ j ≤ 5 + i ∧ y1 = zck (D 4) j) (fun _ y2 _ => (16 - y2).toNat) ?_ ⟨rfl, 0, rfl, by omega, rfl⟩
    rintro K y1 y2 σ7 ⟨hσ, j, rfl, hj, rfl⟩ hK
    rw [hσ]
    have ck := zck_r (D 4) j
    refine ⟨by omega, fun hge2 => ?_, fun hlt2 => ⟨by omega, ?_⟩⟩
    · rw [show (n - 1).toNat = 5 + (V 0 5).toNat by omega, ht _ (by omega), show j = 5 + (V 0 5).toNat by omega]
      have bl := tb (5 + (V 0 5).toNat)
      have ck2 := zck_r (D 4) (5 + (V 0 5).toNat)
      exact ⟨by omega, by omega, fun q8 => h0 (fun z => q8 z.2.2.2.2), fun q8 => h1 ⟨by omega, ⟨q2, q3, q4⟩, ⟨by omega, by omega⟩, fun k hk => g6 k (by omega), q8⟩⟩
    · rw [Int.toNat_natCast, ht j (by omega)]
      have bj := tb j
      refine ⟨by omega, ?_⟩
      rintro y1' rfl
      exact hK _ _ _ ⟨rfl, j + 1, by omega, by omega, rfl⟩ (by omega)
  · rw [show (5 + (i : Int)).toNat = 5 + i by omega, ht _ (by omega)]
    have bi := tb (5 + i)
    refine ⟨by omega, fun q8 => hK _ _ ⟨i + 1, by omega, by omega, rfl, fun k hk => ?_⟩ (by omega), fun q8 => h0 (fun z => by have := z.2.2.2.1 i hlt; omega)⟩
    rcases (show k < i ∨ k = i by omega) with z | rfl
    · exact g6 k z
    · exact q8
theorem s_M_on (hB : zBD V D) (h : zMI σ V D) (hX : ∀ σ' x D', zOnn V D x D' → zMI σ' V D' → zfA σ σ' → X (some (iZ x)) σ') : MS G zm_M_on 2 [zr G 58] σ X := by
  have h3 := hB.2.2.2.2.2.1
  have hc := hB.1.2.1
  obtain ⟨⟨d1, d2, d3, d4, d5, d6, d7⟩, w, p1, tp, im⟩ := id h.2.2.1
  refine k_M_on ?_
  rintro x1 e1 σ7 e7
  rw [d4] at e1
  subst e1
  obtain ⟨M7, F7⟩ := zlen_M h h3.1 e7
  have r7 : ∀ q, q ≠ 58 → σ7 q = σ q := fun q h1 => by rw [e7, zupd_row h1]
  have hsame : zupd D 0 3 (D 0 3) = D := by
    funext a k; unfold zupd; split
    · rename_i z; rw [z.1, z.2]
    · rfl
  refine s_M_isImage hB M7.1 h3 (fun j hj => by rw [r7 59 (by decide)]; exact tp j hj) (fun hi => Or.inr ⟨rfl, ?_⟩) (fun hi => Or.inl ⟨rfl, hX σ7 _ _ (Or.inr ⟨by rw [hsame] at hi; exact hi, rfl, rfl⟩) M7 F7⟩)
  rw [hsame] at hi
  have hlen := hi.1
  rintro σ27 e27 σ37 e37
  have r37 : ∀ q, q ≠ 58 → σ37 q = σ q := fun q hq => by rw [e37, zupd_row hq, e27, zupd_row hq, r7 q hq]
  have k37 : ∀ k, k ≠ 1 → k ≠ 42 → k ≠ 43 → σ37 58 k = σ 58 k := fun k a b c => by rw [e37, zupd_nk c, e27, zupd_nk b, e7, zupd_nk a]
  have a42 : σ37 58 42 = D 4 3 := by rw [e37, zupd_nk (by decide), e27, zupd_same, r7 59 (by decide)]; exact tp 3 (by omega)
  have a43 : σ37 58 43 = D 4 4 := by rw [e37, zupd_same, e27, zupd_row (by decide), r7 59 (by decide)]; exact tp 4 (by omega)
  have a1 : σ37 58 1 = 0 := by rw [e37, zupd_nk (by decide), e27, zupd_nk (by decide), e7, zupd_same]
  refine zLP1_ind (fun x2 σ2 => ∃ i : Nat, x2 = (i : Int) ∧ (i : Int) ≤ V 0 5 ∧ (∀ q, q ≠ 83 → σ2 q = σ37 q) ∧ ∀ e : Nat, e < i → σ2 83 e = D 4 (5 + e)) (fun x2 _ => (8 - x2).toNat) ?_ ⟨0, rfl, hc.2.2.2.2.2.2.1, fun _ _ => rfl, fun e he => by omega⟩
  rintro K x2 σ2 ⟨i, rfl, hi5, F2, g2⟩ hK
  have hb := h.1.1.1
  unfold b_M_on_42
  rw [F2 58 (by decide), F2 66 (by decide), r37 66 (by decide), k37 13 (by decide) (by decide) (by decide), h.1.2.1.2.2.2.2.2.2]
  refine ⟨by omega, by omega, fun hge => ?_, fun hlt => ⟨by omega, by omega, ?_⟩⟩
  · rintro σ3 e3
    have k3 : ∀ k, k ≠ 68 → σ3 58 k = σ37 58 k := fun k a => by rw [e3, zupd_nk a, F2 58 (by decide)]
    have r3 : ∀ q, q ≠ 58 → q ≠ 83 → σ3 q = σ q := fun q a b => by rw [e3, zupd_row a, F2 q b, r37 q a]
    obtain ⟨i1, i2, i3, i4, i5, i6⟩ := zonk_v D (V 0 5).toNat
    have z0 : ∀ k, k ≠ 2 → zonD V D 0 k = zonk D (V 0 5).toNat 0 k := fun k hk => zupd_nk hk
    have zr : ∀ r, r ≠ 0 → zonD V D r = zonk D (V 0 5).toNat r := fun r hr => zupd_row hr
    have z2 : zonD V D 0 2 = 0 := by unfold zonD; rw [zupd_same]
    refine hX σ3 _ _ (Or.inl ⟨hi, rfl, rfl⟩) (h.dyn (fun q a b => r3 q (by omega) (by omega)) (fun k hk => by rw [k3 k (by omega), k37 k (by omega) (by omega) (by omega)]) ?_) (fun q hq => r3 q (by omega) (by omega))
    refine ⟨⟨by rw [z0 0 (by decide), i1, k3 42 (by decide)]; exact a42, by rw [z0 1 (by decide), i2, k3 43 (by decide)]; exact a43, by rw [z2, e3, zupd_same], by rw [z0 3 (by decide), i3, k3 1 (by decide)]; exact a1, by rw [z0 4 (by decide), i4 4 (by decide) (by decide) (by decide), k3 2 (by decide), k37 2 (by decide) (by decide) (by decide)]; exact d5, by rw [z0 5 (by decide), i4 5 (by decide) (by decide) (by decide), k3 3 (by decide), k37 3 (by decide) (by decide) (by decide)]; exact d6, by rw [z0 6 (by decide), i4 6 (by decide) (by decide) (by decide), k3 72 (by decide), k37 72 (by decide) (by decide) (by decide)]; exact d7⟩, fun e he => ?_, fun j hj => by rw [z2] at hj; omega, fun j hj => by rw [z0 3 (by decide), i3] at hj; omega, ?_⟩
    · rw [zr 1 (by decide), i5, if_pos (by omega), e3, zupd_row (by decide)]
      exact g2 e (by omega)
    · rw [z0 6 (by decide), i4 6 (by decide) (by decide) (by decide), zr 5 (by decide), i6 5 (by decide) (by decide), r3 92 (by decide) (by decide)]; exact im
  · rw [show (5 + (i : Int)).toNat = 5 + i by omega, Int.toNat_natCast, F2 59 (by decide), r37 59 (by decide), tp (5 + i) (by omega)]
    rintro σ3 e3
    refine hK _ _ ⟨i + 1, by omega, by omega, fun q hq => by rw [e3, zupd_row hq, F2 q hq], fun e he => ?_⟩ (by omega)
    rw [e3]
    by_cases z : e = i
    · rw [z, zupd_same]
    · rw [zupd_nk z]; exact g2 e (by omega)
end MZ
