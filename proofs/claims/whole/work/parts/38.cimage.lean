section CI
variable {G : zG} {σ V D : zPH} {X : zX} {t u : Nat}
/-- the bytes of the image, but for the last -/
def zim0 (V D : zPH) (k : Nat) : Int := if k = 0 then V 0 3 else if k = 1 then V 0 4 else if k = 2 then V 0 5 else if k = 3 then D 0 0 else if k = 4 then D 0 1 else D 1 (k - 5)
def zimb (V D : zPH) (k : Nat) : Int := if (k : Int) = 5 + V 0 5 then zck (zim0 V D) k else zim0 V D k
def zimg (V D : zPH) : zPH := fun r k => if r = 0 ∧ k = 6 then V 0 5 + 6 else if r = 5 then zimb V D k else D r k
/-- what image() answers -/
def zIma (V D : zPH) (x : Int) (D' : zPH) : Prop := D' = zimg V D ∧ x = V 0 5 + 6
theorem zimg_v (V D : zPH) : zimg V D 0 6 = V 0 5 + 6 ∧ (∀ k, k ≠ 6 → zimg V D 0 k = D 0 k) ∧ (∀ r, r ≠ 0 → r ≠ 5 → zimg V D r = D r) ∧ ∀ k, zimg V D 5 k = zimb V D k :=
  ⟨by simp [zimg], fun k h => by simp [zimg, h], fun r h1 h2 => by funext k; simp [zimg, h1, h2], fun k => by simp [zimg]⟩
theorem zIma_D {D' : zPH} {x : Int} (hB : zBD V D) (h : zIma V D x D') : zBD V D' := by
  obtain ⟨rfl, -⟩ := h
  obtain ⟨v1, v2, v3, v4⟩ := zimg_v V D
  have h5 := hB.1.cnt 3 (by decide)
  have h5' : 0 ≤ V 0 5 ∧ V 0 5 ≤ 8 := h5
  obtain ⟨hV, ht, h1, h2, h3, h4, h5, h6, h7, h8, h9⟩ := hB
  exact ⟨hV, ht, by rw [v2 0 (by decide)]; exact h1, by rw [v2 1 (by decide)]; exact h2, by rw [v2 2 (by decide)]; exact h3, by rw [v2 3 (by decide)]; exact h4, by rw [v2 4 (by decide), v2 5 (by decide)]; exact h5, by rw [v1]; omega, by rw [v3 1 (by decide) (by decide)]; exact h7, by rw [v2 2 (by decide), v3 2 (by decide) (by decide), v3 3 (by decide) (by decide)]; exact h8, by rw [v3 4 (by decide) (by decide)]; exact h9⟩
/-- wishes as bits -/
theorem zwi_bits (hB : zBD V D) (h : zCI σ V D t u) {i : Nat} (hi : (i : Int) < V 0 5) : (σ 0 9 / 2 ^ i % 2) + 2 * (σ 0 10 / 2 ^ i % 2) = D 1 i := by
  obtain ⟨⟨w1, w2⟩, w3, w4⟩ := h.2.2.2.2.2.1
  have h7 := hB.2.2.2.2.2.2.2.2.1 i
  have a := (zbt_div w1 i).symm.trans (w2 i)
  have b := (zbt_div w3 i).symm.trans (w4 i)
  have a2 := zmod2 (σ 0 9 / 2 ^ i)
  have b2 := zmod2 (σ 0 10 / 2 ^ i)
  rcases a2 with q | q <;> rcases b2 with q2 | q2 <;> rw [q, q2] <;> rw [q] at a <;> rw [q2] at b
  · have na : ¬ D 1 i = 1 := fun z => absurd (a.mpr ⟨hi, z⟩) (by decide)
    have nb : ¬ D 1 i = 2 := fun z => absurd (b.mpr ⟨hi, z⟩) (by decide)
    omega
  · have := (b.mp rfl).2; omega
  · have := (a.mp rfl).2; omega
  · have := (a.mp rfl).2; have := (b.mp rfl).2; omega
theorem s_B_image (hB : zBD V D) (h : zCI σ V D t u) (hX : ∀ σ' x D', zIma V D x D' → zCI σ' V D' t u → zfB σ σ' → X (some (iZ x)) σ') : MS G zm_B_image 1 [zr G 0] σ X := by
  have ht : t = 32 ∨ t = 45 := h.1.1
  have hrr := hB.r
  have e3 := zTd.cnt h.2.1.1.2.1 1 (by decide)
  have e4 := zTd.cnt h.2.1.1.2.1 2 (by decide)
  have e5 := zTd.cnt h.2.1.1.2.1 3 (by decide)
  have c3 : 0 ≤ V 0 3 ∧ V 0 3 ≤ 8 := hB.1.cnt 1 (by decide)
  have c4 : 0 ≤ V 0 4 ∧ V 0 4 ≤ 8 := hB.1.cnt 2 (by decide)
  have c5 : 0 ≤ V 0 5 ∧ V 0 5 ≤ 8 := hB.1.cnt 3 (by decide)
  have w7 := hB.2.2.2.2.2.2.2.2.1
  obtain ⟨⟨d1, d2, d3, d4, d5, d6, d7⟩, w, p1, tp, im⟩ := id h.2.2.2.2
  obtain ⟨⟨w1, w2⟩, w3, w4⟩ := id w
  have k0 := h.1.2.2.2.1
  refine k_B_image h.1.1 ⟨k0, ?_⟩
  rintro σ1 x1
  have r1 : ∀ q, q ≠ 3 → σ1 q = σ q := fun q hq => by rw [x1, zupd_row hq]
  refine ⟨by rw [r1 0 (by decide)]; exact k0, ?_⟩
  rintro σ2 x2
  have r2 : ∀ q, q ≠ 3 → σ2 q = σ q := fun q hq => by rw [x2, zupd_row hq, r1 q hq]
  refine ⟨by rw [r2 0 (by decide)]; exact k0, ?_⟩
  rintro σ3 x3
  rintro σ4 x4
  rintro σ5 x5
  have r3 : ∀ q, q ≠ 3 → σ3 q = σ q := fun q hq => by rw [x3, zupd_row hq, r2 q hq]
  have r4 : ∀ q, q ≠ 3 → σ4 q = σ q := fun q hq => by rw [x4, zupd_row hq, r3 q hq]
  have r5 : ∀ q, q ≠ 3 → σ5 q = σ q := fun q hq => by rw [x5, zupd_row hq, r4 q hq]
  have g5 : ∀ k : Nat, (k : Int) < 5 → σ5 3 k = zim0 V D k := by
    intro k hk
    have cs : k = 0 ∨ k = 1 ∨ k = 2 ∨ k = 3 ∨ k = 4 := by omega
    rcases cs with rfl | rfl | rfl | rfl | rfl
    · rw [x5, zupd_nk (by decide), x4, zupd_nk (by decide), x3, zupd_nk (by decide), x2, zupd_nk (by decide), x1, zupd_same]; exact e3
    · rw [x5, zupd_nk (by decide), x4, zupd_nk (by decide), x3, zupd_nk (by decide), x2, zupd_same, r1 _ (by omega)]; exact e4
    · rw [x5, zupd_nk (by decide), x4, zupd_nk (by decide), x3, zupd_same, r2 _ (by omega)]; exact e5
    · rw [x5, zupd_nk (by decide), x4, zupd_same, r3 _ (by decide)]; exact d1
    · rw [x5, zupd_same, r4 _ (by decide)]; exact d2
  refine zLP2_ind (fun y1 y2 σ6 => ∃ i : Nat, y2 = (i : Int) ∧ (i : Int) ≤ V 0 5 ∧ y1 = 5 + (i : Int) ∧ (∀ q, q ≠ 3 → σ6 q = σ q) ∧ ∀ k : Nat, (k : Int) < 5 + (i : Int) → σ6 3 k = zim0 V D k) (fun _ y2 _ => (8 - y2).toNat) ?_ ⟨0, rfl, c5.1, rfl, r5, fun k hk => g5 k (by omega)⟩
  rintro K y1 y2 σ6 ⟨i, rfl, hi, rfl, r6, g6⟩ hK
  have e56 : σ6 (t + 8) 3 = V 0 5 := by rw [r6 _ (by omega)]; exact e5
  refine ⟨by rw [r6 0 (by decide)]; exact k0, by rw [e56]; omega, fun q => ?_, fun q => ⟨⟨by rw [r6 0 (by decide)]; have := zlt_bt (n := 8) w1 (fun i hi => by have := ((w2 i).mp hi).1; omega); rw [show (2:Int)^8 = 256 from rfl] at this; omega, by omega⟩, ⟨by rw [r6 0 (by decide)]; have := zlt_bt (n := 8) w3 (fun i hi => by have := ((w4 i).mp hi).1; omega); rw [show (2:Int)^8 = 256 from rfl] at this; omega, by omega⟩, by omega, ?_⟩⟩
  · rw [e56] at q
    have hie : (i : Int) = V 0 5 := by omega
    refine s_B_checkByte rfl (by decide) (by decide) (by omega) (fun j hj => ?_) ⟨_, rfl, by omega, ?_⟩
    · rw [g6 j hj]; unfold zim0
      have := w7 (j - 5)
      split
      · omega
      · split
        · omega
        · split
          · omega
          · split
            · omega
            · split <;> omega
    · rintro σ7 x7 σ8 x8
      have r8 : ∀ q, q ≠ 0 → q ≠ 3 → σ8 q = σ q := fun q h0 h3 => by rw [x8, zupd_row h0, x7, zupd_row h3, r6 q h3]
      have r80 : ∀ k, k ≠ 13 → σ8 0 k = σ 0 k := fun k hk => by rw [x8, zupd_nk hk, x7, zupd_row (by decide), r6 0 (by decide)]
      have e13 : σ8 0 13 = V 0 5 + 6 := by rw [x8, zupd_same]; omega
      rw [e13]
      obtain ⟨v1, v2, v3, v4⟩ := zimg_v V D
      refine hX σ8 _ _ ⟨rfl, rfl⟩ (zCI_dyn h (fun q h1 h2 => r8 q (by omega) (by omega)) (fun q h1 h2 => r8 q (by omega) (by omega)) (r80 3 (by decide)) (by rw [r8 4 (by decide) (by decide)]) ?_) (fun q hq => r8 q (by omega) (by omega))
      refine ⟨⟨by rw [v2 0 (by decide), r80 7 (by decide)]; exact d1, by rw [v2 1 (by decide), r80 8 (by decide)]; exact d2, by rw [v2 2 (by decide), r8 29 (by decide) (by decide)]; exact d3, by rw [v2 3 (by decide), r80 1 (by decide)]; exact d4, by rw [v2 4 (by decide), r8 4 (by decide) (by decide)]; exact d5, by rw [v2 5 (by decide), r8 4 (by decide) (by decide)]; exact d6, by rw [v1]; exact e13⟩, ?_, ?_, ?_, fun j hj => ?_⟩
      · rw [v3 1 (by decide) (by decide), r80 9 (by decide), r80 10 (by decide)]; exact w
      · rw [v2 2 (by decide), v3 2 (by decide) (by decide), v3 3 (by decide) (by decide), r8 30 (by decide) (by decide), r8 31 (by decide) (by decide)]; exact p1
      · rw [v3 4 (by decide) (by decide), r8 1 (by decide) (by decide)]; exact tp
      · rw [v1] at hj
        rw [v4, x8, zupd_row (by decide), x7]
        unfold zimb
        by_cases z : (j : Int) = 5 + V 0 5
        · rw [if_pos z, show (5 + (i : Int)).toNat = j by omega, zupd_same]
          exact zck_cg (fun k hk => g6 k (by omega))
        · rw [if_neg z, zupd_nk (by omega)]
          exact g6 j (by omega)
  · rintro σ7 x7
    rw [e56] at q
    have hv := zwi_bits hB h q
    refine hK _ _ _ ⟨i + 1, by omega, by omega, by omega, fun q hq => by rw [x7, zupd_row hq, r6 q hq], fun k hk => ?_⟩ (by omega)
    rw [x7]
    by_cases z : k = 5 + i
    · rw [z, show (5 + (i : Int)).toNat = 5 + i by omega, zupd_same, Int.toNat_natCast, r6 0 (by decide), hv]
      unfold zim0
      rw [if_neg (by omega), if_neg (by omega), if_neg (by omega), if_neg (by omega), if_neg (by omega), show 5 + i - 5 = i by omega]
    · rw [zupd_nk (by omega)]; exact g6 k (by omega)
/-- the tape is an image of such a board -/
def zIsI (V D : zPH) : Prop := D 0 3 = 6 + V 0 5 ∧ (D 4 0 = V 0 3 ∧ D 4 1 = V 0 4 ∧ D 4 2 = V 0 5) ∧ (D 4 3 < 2 ^ (V 0 3).toNat ∧ D 4 4 < 2 ^ (V 0 4).toNat) ∧ (∀ j : Nat, (j : Int) < V 0 5 → D 4 (5 + j) ≤ 2) ∧ D 4 (5 + (V 0 5).toNat) = zck (D 4) (5 + (V 0 5).toNat)
theorem s_B_isImage (hB : zBD V D) (h : zCI σ V D t u) {n : Int} (hn : 0 ≤ n ∧ n ≤ 1600) (h1 : zIsI V (zupd D 0 3 n) → X (some (iZ 1)) σ) (h0 : ¬ zIsI V (zupd D 0 3 n) → X (some (iZ 0)) σ) : MS G zm_B_isImage 1 [zr G 0, iZ n] σ X := by
  have e3 : σ (t + 8) 1 = V 0 3 := zTd.cnt h.2.1.1.2.1 1 (by decide)
  have e4 : σ (t + 8) 2 = V 0 4 := zTd.cnt h.2.1.1.2.1 2 (by decide)
  have e5 : σ (t + 8) 3 = V 0 5 := zTd.cnt h.2.1.1.2.1 3 (by decide)
  have c3 : 0 ≤ V 0 3 ∧ V 0 3 ≤ 8 := hB.1.cnt 1 (by decide)
  have c4 : 0 ≤ V 0 4 ∧ V 0 4 ≤ 8 := hB.1.cnt 2 (by decide)
  have c5 : 0 ≤ V 0 5 ∧ V 0 5 ≤ 8 := hB.1.cnt 3 (by decide)
  have k0 := h.1.2.2.2.1
  have tp := h.2.2.2.2.2.2.2.1
  have tb := hB.2.2.2.2.2.2.2.2.2.2
  have b0 := tb 0
  have b1 := tb 1
  have b2 := tb 2
  have b3 := tb 3
  have b4 := tb 4
  have p3 := zpow_le (show (V 0 3).toNat ≤ 8 by omega)
  have p4 := zpow_le (show (V 0 4).toNat ≤ 8 by omega)
  rw [show (2 : Int) ^ 8 = 256 from rfl] at p3 p4
  have n3 := zpow_nn (V 0 3).toNat
  have n4 := zpow_nn (V 0 4).toNat
  have e03 : zupd D 0 3 n 0 3 = n := by rw [zupd_same]
  have e04 : zupd D 0 3 n 4 = D 4 := zupd_row (by decide)
  unfold zIsI at h1 h0
  rw [e03, e04] at h1 h0
  refine k_B_isImage h.1.1 ⟨k0, ?_⟩
  rintro x2 y2
  rw [e5] at y2
  subst y2
  rw [e3, e4, tp 0, tp 1, tp 2, tp 3]
  refine ⟨by omega, fun q1 => ⟨k0, by omega, fun q2 => h0 (fun z => q2 z.2.1.1), fun q2 => ⟨k0, by omega, fun q3 => h0 (fun z => q3 z.2.1.2.1), fun q3 => ⟨by omega, fun q4 => ?_, fun q4 => h0 (fun z => q4 z.2.1.2.2)⟩⟩⟩, fun q1 => h0 (fun z => q1 (by omega))⟩
  refine s_B_allOf hB h (g := 1) rfl (by decide) ⟨_, rfl, ?_⟩
  rw [show V 0 (2 + 1) = V 0 3 from rfl]
  refine ⟨by omega, fun q5 => h0 (fun z => by have := z.2.2.1.1; omega), fun q5 => ?_⟩
  refine s_B_allOf hB h (g := 2) rfl (by decide) ⟨_, rfl, ?_⟩
  rw [show V 0 (2 + 2) = V 0 4 from rfl, tp 4]
  refine ⟨by omega, fun q6 => ?_, fun q6 => h0 (fun z => by have := z.2.2.1.2; omega)⟩
  refine zLP2_ind (fun y2 y3 σ6 => ∃ i : Nat, y2 = V 0 5 ∧ y3 = (i : Int) ∧ (i : Int) ≤ V 0 5 ∧ σ6 = σ ∧ ∀ k : Nat, k < i → D 4 (5 + k) ≤ 2) (fun _ y3 _ => (8 - y3).toNat) ?_ ⟨0, rfl, rfl, c5.1, rfl, fun k hk => by omega⟩
  rintro K y2 y3 σ6 ⟨i, rfl, rfl, hi, hσ, g6⟩ hK
  rw [hσ]
  refine ⟨by omega, fun q7 => ⟨by omega, ?_⟩, fun q7 => ⟨by omega, ?_⟩⟩
  · refine s_B_checkByte rfl (by decide) (by decide) (by omega) (fun j hj => by rw [tp]; exact tb j) ⟨_, rfl, ?_⟩
    have hE : σ 1 = D 4 := funext tp
    rw [hE, show (n - 1).toNat = 5 + (V 0 5).toNat by omega]
    have bk := zck_r (D 4) (5 + (V 0 5).toNat)
    have bl := tb (5 + (V 0 5).toNat)
    exact ⟨by omega, fun q8 => h0 (fun z => q8 z.2.2.2.2), fun q8 => h1 ⟨by omega, ⟨q2, q3, q4⟩, ⟨by omega, by omega⟩, fun j hj => g6 j (by omega), q8⟩⟩
  · rw [show (5 + (i : Int)).toNat = 5 + i by omega, tp]
    have bi := tb (5 + i)
    refine ⟨by omega, fun q8 => hK _ _ _ ⟨i + 1, rfl, by omega, by omega, rfl, fun k hk => ?_⟩ (by omega), fun q8 => h0 (fun z => by have := z.2.2.2.1 i q7; omega)⟩
    rcases (show k < i ∨ k = i by omega) with z | rfl
    · exact g6 k z
    · exact q8
theorem zIsI_to {V D D1 : zPH} (e0 : D1 0 3 = D 0 3) (e4 : D1 4 = D 4) : zIsI V D1 ↔ zIsI V D := by
  unfold zIsI
  rw [e0, e4]
/-- what on() leaves -/
def zonk (D : zPH) : Nat → zPH
  | 0 => zset (zupd D 0 3 0) (D 4 3) (D 4 4)
  | i + 1 => zupd (zonk D i) 1 i (D 4 (5 + i))
def zonD (V D : zPH) : zPH := zupd (zonk D (V 0 5).toNat) 0 2 0
/-- what on() answers -/
def zOnn (V D : zPH) (x : Int) (D' : zPH) : Prop := (zIsI V D ∧ D' = zonD V D ∧ x = 1) ∨ (¬ zIsI V D ∧ D' = zupd D 0 3 0 ∧ x = 0)
theorem zonk_v (D : zPH) (n : Nat) : zonk D n 0 0 = D 4 3 ∧ zonk D n 0 1 = D 4 4 ∧ zonk D n 0 3 = 0 ∧ (∀ k, k ≠ 0 → k ≠ 1 → k ≠ 3 → zonk D n 0 k = D 0 k) ∧ (∀ k, zonk D n 1 k = if k < n then D 4 (5 + k) else D 1 k) ∧ ∀ r, r ≠ 0 → r ≠ 1 → zonk D n r = D r := by
  induction n with
  | zero =>
    obtain ⟨s1, s2, s3, s4⟩ := zset_v (zupd D 0 3 0) (D 4 3) (D 4 4)
    refine ⟨s1, s2, ?_, fun k h0 h1 h3 => ?_, fun k => ?_, fun r h0 h1 => ?_⟩
    · show zset _ _ _ 0 3 = 0
      rw [s3 3 (by decide) (by decide), zupd_same]
    · show zset _ _ _ 0 k = _
      rw [s3 k h0 h1, zupd_nk h3]
    · show zset _ _ _ 1 k = _
      rw [s4 1 (by decide), zupd_row (by decide), if_neg (by omega)]
    · show zset _ _ _ r = _
      rw [s4 r h0, zupd_row h0]
  | succ n ih =>
    obtain ⟨i1, i2, i3, i4, i5, i6⟩ := ih
    simp only [zonk]
    refine ⟨by rw [zupd_row (by decide)]; exact i1, by rw [zupd_row (by decide)]; exact i2, by rw [zupd_row (by decide)]; exact i3, fun k h0 h1 h3 => by rw [zupd_row (by decide)]; exact i4 k h0 h1 h3, fun k => ?_, fun r h0 h1 => by rw [zupd_row h1]; exact i6 r h0 h1⟩
    by_cases q : k = n
    · rw [q, zupd_same, if_pos (by omega)]
    · rw [zupd_nk q, i5]
      by_cases q2 : k < n
      · rw [if_pos q2, if_pos (by omega)]
      · rw [if_neg q2, if_neg (by omega)]
theorem zonk_D (hB : zBD V D) (h : zIsI V D) (n : Nat) (hn : (n : Int) ≤ V 0 5) : zBD V (zonk D n) := by
  obtain ⟨i1, i2, i3, i4, i5, i6⟩ := zonk_v D n
  obtain ⟨hV, ht, h1, h2, h3, h4, h5, h6, h7, h8, h9⟩ := hB
  refine ⟨hV, ht, by rw [i1]; exact ⟨(h9 3).1, h.2.2.1.1⟩, by rw [i2]; exact ⟨(h9 4).1, h.2.2.1.2⟩, by rw [i4 2 (by decide) (by decide) (by decide)]; exact h3, by rw [i3]; decide, by rw [i4 4 (by decide) (by decide) (by decide), i4 5 (by decide) (by decide) (by decide)]; exact h5, by rw [i4 6 (by decide) (by decide) (by decide)]; exact h6, fun e => ?_, by rw [i4 2 (by decide) (by decide) (by decide), i6 2 (by decide) (by decide), i6 3 (by decide) (by decide)]; exact h8, by rw [i6 4 (by decide) (by decide)]; exact h9⟩
  rw [i5]
  split
  · exact ⟨(h9 _).1, h.2.2.2.1 e (by omega)⟩
  · exact h7 e
theorem zpst_D {D : zPH} (hB : zBD V D) : zBD V (zupd D 0 2 0) := by
  obtain ⟨hV, ht, h1, h2, h3, h4, h5, h6, h7, h8, h9⟩ := hB
  have k0 : ∀ k, k ≠ 2 → zupd D 0 2 0 0 k = D 0 k := fun k hk => zupd_nk hk
  have rr : ∀ r, r ≠ 0 → zupd D 0 2 0 r = D r := fun r hr => zupd_row hr
  exact ⟨hV, ht, by rw [k0 0 (by decide)]; exact h1, by rw [k0 1 (by decide)]; exact h2, by rw [zupd_same]; decide, by rw [k0 3 (by decide)]; exact h4, by rw [k0 4 (by decide), k0 5 (by decide)]; exact h5, by rw [k0 6 (by decide)]; exact h6, by rw [rr 1 (by decide)]; exact h7, fun j hj => by rw [zupd_same] at hj; omega, by rw [rr 4 (by decide)]; exact h9⟩
theorem zpst_C {σ1 : zPH} (h : zCI σ V D t u) (e1 : σ1 = zupd σ 29 2 0) : zCI σ1 V (zupd D 0 2 0) t u ∧ zfB σ σ1 := by
  obtain ⟨⟨d1, d2, d3, d4, d5, d6, d7⟩, w, p1, tp, im⟩ := id h.2.2.2.2
  have k0 : ∀ k, k ≠ 2 → zupd D 0 2 0 0 k = D 0 k := fun k hk => zupd_nk hk
  have rr : ∀ r, r ≠ 0 → zupd D 0 2 0 r = D r := fun r hr => zupd_row hr
  have r : ∀ q, q ≠ 29 → σ1 q = σ q := fun q h1 => by rw [e1, zupd_row h1]
  refine ⟨zCI_dyn h (fun q h1 h2 => r q (by omega)) (fun q h1 h2 => r q (by omega)) (by rw [r 0 (by decide)]) (by rw [r 4 (by decide)]) ?_, fun q hq => r q (by omega)⟩
  refine ⟨⟨by rw [k0 0 (by decide), r 0 (by decide)]; exact d1, by rw [k0 1 (by decide), r 0 (by decide)]; exact d2, by rw [zupd_same, e1, zupd_same], by rw [k0 3 (by decide), r 0 (by decide)]; exact d4, by rw [k0 4 (by decide), r 4 (by decide)]; exact d5, by rw [k0 5 (by decide), r 4 (by decide)]; exact d6, by rw [k0 6 (by decide), r 0 (by decide)]; exact d7⟩, ?_, fun j hj => by rw [zupd_same] at hj; omega, ?_, ?_⟩
  · rw [rr 1 (by decide), r 0 (by decide)]; exact w
  · rw [rr 4 (by decide), r 1 (by decide)]; exact tp
  · rw [k0 6 (by decide), rr 5 (by decide), r 3 (by decide)]; exact im
theorem zOnn_D {D' : zPH} {x : Int} (hB : zBD V D) (h : zOnn V D x D') : zBD V D' := by
  rcases h with ⟨q, rfl, -⟩ | ⟨-, rfl, -⟩
  · have c5 : 0 ≤ V 0 5 ∧ V 0 5 ≤ 8 := hB.1.cnt 3 (by decide)
    exact zpst_D (zonk_D hB q _ (by omega))
  · exact zlen_D hB (by decide)
theorem s_B_on (hB : zBD V D) (h : zCI σ V D t u) (hX : ∀ σ' x D', zOnn V D x D' → zCI σ' V D' t u → zfB σ σ' → X (some (iZ x)) σ') : MS G zm_B_on 2 [zr G 0] σ X := by
  have h3 := hB.2.2.2.2.2.1
  have d4 := h.2.2.2.2.1.2.2.2.1
  have c5 : 0 ≤ V 0 5 ∧ V 0 5 ≤ 8 := hB.1.cnt 3 (by decide)
  refine k_B_on h.1.1 ?_
  rintro x1 e1 σ7 e7
  obtain ⟨c7, f7⟩ := zlen_C h e7
  have b7 : zBD V (zupd D 0 3 0) := zlen_D hB (by decide)
  have hii : zIsI V (zupd (zupd D 0 3 0) 0 3 x1) ↔ zIsI V D := zIsI_to (by rw [zupd_same, e1]; exact d4) (by rw [zupd_row (by decide), zupd_row (by decide)])
  rw [d4] at e1
  refine s_B_isImage b7 c7 (by omega) (fun hi => Or.inr ⟨rfl, ?_⟩) (fun hi => Or.inl ⟨rfl, hX σ7 _ _ (Or.inr ⟨fun z => hi (hii.mpr z), rfl, rfl⟩) c7 f7⟩)
  have hI := hii.mp hi
  rintro σ27 e27 σ37 e37
  have r : ∀ q, q ≠ 0 → σ37 q = σ7 q := fun q hq => by rw [e37, zupd_row hq, e27, zupd_row hq]
  have r0 : ∀ k, k ≠ 7 → k ≠ 8 → σ37 0 k = σ7 0 k := fun k h1 h2 => by rw [e37, zupd_nk h2, e27, zupd_nk h1]
  have tp7 : ∀ j, σ7 1 j = D 4 j := fun j => by rw [c7.2.2.2.2.2.2.2.1 j, zupd_row (by decide)]
  have c37 : zCI σ37 V (zonk D 0) t u := by
    obtain ⟨⟨d1, d2, d3, d4, d5, d6, d7⟩, w, p1, tp, im⟩ := id c7.2.2.2.2
    obtain ⟨s1, s2, s3, s4⟩ := zset_v (zupd D 0 3 0) (D 4 3) (D 4 4)
    refine zCI_dyn c7 (fun q h1 h2 => r q (by omega)) (fun q h1 h2 => r q (by omega)) (r0 3 (by decide) (by decide)) (by rw [r 4 (by decide)]) ?_
    show zDc σ37 V (zset (zupd D 0 3 0) (D 4 3) (D 4 4))
    refine ⟨⟨by rw [s1, e37, zupd_nk (by decide), e27, zupd_same, tp7], by rw [s2, e37, zupd_same, e27, zupd_row (by decide), tp7], by rw [s3 2 (by decide) (by decide), r 29 (by decide)]; exact d3, by rw [s3 3 (by decide) (by decide), r0 1 (by decide) (by decide)]; exact d4, by rw [s3 4 (by decide) (by decide), r 4 (by decide)]; exact d5, by rw [s3 5 (by decide) (by decide), r 4 (by decide)]; exact d6, by rw [s3 6 (by decide) (by decide), r0 13 (by decide) (by decide)]; exact d7⟩, ?_, ?_, ?_, ?_⟩
    · rw [r0 9 (by decide) (by decide), r0 10 (by decide) (by decide), s4 1 (by decide)]; exact w
    · rw [s3 2 (by decide) (by decide), s4 2 (by decide), s4 3 (by decide), r 30 (by decide), r 31 (by decide)]; exact p1
    · rw [s4 4 (by decide), r 1 (by decide)]; exact tp
    · rw [s3 6 (by decide) (by decide), s4 5 (by decide), r 3 (by decide)]; exact im
  refine zLP1_ind (fun x2 σ2 => ∃ i : Nat, x2 = (i : Int) ∧ (i : Int) ≤ V 0 5 ∧ zCI σ2 V (zonk D i) t u ∧ zfB σ σ2) (fun x2 _ => (8 - x2).toNat) ?_ ⟨0, rfl, c5.1, c37, fun q hq => by rw [r q (by omega)]; exact f7 q hq⟩
  rintro K x2 σ2 ⟨i, rfl, hi, c2, f2⟩ hK
  have e5 : σ2 (t + 8) 3 = V 0 5 := zTd.cnt c2.2.1.1.2.1 3 (by decide)
  unfold b_B_on_42
  rw [e5]
  refine ⟨c2.1.2.2.2.1, by omega, fun q => ?_, fun q => ⟨by omega, ?_⟩⟩
  · rintro σ80 e80
    rw [show i = (V 0 5).toNat by omega] at c2
    obtain ⟨c80, f80⟩ := zpst_C c2 e80
    exact hX σ80 _ _ (Or.inl ⟨hI, rfl, rfl⟩) c80 (f2.trans f80)
  · rw [show (5 + (i : Int)).toNat = 5 + i by omega, c2.2.2.2.2.2.2.2.1 (5 + i), (zonk_v D i).2.2.2.2.2 4 (by decide) (by decide)]
    have hle := hI.2.2.2.1 i q
    have hge := (hB.2.2.2.2.2.2.2.2.2.2 (5 + i)).1
    refine s_B_wish (zonk_D hB hI i hi) c2 (by omega) (by omega) (fun σ3 x D3 hw c3 r3 r30 => ?_)
    rcases hw with ⟨-, rfl, rfl⟩ | ⟨z, -, -⟩
    · refine ⟨1, Or.inr rfl, rfl, hK _ _ ⟨i + 1, by omega, by omega, ?_, f2.trans (fun q hq => r3 q (by omega))⟩ (by omega)⟩
      rw [Int.toNat_natCast] at c3
      exact c3
    · omega
end CI
