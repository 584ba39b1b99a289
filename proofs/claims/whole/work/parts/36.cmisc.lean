section CZ
variable {G : zG} {σ V D : zPH} {X : zX} {t u : Nat}
/-- what steady() answers -/
def zStd (V D : zPH) (al x : Int) : Prop := if al = 0 then zEs V (D 0 0) (D 0 1) x else zEa V (D 0 0) (D 0 1) x
theorem zStd_u {V D : zPH} {al x y : Int} (h : zStd V D al x) (h' : zStd V D al y) : x = y := by
  unfold zStd at h h'
  split at h
  · rename_i q; rw [if_pos q] at h'
    exact zbt_ext h.1 h'.1 (fun i => (h.2 i).trans (h'.2 i).symm)
  · rename_i q; rw [if_neg q] at h'
    exact zbt_ext h.1 h'.1 (fun i => (h.2 i).trans (h'.2 i).symm)
theorem s_B_steady (hB : zBD V D) (h : zCI σ V D t u) {al : Int} (hal : zI al) (hX : ∀ σ' x, zStd V D al x → zCI σ' V D t u → zfB σ σ' → X (some (iZ x)) σ') : MS G zm_B_steady 7 [zr G 0, iZ al] σ X := by
  have hr := hB.r
  refine k_B_steady h.1.1 (s_forget h (fun σ1 c1 M1 f1 => ⟨rfl, c1.1.2.2.2.1, ?_⟩))
  rw [c1.2.2.2.2.1.1, c1.2.2.2.2.1.2.1]
  refine s_walk hB c1 (by omega) (zOr_st hB) (M1 _) (fun σ2 c2 M2 f2 W => ⟨rfl, ?_⟩)
  exact s_C_eyesOfRound hB.1 (zOr_st hB) W hal (fun r hr => ⟨_, rfl, hX σ2 r hr c2 (f1.trans f2)⟩)
/-- the state from which the way is the longest -/
def zSlP (V D : zPH) (s : Nat) : Prop := ((s : Int) < 2 ^ (V 0 4).toNat) ∧ ∀ s' : Nat, (s' : Int) < 2 ^ (V 0 4).toNat → (zLd V (D 0 0) (s' : Int)).1 < (zLd V (D 0 0) (s : Int)).1 ∨ ((zLd V (D 0 0) (s' : Int)).1 = (zLd V (D 0 0) (s : Int)).1 ∧ s ≤ s')
/-- what slow() answers -/
def zSlw (V D : zPH) (w x : Int) : Prop := ((w = 0 ∨ w = 1) ∧ ∃ s, zSlP V D s ∧ x = if w = 0 then (s : Int) else ((zLd V (D 0 0) (s : Int)).1 : Int)) ∨ (¬ (w = 0 ∨ w = 1) ∧ x = -1)
theorem zSlw_u {V D : zPH} {w x y : Int} (h : zSlw V D w x) (h' : zSlw V D w y) : x = y := by
  rcases h with ⟨a, s, s1, s2⟩ | ⟨a, rfl⟩ <;> rcases h' with ⟨a', s', s1', s2'⟩ | ⟨a', rfl⟩
  · have e : s = s' := by
      have h1 := s1.2 s' s1'.1
      have h2 := s1'.2 s s1.1
      omega
    rw [s2, s2', e]
  · exact absurd a a'
  · exact absurd a' a
  · rfl
theorem s_B_slow (hB : zBD V D) (h : zCI σ V D t u) {w : Int} (hw : zI w) (hX : ∀ σ' x, zSlw V D w x → zCI σ' V D t u → zfB σ σ' → X (some (iZ x)) σ') : MS G zm_B_slow 7 [zr G 0, iZ w] σ X := by
  have hr := hB.r
  have h64 := (zNx_r hB.1 (tu := 0) (st := 0)).2.2
  have hpc := zpow_c (V 0 4).toNat
  have hnn := zpow_nn (V 0 4).toNat
  have hpos : (0 : Int) < 2 ^ (V 0 4).toNat := Int.pow_pos (by decide)
  have main : w = 0 ∨ w = 1 → b_B_slow_11 G t w X σ := fun hw1 => by
    refine s_forget h (fun σ1 c1 M1 f1 => ⟨rfl, ?_⟩)
    refine zLP3_ind (fun x2 x3 x4 σ2 => ∃ i : Nat, x4 = (i : Int) ∧ (i : Int) ≤ 2 ^ (V 0 4).toNat ∧ ((i = 0 ∧ x2 = 0 ∧ x3 = -1) ∨ ∃ s : Nat, s < i ∧ x2 = (s : Int) ∧ x3 = ((zLd V (D 0 0) (s : Int)).1 : Int) ∧ x3 ≤ 64 ∧ ∀ s' : Nat, s' < i → (zLd V (D 0 0) (s' : Int)).1 < (zLd V (D 0 0) (s : Int)).1 ∨ ((zLd V (D 0 0) (s' : Int)).1 = (zLd V (D 0 0) (s : Int)).1 ∧ s ≤ s')) ∧ zCI σ2 V D t u ∧ zMm σ2 V (D 0 0) ∧ zfB σ σ2) (fun _ _ x4 _ => (64 - x4).toNat) ?_ ⟨0, rfl, hnn, Or.inl ⟨rfl, rfl, rfl⟩, c1, M1 _, f1⟩
    rintro K x2 x3 x4 σ2 ⟨i, rfl, hi, hm, c2, M2, f2⟩ hK
    have hmr : -1 ≤ x3 ∧ x3 ≤ 64 := by
      rcases hm with ⟨-, -, rfl⟩ | ⟨s, -, -, s3, s4, -⟩
      · decide
      · omega
    refine s_B_stateCount hB c2 ⟨_, rfl, ⟨by omega, by omega⟩, fun hge => ?_, fun hlt => ⟨c2.1.2.2.2.1, ?_⟩⟩
    · rcases hm with ⟨q, -, -⟩ | ⟨s, s1, rfl, s3, s4, s5⟩
      · omega
      · have hP : zSlP V D s := ⟨by omega, fun s' h' => s5 s' (by omega)⟩
        refine ⟨hw, fun q => ?_, fun q => ?_⟩
        · rw [s3]; exact hX σ2 _ (Or.inl ⟨hw1, s, hP, by rw [if_neg q]⟩) c2 f2
        · exact hX σ2 _ (Or.inl ⟨hw1, s, hP, by rw [if_pos q]⟩) c2 f2
    · rw [c2.2.2.2.2.1.1]
      refine s_walk hB c2 (by omega) ⟨by omega, hlt⟩ M2 (fun σ3 c3 M3 f3 W => ⟨rfl, ?_⟩)
      obtain ⟨A, N, hq, hN, e5, e6, -⟩ := id W
      have hA := (zLd_of hq).1
      have hAN := hq.1
      rw [e6]
      have hrec : ∀ (y2 y3 : Int), (∃ s : Nat, s < i + 1 ∧ y2 = (s : Int) ∧ y3 = ((zLd V (D 0 0) (s : Int)).1 : Int) ∧ y3 ≤ 64 ∧ ∀ s' : Nat, s' < i + 1 → (zLd V (D 0 0) (s' : Int)).1 < (zLd V (D 0 0) (s : Int)).1 ∨ ((zLd V (D 0 0) (s' : Int)).1 = (zLd V (D 0 0) (s : Int)).1 ∧ s ≤ s')) → b_B_slow_73 G t w X K y2 y3 (i : Int) σ3 := fun y2 y3 hy => hK _ _ _ _ ⟨i + 1, by omega, by omega, Or.inr hy, c3, M3, f2.trans f3⟩ (by omega)
      refine ⟨⟨by omega, by omega⟩, fun q => hrec _ _ ?_, fun q x3' e3' => hrec _ _ ?_⟩
      · rcases hm with ⟨-, -, rfl⟩ | ⟨s, s1, s2, s3, s4, s5⟩
        · omega
        · refine ⟨s, by omega, s2, s3, s4, fun s' hs' => ?_⟩
          rcases (show s' < i ∨ s' = i by omega) with z | rfl
          · exact s5 s' z
          · omega
      · refine ⟨i, by omega, rfl, by rw [e3', hA], by omega, fun s' hs' => ?_⟩
        rcases (show s' < i ∨ s' = i by omega) with z | rfl
        · rcases hm with ⟨z0, -, rfl⟩ | ⟨s, s1, s2, s3, s4, s5⟩
          · omega
          · have := s5 s' z
            omega
        · omega
  exact k_B_slow h.1.1 ⟨hw, fun q => main (Or.inl q), fun q => ⟨hw, fun q2 => main (Or.inr q2), fun q2 => hX σ _ (Or.inr ⟨by omega, rfl⟩) h zfB.rf⟩⟩
/-- what back() answers, what is kept then -/
def zBck (V D : zPH) (x : Int) (D' : zPH) : Prop := (D 0 2 = 0 ∧ D' = D ∧ x = -1) ∨ (D 0 2 ≠ 0 ∧ D' = zset (zupd D 0 2 (D 0 2 - 1)) (D 2 (D 0 2 - 1).toNat) (D 3 (D 0 2 - 1).toNat) ∧ x = D 0 2 - 1)
theorem zBck_D {V D D' : zPH} {x : Int} (hB : zBD V D) (h : zBck V D x D') : zBD V D' := by
  rcases h with ⟨-, rfl, -⟩ | ⟨q, rfl, -⟩
  · exact hB
  · obtain ⟨s1, s2, s3, s4⟩ := zset_v (zupd D 0 2 (D 0 2 - 1)) (D 2 (D 0 2 - 1).toNat) (D 3 (D 0 2 - 1).toNat)
    obtain ⟨hV, ht, h1, h2, h3, h4, h5, h6, h7, h8, h9⟩ := hB
    have hp := h8 (D 0 2 - 1).toNat (by omega)
    refine ⟨hV, ht, by rw [s1]; exact hp.1, by rw [s2]; exact hp.2, ?_, by rw [s3 3 (by decide) (by decide), zupd_nk (by decide)]; exact h4, by rw [s3 4 (by decide) (by decide), s3 5 (by decide) (by decide), zupd_nk (by decide), zupd_nk (by decide)]; exact h5, by rw [s3 6 (by decide) (by decide), zupd_nk (by decide)]; exact h6, by rw [s4 1 (by decide), zupd_row (by decide)]; exact h7, fun j hj => ?_, by rw [s4 4 (by decide), zupd_row (by decide)]; exact h9⟩
    · rw [s3 2 (by decide) (by decide), zupd_same]; omega
    · rw [s3 2 (by decide) (by decide), zupd_same] at hj
      rw [s4 2 (by decide), s4 3 (by decide), zupd_row (by decide), zupd_row (by decide)]
      exact h8 j (by omega)
theorem s_B_back (hB : zBD V D) (h : zCI σ V D t u) (hX : ∀ σ' x D', zBck V D x D' → zCI σ' V D' t u → zfB σ σ' → X (some (iZ x)) σ') : MS G zm_B_back 0 [zr G 0] σ X := by
  obtain ⟨⟨d1, d2, d3, d4, d5, d6, d7⟩, ⟨⟨w1, w2⟩, w3, w4⟩, p1, tp, im⟩ := id h.2.2.2.2
  have hc := hB.2.2.2.2.1
  refine k_B_back ⟨by omega, fun q => ?_, fun q => hX σ _ _ (Or.inl ⟨by omega, rfl, rfl⟩) h zfB.rf⟩
  rw [d3] at q
  rintro σ1 e1
  have en : σ1 29 2 = D 0 2 - 1 := by rw [e1, zupd_same, d3]
  rw [en]
  refine ⟨by omega, ?_⟩
  rintro σ2 e2
  have en2 : σ2 29 2 = D 0 2 - 1 := by rw [e2, zupd_row (by decide), en]
  rw [en2]
  refine ⟨by omega, ?_⟩
  rintro σ3 e3
  have en3 : σ3 29 2 = D 0 2 - 1 := by rw [e3, zupd_row (by decide), en2]
  rw [en3]
  have hp := p1 (D 0 2 - 1).toNat (by omega)
  have r : ∀ q, q ≠ 0 → q ≠ 29 → σ3 q = σ q := fun q h1 h2 => by rw [e3, zupd_row h1, e2, zupd_row h1, e1, zupd_row h2]
  have r0 : ∀ k, k ≠ 7 → k ≠ 8 → σ3 0 k = σ 0 k := fun k h1 h2 => by rw [e3, zupd_nk h2, e2, zupd_nk h1, e1, zupd_row (by decide)]
  obtain ⟨s1, s2, s3, s4⟩ := zset_v (zupd D 0 2 (D 0 2 - 1)) (D 2 (D 0 2 - 1).toNat) (D 3 (D 0 2 - 1).toNat)
  refine hX σ3 _ _ (Or.inr ⟨q, rfl, rfl⟩) (zCI_dyn h (fun q h1 h2 => r q (by omega) (by omega)) (fun q h1 h2 => r q (by omega) (by omega)) (r0 3 (by decide) (by decide)) (by rw [r 4 (by decide) (by decide)]) ?_) (fun q hq => r q (by omega) (by omega))
  have x7 : σ3 0 7 = D 2 (D 0 2 - 1).toNat := by rw [e3, zupd_nk (by decide), e2, zupd_same, e1, zupd_row (by decide)]; exact hp.1
  have x8 : σ3 0 8 = D 3 (D 0 2 - 1).toNat := by rw [e3, zupd_same, e2, zupd_row (by decide), e1, zupd_row (by decide)]; exact hp.2
  refine ⟨⟨by rw [s1, x7], by rw [s2, x8], by rw [s3 2 (by decide) (by decide), zupd_same, en3], ?_, ?_, ?_, ?_⟩, ?_, fun j hj => ?_, fun j => ?_, fun j hj => ?_⟩
  · rw [s3 3 (by decide) (by decide), zupd_nk (by decide), r0 1 (by decide) (by decide)]; exact d4
  · rw [s3 4 (by decide) (by decide), zupd_nk (by decide), r 4 (by decide) (by decide)]; exact d5
  · rw [s3 5 (by decide) (by decide), zupd_nk (by decide), r 4 (by decide) (by decide)]; exact d6
  · rw [s3 6 (by decide) (by decide), zupd_nk (by decide), r0 13 (by decide) (by decide)]; exact d7
  · rw [r0 9 (by decide) (by decide), r0 10 (by decide) (by decide), s4 1 (by decide), zupd_row (by decide)]
    exact ⟨⟨w1, w2⟩, w3, w4⟩
  · rw [s3 2 (by decide) (by decide), zupd_same] at hj
    rw [s4 2 (by decide), s4 3 (by decide), zupd_row (by decide), zupd_row (by decide), e3, zupd_row (by decide), zupd_row (by decide), e2, zupd_row (by decide), zupd_row (by decide), e1, zupd_row (by decide), zupd_row (by decide)]
    exact p1 j (by omega)
  · rw [s4 4 (by decide), zupd_row (by decide), r 1 (by decide) (by decide)]; exact tp j
  · rw [s3 6 (by decide) (by decide), zupd_nk (by decide)] at hj
    rw [s4 5 (by decide), zupd_row (by decide), r 3 (by decide) (by decide)]; exact im j hj
/-- what octet() answers -/
def zOct (D : zPH) (k x : Int) : Prop := ((0 ≤ k ∧ k < D 0 6) ∧ x = D 5 k.toNat) ∨ (¬ (0 ≤ k ∧ k < D 0 6) ∧ x = -1)
theorem s_B_octet (hB : zBD V D) (h : zCI σ V D t u) {k : Int} (hk : zI k) (hX : ∀ x, zOct D k x → X (some (iZ x)) σ) : MS G zm_B_octet 0 [zr G 0, iZ k] σ X := by
  obtain ⟨⟨d1, d2, d3, d4, d5, d6, d7⟩, -, -, -, im⟩ := h.2.2.2.2
  have h6 := hB.2.2.2.2.2.2.2.1
  refine k_B_octet ⟨hk, fun q => hX _ (Or.inr ⟨by omega, rfl⟩), fun q => ⟨⟨hk, by omega⟩, fun q2 => ⟨by omega, hX _ (Or.inl ⟨by omega, im k.toNat (by omega)⟩)⟩, fun q2 => hX _ (Or.inr ⟨by omega, rfl⟩)⟩⟩
/-- what square() answers -/
def zSqr (V D : zPH) (c r w x : Int) : Prop := (zin_ V c r ∧ x = if w = 0 then V 1 (zqo c r) else if V 1 (zqo c r) = 0 then -1 else if w = 1 then V 2 (zqo c r) else if w = 2 then zFm V (D 0 0) (D 0 1) (zqo c r) else -1) ∨ (¬ zin_ V c r ∧ x = -1)
theorem s_B_square (hB : zBD V D) (h : zCI σ V D t u) {c r w : Int} (hc : zI c) (hr : zI r) (hw : zI w) (hX : ∀ x, zSqr V D c r w x → X (some (iZ x)) σ) : MS G zm_B_square 1 [zr G 0, iZ c, iZ r, iZ w] σ X := by
  have hrr := hB.r
  have ht : t = 32 ∨ t = 45 := h.1.1
  refine k_B_square h.1.1 ⟨h.1.2.2.2.1, ?_⟩
  refine s_T_squareAt h.1.1 hB.1 h.2.1.1.2.1 hc hr (fun hi => ?_) (fun hi => ⟨_, rfl, by decide, fun q => absurd rfl q, fun _ => hX _ (Or.inr ⟨hi, rfl⟩)⟩)
  obtain ⟨hv, -⟩ := zqo_va hB.1 hi
  have hpl := (zP_lt hB.1 hv).2
  obtain ⟨hq1, hq2⟩ := h.2.1.1.2.2.2.1 _ hv
  have hb := h.2.1.1.1.2.1 (zP V (zqo c r))
  refine ⟨_, rfl, by omega, fun _ => ⟨h.1.2.2.2.1, by omega, ?_⟩, fun q => by omega⟩
  rw [Int.toNat_natCast]
  rintro x5 e5
  have h0 : x5 ≠ -1 → V 1 (zqo c r) ≠ 0 := fun z y => z (by rw [e5]; exact hq1 y)
  have h1 : x5 = -1 → V 1 (zqo c r) = 0 := fun z => by
    by_cases y : V 1 (zqo c r) = 0
    · exact y
    · exact absurd (e5 ▸ z) (hq2 y).1
  refine ⟨hw, fun q => ⟨by omega, fun q2 => ⟨hw, fun q3 => ⟨hw, fun q4 => ?_, fun q4 => ⟨h.1.2.2.2.1, ?_⟩⟩, fun q3 => ⟨h.1.2.2.2.1, by omega, ?_⟩⟩, fun q2 => ?_⟩, fun q => ⟨by omega, fun q2 => ⟨h.1.2.2.2.1, by omega, ?_⟩, fun q2 => ?_⟩⟩
  · exact hX _ (Or.inl ⟨hi, by rw [if_neg q, if_neg (h0 q2), if_neg q3, if_neg q4]⟩)
  · rw [h.2.2.2.2.1.1, h.2.2.2.2.1.2.1]
    refine s_T_lookNow h.1.1 (by omega) (h.2.1.1.1.2.2.2.1 _) (by omega) (by omega) ⟨_, rfl, hX _ (Or.inl ⟨hi, ?_⟩)⟩
    rw [if_neg q, if_neg (h0 q2), if_neg q3, if_pos q4]
    unfold zlk zFm
    obtain ⟨a0, a1, a2, a3, -⟩ := hq2 (h0 q2)
    rw [if_neg (h0 q2), e5, a1, a2, a3]
  · obtain ⟨a0, a1, a2, a3, -⟩ := hq2 (h0 q2)
    exact hX _ (Or.inl ⟨hi, by rw [if_neg q, if_neg (h0 q2), if_pos q3, e5, a2]⟩)
  · exact hX _ (Or.inl ⟨hi, by rw [if_neg q, if_pos (h1 q2)]⟩)
  · obtain ⟨a0, a1, a2, a3, -⟩ := hq2 (h0 q2)
    exact hX _ (Or.inl ⟨hi, by rw [if_pos q, e5, a1]⟩)
  · exact hX _ (Or.inl ⟨hi, by rw [if_pos q, h1 q2]⟩)
/-- what letter() answers -/
def zLet (V : zPH) (e k x : Int) : Prop := ((0 ≤ e ∧ e < V 0 5) ∧ ∃ L : Nat, (V 20 e.toNat / 27 ^ L = 0 ∧ (L = 0 ∨ V 20 e.toNat / 27 ^ (L - 1) ≠ 0)) ∧ (((0 ≤ k ∧ k < (L : Int)) ∧ x = 96 + V 20 e.toNat / 27 ^ (L - 1 - k.toNat) % 27) ∨ (¬ (0 ≤ k ∧ k < (L : Int)) ∧ x = -1))) ∨ (¬ (0 ≤ e ∧ e < V 0 5) ∧ x = -1)
theorem zd27 (E : Int) (n : Nat) : E / 27 ^ n / 27 = E / 27 ^ (n + 1) := by
  rw [Int.ediv_ediv_of_nonneg (Int.le_of_lt (Int.pow_pos (by decide))), Int.pow_succ]
theorem zd27_le {E : Int} (hE : 0 ≤ E) (n : Nat) : 0 ≤ E / 27 ^ n ∧ E / 27 ^ n ≤ E := by
  induction n with
  | zero => simp; exact hE
  | succ n ih => rw [← zd27]; omega
theorem zd27_0 {E : Int} {a b : Nat} (hab : a ≤ b) (h : E / 27 ^ a = 0) : E / 27 ^ b = 0 := by
  induction b with
  | zero => rw [← show a = 0 by omega]; exact h
  | succ b ih =>
    rcases (show a ≤ b ∨ a = b + 1 by omega) with q | rfl
    · rw [← zd27, ih q]; rfl
    · exact h
theorem s_B_letter (hB : zBD V D) (h : zCI σ V D t u) {e k : Int} (he : zI e) (hk : zI k) (hX : ∀ x, zLet V e k x → X (some (iZ x)) σ) : MS G zm_B_letter 1 [zr G 0, iZ e, iZ k] σ X := by
  have ht : t = 32 ∨ t = 45 := h.1.1
  refine k_B_letter h.1.1 (s_B_isNumber hB h (g := 3) rfl (by decide) he (fun q1 q2 => Or.inr ⟨rfl, h.1.2.2.2.1, ?_⟩) (fun q => Or.inl ⟨rfl, hX _ (Or.inr ⟨q, rfl⟩)⟩))
  have h5 := hB.1.cnt 3 (by decide)
  have q2' : e < V 0 5 := q2
  have h5' : V 0 5 ≤ 8 := h5.2
  obtain ⟨n1, n2, n3⟩ := h.2.1.2.2 e.toNat (by omega)
  generalize hE : V 20 e.toNat = E at n1 n2 n3
  have hX' : ∀ (L : Nat) (x : Int), (E / 27 ^ L = 0 ∧ (L = 0 ∨ E / 27 ^ (L - 1) ≠ 0)) → (((0 ≤ k ∧ k < (L : Int)) ∧ x = 96 + E / 27 ^ (L - 1 - k.toNat) % 27) ∨ (¬ (0 ≤ k ∧ k < (L : Int)) ∧ x = -1)) → X (some (iZ x)) σ := fun L x hL hx => hX _ (Or.inl ⟨⟨q1, q2⟩, L, by rw [hE]; exact hL, by rw [hE]; exact hx⟩)
  refine k_T_nameLetter h.1.1 ⟨by omega, ?_⟩
  rintro x4 e4
  rw [n1] at e4
  refine zLP2_ind (fun x3 x4 σ2 => ∃ i : Nat, x3 = (i : Int) ∧ i ≤ 6 ∧ x4 = E / 27 ^ i ∧ σ2 = σ ∧ (i = 0 ∨ E / 27 ^ (i - 1) ≠ 0)) (fun x3 _ _ => (6 - x3).toNat) ?_ ⟨0, rfl, by decide, by rw [e4]; simp, rfl, Or.inl rfl⟩
  rintro K x3 x4 σ2 ⟨i, rfl, hi, rfl, hσ, hp⟩ hK
  rw [hσ]
  have hd := zd27_le n2 i
  have h6 : E / 27 ^ 6 = 0 := Int.ediv_eq_zero_of_lt n2 n3
  refine ⟨by omega, fun q => ?_, fun q => ?_⟩
  · have hL : E / 27 ^ i = 0 ∧ (i = 0 ∨ E / 27 ^ (i - 1) ≠ 0) := ⟨by omega, hp⟩
    refine ⟨hk, fun q3 => ⟨_, rfl, hX' i _ hL (Or.inr ⟨by omega, rfl⟩)⟩, fun q3 => ⟨⟨hk, by omega⟩, fun q4 => ⟨by omega, ?_⟩, fun q4 => ⟨_, rfl, hX' i _ hL (Or.inr ⟨by omega, rfl⟩)⟩⟩⟩
    rintro x4 e4 x5 e5
    rw [n1] at e4
    refine zLP2_ind (fun x4 x5 σ3 => ∃ j : Nat, x5 = (i : Int) - 1 - j ∧ k ≤ x5 ∧ x4 = E / 27 ^ j ∧ σ3 = σ) (fun _ x5 _ => (x5 - k).toNat) ?_ ⟨0, by omega, by omega, by rw [e4]; simp, rfl⟩
    rintro K x4 x5 σ3 ⟨j, rfl, hk5, rfl, hσ3⟩ hK
    rw [hσ3]
    have hdj := zd27_le n2 j
    refine ⟨⟨by omega, hk⟩, fun q5 => ⟨by omega, ⟨_, rfl, hX' i _ hL (Or.inl ⟨by omega, ?_⟩)⟩⟩, fun q5 => ⟨by omega, ?_⟩⟩
    · rw [show i - 1 - k.toNat = j by omega]
    · rintro x4' rfl
      exact hK _ _ _ ⟨j + 1, by omega, by omega, zd27 E j, rfl⟩ (by omega)
  · refine ⟨by omega, ?_⟩
    rintro x4' rfl
    have hi6 : i ≠ 6 := fun z => by rw [z] at q; omega
    exact hK _ _ _ ⟨i + 1, by omega, by omega, zd27 E i, rfl, Or.inr (by rw [show i + 1 - 1 = i by omega]; omega)⟩ (by omega)
end CZ
