theorem zmet_0 {x : Int} (hx : 0 ≤ x) {s : Nat} (hs : s < 64) : zsx x / 2 ^ s % 2 ≠ 0 ↔ zbt x s := by
  rw [zsx_bit hs, zbt_div hx]
  omega
/-- states met so far, as bits -/
def zmb (V : zPH) (tu st : Int) (i : Nat) (x : Int) : Prop := 0 ≤ x ∧ ∀ s : Nat, zbt x s ↔ ∃ j, j < i ∧ zOr V tu st j = (s : Int)
theorem zmb_0 {V : zPH} {tu st : Int} : zmb V tu st 0 0 := ⟨by decide, fun s => ⟨fun q => absurd q zbt_0, fun ⟨j, q, _⟩ => by omega⟩⟩
theorem zmb_s {V : zPH} {tu st : Int} {i : Nat} {x y : Int} (h : zmb V tu st i x) (hy : y = zOr V tu st i) (h0 : 0 ≤ y) : zmb V tu st (i + 1) (zor x (1 * 2 ^ y.toNat)) := by
  obtain ⟨a, b⟩ := h
  refine ⟨zor_nn _ _, fun s => ?_⟩
  rw [Int.one_mul, zbt_or, b, zbt_pow]
  constructor
  · rintro (⟨j, j1, j2⟩ | q)
    · exact ⟨j, by omega, j2⟩
    · exact ⟨i, by omega, by omega⟩
  · rintro ⟨j, j1, j2⟩
    rcases (show j < i ∨ j = i by omega) with q | rfl
    · exact Or.inl ⟨j, q, j2⟩
    · exact Or.inr (by omega)
theorem s_C_eyesInEnd {G : zG} {σ : zPH} {X : zX} {t : Nat} {V : zPH} (ht : zisT t) (hL : zLG σ 19) (hV : zVd V) (hVt : zVt V) (hT : zTV σ t V) {tu st : Int} (htu : 0 ≤ tu ∧ tu < 2147483648) (hst : 0 ≤ st ∧ st < 2 ^ (V 0 4).toNat)
    (hX : ∀ σ', zLG σ' 19 → zFs σ σ' 19 → X (some (iZ (zEd V tu st))) σ') : MS G zm_C_eyesInEnd 5 [zr G 14, zr G t, iZ tu, iZ st] σ X := by
  refine k_C_eyesInEnd ht ?_
  have hor := zOr_r hV (tu := tu) hst
  have hfin : ∀ i, (∀ a b, a < b → b < i → zOr V tu st a ≠ zOr V tu st b) → (∀ j, j < i → zOr V tu st (j + 1) ≠ zOr V tu st j) → (∃ j, j < i ∧ zOr V tu st i = zOr V tu st j) → zEd V tu st = -1 := by
    rintro i h1 h2 ⟨j, j1, j2⟩
    obtain ⟨e1, e2⟩ := zLd_of (V := V) (tu := tu) (st := st) (A := j) (N := i) ⟨j1, j2, h1⟩
    unfold zEd
    rw [e1, e2, if_neg]
    intro q
    refine h2 j j1 ?_
    rw [← q]; exact j2
  refine zLP3_ind (fun x4 x6 x7 σ1 => ∃ i : Nat, x7 = (i : Int) ∧ i ≤ 64 ∧ x6 = zOr V tu st i ∧ zmb V tu st i x4 ∧ (∀ a b, a < b → b < i → zOr V tu st a ≠ zOr V tu st b) ∧ (∀ j, j < i → zOr V tu st (j + 1) ≠ zOr V tu st j) ∧ zLG σ1 19 ∧ zFs σ σ1 19) (fun _ _ x7 _ => (64 - x7).toNat) ?_ ⟨0, rfl, by omega, rfl, zmb_0, fun _ _ _ q => by omega, fun _ q => by omega, hL, zFs.rfl'⟩
  rintro K x4 x6 x7 σ1 ⟨i, rfl, hi, rfl, hm, hd, hn, g1, F1⟩ hK
  have hoi := hor i
  refine ⟨by omega, fun h => ?_, fun h => ⟨by omega, by omega, fun hb => ?_, fun hb => ⟨by omega, ⟨hm.1, by rw [Int.one_mul]; exact zpow_nn _⟩, ?_⟩⟩⟩
  · have hie : i = 64 := by omega
    subst hie
    have he : zEd V tu st = -1 := by
      refine hfin 64 hd hn ?_
      apply Classical.byContradiction
      intro q
      have := zpig 64 65 (zOr V tu st) (fun k _ => ⟨(hor k).1, (hor k).2.2⟩) (fun a b hab hb e => by
        rcases (show b < 64 ∨ b = 64 by omega) with q2 | rfl
        · exact hd a b hab q2 e
        · exact q ⟨a, hab, e.symm⟩)
      omega
    rw [he] at hX
    exact hX σ1 g1 F1
  · rw [zmet_0 hm.1 (by omega), hm.2] at hb
    obtain ⟨j, j1, j2⟩ := hb
    have he : zEd V tu st = -1 := hfin i hd hn ⟨j, j1, by omega⟩
    rw [he] at hX
    exact hX σ1 g1 F1
  · rintro y rfl
    have hnew : ∀ j, j < i → zOr V tu st j ≠ zOr V tu st i := fun j hj e => by
      have : ¬ zbt x4 (zOr V tu st i).toNat := fun q => (zmet_0 hm.1 (by omega)).mpr q hb
      exact this ((hm.2 _).mpr ⟨j, hj, by omega⟩)
    have hd' : ∀ a b, a < b → b < i + 1 → zOr V tu st a ≠ zOr V tu st b := fun a b hab hb => by
      rcases (show b < i ∨ b = i by omega) with q | rfl
      · exact hd a b hab q
      · exact hnew a hab
    have tb : ∀ q, t ≤ q → q ≤ t + 12 → σ1 q = σ q := fun q h1 h2 => F1.tab (Or.inl rfl) ht h1 h2
    refine s_C_stepFrom ht g1 hV hVt (hT.to tb) htu (by omega) (fun σ2 g2 F2 li => ⟨_, rfl, ?_⟩)
    have hr := zNx_r hV (tu := tu) (st := zOr V tu st i)
    refine ⟨by omega, fun hne => ?_, fun he => ?_⟩
    · refine hK _ _ _ _ ⟨i + 1, by omega, by omega, rfl, zmb_s hm rfl hoi.1, hd', fun j hj => ?_, g2, F1.trans F2⟩ (by omega)
      rcases (show j < i ∨ j = i by omega) with q | rfl
      · exact hn j q
      · exact hne
    · rw [li.2.2.2]
      obtain ⟨e1, e2⟩ := zLd_of (V := V) (tu := tu) (st := st) (A := i) (N := i + 1) ⟨by omega, he, hd'⟩
      have hx := hX σ2 g2 (F1.trans F2)
      unfold zEd at hx
      rw [e1, e2, if_pos rfl] at hx
      exact hx
theorem s_C_mark {G : zG} {σ : zPH} {X : zX} {t : Nat} {V : zPH} (ht : zisT t) (hL : zLG σ 19) (hV : zVd V) (hVt : zVt V) (hT : zTV σ t V) {tu st : Int} (htu : 0 ≤ tu ∧ tu < 2147483648) (hst : 0 ≤ st ∧ st < 2 ^ (V 0 4).toNat)
    (hX : ∀ σ', zLG σ' 19 → (∀ q, q ≠ 2 → (q < 19 ∨ 23 < q) → σ' q = σ q) → (∀ q, zva V q → (σ' 2 (zP V q) = 0 ∨ σ' 2 (zP V q) = 1) ∧ (σ' 2 (zP V q) = 0 → ∀ k w, w < 4 → zLv V tu (zOr V tu st k) 255 7 (4 * q + w) = 0)) → X none σ') : MS G zm_C_mark 5 [zr G 14, zr G t, iZ tu, iZ st, zr G 2] σ X := by
  refine k_C_mark ht ?_
  have hor := zOr_r hV (tu := tu) hst
  have ht2 : t = 32 ∨ t = 45 := ht
  refine s_JA_fill (zs_2 _) (by decide) (by decide) (fun σ0 r0 z0 _ => ⟨rfl, ?_⟩)
  have tb0 : ∀ q, t ≤ q → q ≤ t + 12 → σ0 q = σ q := fun q h1 h2 => r0 q (by omega)
  have g0 : zLG σ0 19 := by
    unfold zLG
    rw [r0 19 (by decide), r0 (19 + 1) (by decide), r0 (19 + 3) (by decide)]
    exact hL
  have hend : ∀ (i : Nat) (σ1 : zPH), zLG σ1 19 → (∀ q, q ≠ 2 → (q < 19 ∨ 23 < q) → σ1 q = σ0 q) → (∀ p, σ1 2 p = 0 ∨ σ1 2 p = 1 ∨ 144 ≤ p) → (∀ q, zva V q → σ1 2 (zP V q) = 0 → ∀ j w, j < i → w < 4 → zLv V tu (zOr V tu st j) 255 7 (4 * q + w) = 0) → (∃ j, j < i ∧ zOr V tu st i = zOr V tu st j) → X none σ1 := by
    rintro i σ1 g1 F1 h01 hm ⟨j, j1, j2⟩
    refine hX σ1 g1 (fun q q1 q2 => by rw [F1 q q1 q2, r0 q q1]) (fun q hq => ⟨?_, fun hz k w hw => ?_⟩)
    · have := (zP_lt hV hq).2
      have := h01 (zP V q)
      omega
    · obtain ⟨l, l1, l2⟩ := zOr_cyc j1 j2 k
      rw [l2]
      exact hm q hq hz l w l1 hw
  refine zLP3_ind (fun x5 x7 x8 σ1 => ∃ i : Nat, x8 = (i : Int) ∧ i ≤ 64 ∧ x7 = zOr V tu st i ∧ zmb V tu st i x5 ∧ (∀ a b, a < b → b < i → zOr V tu st a ≠ zOr V tu st b) ∧ zLG σ1 19 ∧ (∀ q, q ≠ 2 → (q < 19 ∨ 23 < q) → σ1 q = σ0 q) ∧ (∀ p, σ1 2 p = 0 ∨ σ1 2 p = 1 ∨ 144 ≤ p) ∧ ∀ q, zva V q → σ1 2 (zP V q) = 0 → ∀ j w, j < i → w < 4 → zLv V tu (zOr V tu st j) 255 7 (4 * q + w) = 0) (fun _ _ x8 _ => (64 - x8).toNat) ?_ ⟨0, rfl, by omega, rfl, zmb_0, fun _ _ _ q => by omega, g0, fun _ _ _ => rfl, fun p => by
    by_cases hp : p < 144
    · exact Or.inl (z0 p hp)
    · omega, fun _ _ _ _ _ q => by omega⟩
  rintro K x5 x7 x8 σ1 ⟨i, rfl, hi, rfl, hm, hd, g1, F1, h01, hmk⟩ hK
  have hoi := hor i
  refine ⟨by omega, fun h => ?_, fun h => ⟨by omega, by omega, fun hb => ?_, fun hb => ⟨by omega, ⟨hm.1, by rw [Int.one_mul]; exact zpow_nn _⟩, ?_⟩⟩⟩
  · have hie : i = 64 := by omega
    subst hie
    refine hend 64 σ1 g1 F1 h01 hmk ?_
    apply Classical.byContradiction
    intro q
    have := zpig 64 65 (zOr V tu st) (fun k _ => ⟨(hor k).1, (hor k).2.2⟩) (fun a b hab hb e => by
      rcases (show b < 64 ∨ b = 64 by omega) with q2 | rfl
      · exact hd a b hab q2 e
      · exact q ⟨a, hab, e.symm⟩)
    omega
  · rw [zmet_0 hm.1 (by omega), hm.2] at hb
    obtain ⟨j, j1, j2⟩ := hb
    exact hend i σ1 g1 F1 h01 hmk ⟨j, j1, by omega⟩
  · rintro y rfl
    have hnew : ∀ j, j < i → zOr V tu st j ≠ zOr V tu st i := fun j hj e => by
      have : ¬ zbt x5 (zOr V tu st i).toNat := fun q => (zmet_0 hm.1 (by omega)).mpr q hb
      exact this ((hm.2 _).mpr ⟨j, hj, by omega⟩)
    have hd' : ∀ a b, a < b → b < i + 1 → zOr V tu st a ≠ zOr V tu st b := fun a b hab hb => by
      rcases (show b < i ∨ b = i by omega) with q | rfl
      · exact hd a b hab q
      · exact hnew a hab
    have tb : ∀ q, t ≤ q → q ≤ t + 12 → σ1 q = σ q := fun q h1 h2 => by rw [F1 q (by omega) (by omega), tb0 q h1 h2]
    refine s_C_stepFrom ht g1 hV hVt (hT.to tb) htu (by omega) (fun σ2 g2 F2 li => ⟨_, rfl, ?_⟩)
    have r2 : ∀ q, (q < 19 ∨ 23 < q) → σ2 q = σ1 q := fun q hq => F2 q (by omega) (by omega) (by omega) (by omega) (by omega)
    refine zLP4_ind (fun y5 y7 y8 y9 σ3 => y5 = zor x5 (1 * 2 ^ (zOr V tu st i).toNat) ∧ y7 = zNx V tu (zOr V tu st i) ∧ y8 = (i : Int) ∧ ∃ k : Nat, y9 = (k : Int) ∧ (k : Int) ≤ σ2 19 3 ∧ (∀ q, q ≠ 2 → σ3 q = σ2 q) ∧ (∀ p, σ3 2 p = 0 ∨ σ3 2 p = 1 ∨ 144 ≤ p) ∧ (∀ p, σ3 2 p = 0 → σ2 2 p = 0 ∧ ∀ l : Nat, l < k → (σ2 (19 + 3) l / 8 / 4).toNat ≠ p)) (fun _ _ _ y9 _ => (1728 - y9).toNat) ?_ ⟨rfl, rfl, rfl, 0, rfl, g2.1.1, fun _ _ => rfl, fun p => by rw [r2 2 (by omega)]; exact h01 p, fun p hp => ⟨hp, fun l hl => by omega⟩⟩
    rintro K2 y5 y7 y8 y9 σ3 ⟨rfl, rfl, rfl, k, rfl, hk, F3, h3, m3⟩ hK2
    have gr := g2.1
    have e19 : σ3 19 = σ2 19 := F3 19 (by decide)
    refine ⟨by rw [e19]; omega, fun hge => ?_, fun hlt => ?_⟩
    · rw [e19] at hge
      have g3 : zLG σ3 19 := by
        unfold zLG
        rw [e19, F3 (19 + 1) (by decide), F3 (19 + 3) (by decide)]
        exact g2
      refine hK _ _ _ _ ⟨i + 1, by omega, by omega, rfl, zmb_s hm rfl hoi.1, hd', g3, fun q q1 q2 => by rw [F3 q q1, r2 q q2, F1 q q1 q2], h3, fun q hq hz j w hj hw => ?_⟩ (by omega)
      obtain ⟨m4, m5⟩ := m3 _ hz
      rcases (show j < i ∨ j = i by omega) with q1 | rfl
      · rw [r2 2 (by omega)] at m4
        exact hmk q hq m4 j w q1 hw
      · have hva : zva V ((4 * q + w) / 4) := by rw [show (4 * q + w) / 4 = q by omega]; exact hq
        rw [← li.1 _ hva, zE_4 hw]
        apply Classical.byContradiction
        intro hne
        obtain ⟨b, hb⟩ := (zbt_ne0 (g2.2.1 _).1).mp hne
        obtain ⟨l, l1, l2, l3⟩ := g2.2.2.2.2.1 _ b hb
        refine m5 l (by omega) ?_
        rw [l2]; omega
    · rw [e19] at hlt
      have hg3 := g2.2.2.1 k
      refine s_L_arrivedNode (Or.inl rfl) (by omega) (by rw [Int.toNat_natCast, F3 (19 + 3) (by decide)]; exact hg3) ⟨_, rfl, ?_⟩
      rw [Int.toNat_natCast, F3 (19 + 3) (by decide)]
      refine ⟨by omega, by omega, ?_⟩
      rintro σ4 e4
      refine hK2 _ _ _ _ _ ⟨rfl, rfl, rfl, k + 1, by omega, by omega, fun q hq => by rw [e4, zupd_row hq, F3 q hq], fun p => ?_, fun p hp => ?_⟩ (by omega)
      · rw [e4]
        by_cases q : p = (σ2 (19 + 3) k / 8 / 4).toNat
        · rw [q, zupd_same]; omega
        · rw [zupd_nk q]; exact h3 p
      · rw [e4] at hp
        by_cases q : p = (σ2 (19 + 3) k / 8 / 4).toNat
        · rw [q, zupd_same] at hp; omega
        · rw [zupd_nk q] at hp
          obtain ⟨m4, m5⟩ := m3 p hp
          refine ⟨m4, fun l hl => ?_⟩
          rcases (show l < k ∨ l = k by omega) with q1 | rfl
          · exact m5 l q1
          · exact fun e => q e.symm
theorem s_C_forget {G : zG} {σ : zPH} {X : zX} (hX : ∀ σ', (∀ q, q ≠ 15 → σ' q = σ q) → (∀ s : Nat, s < 64 → σ' 15 s = -1) → X none σ') : MS G zm_C_forget 1 [zr G 14] σ X :=
  k_C_forget (s_JA_fill (zs_15 _) (by decide) (by decide) (fun σ1 r1 z1 _ => ⟨rfl, hX σ1 r1 z1⟩))
/-- states looked at are kept as they are -/
def zMm (σ : zPH) (V : zPH) (tu : Int) : Prop := ∀ s : Nat, s < 64 → σ 15 s = -1 ∨ (σ 15 s = zNx V tu s ∧ σ 16 s = zEy V tu s 255 7)
theorem s_C_after {G : zG} {σ : zPH} {X : zX} {t : Nat} {V : zPH} (ht : zisT t) (hL : zLG σ 19) (hV : zVd V) (hVt : zVt V) (hT : zTV σ t V) {tu st : Int} (htu : 0 ≤ tu ∧ tu < 2147483648) (hst : 0 ≤ st ∧ st < 64) (hM : zMm σ V tu)
    (hX : ∀ σ', zLG σ' 19 → zMm σ' V tu → (∀ q, q ≠ 15 → q ≠ 16 → (q < 19 ∨ 23 < q) → σ' q = σ q) → (∀ s : Nat, s < 64 → σ 15 s ≠ -1 → σ' 15 s ≠ -1) → σ' 15 st.toNat ≠ -1 → X (some (iZ (zNx V tu st))) σ') : MS G zm_C_after 5 [zr G 14, zr G t, iZ tu, iZ st] σ X := by
  refine k_C_after ht ?_
  have hs := hM st.toNat (by omega)
  have hr := zNx_r hV (tu := tu) (st := st)
  rw [Int.toNat_of_nonneg hst.1] at hs
  refine ⟨hst, by omega, fun h => ⟨hst, ?_⟩, fun h => ?_⟩
  · rcases hs with q | ⟨q1, q2⟩
    · exact absurd q h
    · rw [q1]
      exact hX σ hL hM (fun _ _ _ _ => rfl) (fun _ _ q => q) h
  · refine s_C_stepFrom ht hL hV hVt hT htu (by omega) (fun σ1 g1 F1 li => ⟨_, rfl, hst, ?_⟩)
    rintro σ22 e22
    refine ⟨hst, ?_⟩
    rintro σ35 e35
    have e15 : ∀ s, σ35 15 s = if s = st.toNat then zNx V tu st else σ 15 s := fun s => by
      rw [e35, zupd_row (by decide), e22]
      split
      · rename_i q; rw [q, zupd_same]
      · rename_i q; rw [zupd_nk q, F1 15 (by decide) (by decide) (by decide) (by decide) (by decide)]
    have e16 : ∀ s, σ35 16 s = if s = st.toNat then zEy V tu st 255 7 else σ 16 s := fun s => by
      rw [e35, e22]
      split
      · rename_i q; rw [q, zupd_same, zupd_row (by decide), li.2.2.2]
      · rename_i q; rw [zupd_nk q, zupd_row (by decide), F1 16 (by decide) (by decide) (by decide) (by decide) (by decide)]
    have eo : ∀ q, q ≠ 15 → q ≠ 16 → σ35 q = σ1 q := fun q q1 q2 => by rw [e35, zupd_row q2, e22, zupd_row q1]
    refine ⟨hst, ?_⟩
    rw [e15, if_pos rfl]
    refine hX σ35 ?_ (fun s hs => ?_) (fun q q1 q2 q3 => by rw [eo q q1 q2, F1 q (by omega) (by omega) (by omega) (by omega) (by omega)]) (fun s hs h1 => ?_) (by rw [e15, if_pos rfl]; omega)
    · unfold zLG
      rw [eo 19 (by decide) (by decide), eo (19 + 1) (by decide) (by decide), eo (19 + 3) (by decide) (by decide)]
      exact g1
    · rw [e15, e16]
      by_cases q : s = st.toNat
      · rw [if_pos q, if_pos q]
        right
        rw [show (s : Int) = st by omega]
        exact ⟨rfl, rfl⟩
      · rw [if_neg q, if_neg q]; exact hM s hs
    · rw [e15]; split
      · omega
      · exact h1
/-- what a walk leaves -/
def zWk (σ : zPH) (V : zPH) (tu st : Int) : Prop := ∃ A N : Nat, zQr V tu st A N ∧ N ≤ 64 ∧ σ 14 5 = (N : Int) ∧ σ 14 6 = (A : Int) ∧ (∀ j : Nat, j < N → σ 17 j = zOr V tu st j ∧ σ 16 (zOr V tu st j).toNat = zEy V tu (zOr V tu st j) 255 7) ∧ (∀ s : Nat, s < 64 → (∃ j : Nat, j < N ∧ zOr V tu st j = (s : Int) ∧ σ 18 s = (j : Int)) ∨ ((∀ j : Nat, j < N → zOr V tu st j ≠ (s : Int)) ∧ σ 18 s = -1))
set_option maxHeartbeats 4000000 in
theorem s_C_walk {G : zG} {σ : zPH} {X : zX} {t : Nat} {V : zPH} (ht : zisT t) (hL : zLG σ 19) (hV : zVd V) (hVt : zVt V) (hT : zTV σ t V) {tu st : Int} (htu : 0 ≤ tu ∧ tu < 2147483648) (hst : 0 ≤ st ∧ st < 2 ^ (V 0 4).toNat) (hM : zMm σ V tu)
    (hX : ∀ σ', zLG σ' 19 → zMm σ' V tu → (∀ q, (q < 14 ∨ 23 < q) → σ' q = σ q) → zWk σ' V tu st → X none σ') : MS G zm_C_walk 6 [zr G 14, zr G t, iZ tu, iZ st] σ X := by
  refine k_C_walk ht ?_
  have hor := zOr_r hV (tu := tu) hst
  have ht2 : t = 32 ∨ t = 45 := ht
  refine s_JA_fill (zs_18 _) (by decide) (by decide) (fun σ0 r0 z0 _ => ⟨rfl, ?_⟩)
  rintro σ10 e10
  have r10 : ∀ q, q ≠ 14 → q ≠ 18 → σ10 q = σ q := fun q q1 q2 => by rw [e10, zupd_row q1, r0 q q2]
  have gof : ∀ {σ1 σ2 : zPH}, (∀ q, 19 ≤ q → q ≤ 23 → σ2 q = σ1 q) → zLG σ1 19 → zLG σ2 19 := fun h g => by
    unfold zLG
    rw [h 19 (by decide) (by decide), h (19 + 1) (by decide) (by decide), h (19 + 3) (by decide) (by decide)]
    exact g
  refine zLP1_ind (fun x4 σ1 => ∃ i : Nat, i ≤ 64 ∧ x4 = zOr V tu st i ∧ σ1 14 5 = (i : Int) ∧ (∀ a b, a < b → b < i → zOr V tu st a ≠ zOr V tu st b) ∧ zLG σ1 19 ∧ zMm σ1 V tu ∧ (∀ q, (q < 14 ∨ 23 < q) → σ1 q = σ q) ∧ (∀ j : Nat, j < i → σ1 17 j = zOr V tu st j ∧ σ1 15 (zOr V tu st j).toNat ≠ -1) ∧ (∀ s : Nat, s < 64 → (∃ j : Nat, j < i ∧ zOr V tu st j = (s : Int) ∧ σ1 18 s = (j : Int)) ∨ ((∀ j : Nat, j < i → zOr V tu st j ≠ (s : Int)) ∧ σ1 18 s = -1))) (fun _ σ1 => (64 - σ1 14 5).toNat) ?_ ⟨0, by omega, rfl, by rw [e10, zupd_same]; rfl, fun _ _ _ q => by omega, gof (fun q q1 q2 => r10 q (by omega) (by omega)) hL, fun s hs => by rw [r10 15 (by decide) (by decide), r10 16 (by decide) (by decide)]; exact hM s hs, fun q hq => r10 q (by omega) (by omega), fun j q => by omega, fun s hs => Or.inr ⟨fun j q => by omega, by rw [e10, zupd_row (by decide)]; exact z0 s hs⟩⟩
  rintro K x4 σ1 ⟨i, hi, rfl, e5, hd, g1, M1, F1, hp, hs⟩ hK
  have hoi := hor i
  have hsi := hs (zOr V tu st i).toNat (by omega)
  rw [Int.toNat_of_nonneg hoi.1] at hsi
  have hend : ∀ σ2 : zPH, σ2 = zupd σ1 14 6 (σ1 18 (zOr V tu st i).toNat) → (∃ j, j < i ∧ zOr V tu st i = zOr V tu st j) → X none σ2 := by
    rintro σ2 e2 ⟨j, j1, j2⟩
    have r2 : ∀ q, q ≠ 14 → σ2 q = σ1 q := fun q hq => by rw [e2, zupd_row hq]
    refine hX σ2 (gof (fun q q1 q2 => r2 q (by omega)) g1) (fun s h => by rw [r2 15 (by decide), r2 16 (by decide)]; exact M1 s h) (fun q hq => by rw [r2 q (by omega), F1 q hq]) ⟨j, i, ⟨j1, j2, hd⟩, hi, by rw [e2, zupd_nk (by decide), e5], ?_, fun k hk => ?_, fun s h => ?_⟩
    · rw [e2, zupd_same]
      rcases hsi with ⟨j', q1, q2, q3⟩ | ⟨q1, q2⟩
      · rw [q3]
        have : j' = j := by
          rcases Nat.lt_trichotomy j' j with q | q | q
          · exact absurd (by rw [q2, j2]) (hd j' j q j1)
          · exact q
          · exact absurd (by rw [q2, j2]) (hd j j' q q1)
        rw [this]
      · exact absurd j2.symm (q1 j j1)
    · rw [r2 17 (by decide), r2 16 (by decide)]
      obtain ⟨h1, h2⟩ := hp k hk
      refine ⟨h1, ?_⟩
      have hk := hor k
      rcases M1 (zOr V tu st k).toNat (by omega) with q | ⟨-, q⟩
      · exact absurd q h2
      · rw [Int.toNat_of_nonneg hk.1] at q; exact q
    · rw [r2 18 (by decide)]; exact hs s h
  refine ⟨by omega, fun h => ⟨by omega, ?_⟩, fun h => ⟨by omega, ?_, fun hv => ⟨by omega, ?_⟩, fun hv => ?_⟩⟩
  · rintro σ89 e89
    refine hend σ89 e89 ?_
    apply Classical.byContradiction
    intro q
    have hie : i = 64 := by omega
    subst hie
    have := zpig 64 65 (zOr V tu st) (fun k _ => ⟨(hor k).1, (hor k).2.2⟩) (fun a b hab hb e => by
      rcases (show b < 64 ∨ b = 64 by omega) with q2 | rfl
      · exact hd a b hab q2 e
      · exact q ⟨a, hab, e.symm⟩)
    omega
  · rcases hsi with ⟨j', q1, q2, q3⟩ | ⟨q1, q2⟩ <;> omega
  · rintro σ89 e89
    refine hend σ89 e89 ?_
    rcases hsi with ⟨j', q1, q2, q3⟩ | ⟨q1, q2⟩
    · exact ⟨j', q1, q2.symm⟩
    · exact absurd q2 hv
  · have hnew : ∀ j, j < i → zOr V tu st j ≠ zOr V tu st i := by
      rcases hsi with ⟨j', q1, q2, q3⟩ | ⟨q1, q2⟩
      · omega
      · exact q1
    have hd' : ∀ a b, a < b → b < i + 1 → zOr V tu st a ≠ zOr V tu st b := fun a b hab hb => by
      rcases (show b < i ∨ b = i by omega) with q | rfl
      · exact hd a b hab q
      · exact hnew a hab
    refine ⟨by omega, ?_⟩
    rintro σ46 e46
    refine ⟨by omega, ?_⟩
    rintro σ57 e57 σ65 e65
    have e14 : σ57 14 = σ1 14 := by rw [e57, zupd_row (by decide), e46, zupd_row (by decide)]
    have r65 : ∀ q, q ≠ 14 → q ≠ 17 → q ≠ 18 → σ65 q = σ1 q := fun q q1 q2 q3 => by rw [e65, zupd_row q1, e57, zupd_row q3, e46, zupd_row q2]
    have tb : ∀ q, t ≤ q → q ≤ t + 12 → σ65 q = σ q := fun q h1 h2 => by rw [r65 q (by omega) (by omega) (by omega), F1 q (by omega)]
    refine s_C_after ht (gof (fun q q1 q2 => r65 q (by omega) (by omega) (by omega)) g1) hV hVt (hT.to tb) htu (by omega) (fun s h => by rw [r65 15 (by decide) (by decide) (by decide), r65 16 (by decide) (by decide) (by decide)]; exact M1 s h) (fun σ2 g2 M2 F2 k2 n2 => ⟨_, rfl, ?_⟩)
    have h14 : σ2 14 5 = (i : Int) + 1 := by rw [F2 14 (by decide) (by decide) (by decide), e65, zupd_same, e14, e5]
    refine hK _ _ ⟨i + 1, by omega, rfl, by rw [h14]; omega, hd', g2, M2, fun q hq => by rw [F2 q (by omega) (by omega) (by omega), r65 q (by omega) (by omega) (by omega), F1 q hq], fun j hj => ?_, fun s h => ?_⟩ (by omega)
    · have hj' := hor j
      rw [F2 17 (by decide) (by decide) (by decide), e65, zupd_row (by decide), e57, zupd_row (by decide), e46, e5, Int.toNat_natCast]
      rcases (show j < i ∨ j = i by omega) with q | rfl
      · rw [zupd_nk (by omega)]
        refine ⟨(hp j q).1, k2 _ (by omega) ?_⟩
        rw [r65 15 (by decide) (by decide) (by decide)]; exact (hp j q).2
      · rw [zupd_same]; exact ⟨rfl, n2⟩
    · rw [F2 18 (by decide) (by decide) (by decide), e65, zupd_row (by decide), e57, show σ46 14 5 = (i : Int) by rw [e46, zupd_row (by decide), e5]]
      by_cases q : s = (zOr V tu st i).toNat
      · left
        refine ⟨i, by omega, by omega, ?_⟩
        rw [q, zupd_same]
      · rw [zupd_nk q, e46, zupd_row (by decide)]
        rcases hs s h with ⟨j, j1, j2, j3⟩ | ⟨j1, j2⟩
        · exact Or.inl ⟨j, by omega, j2, j3⟩
        · refine Or.inr ⟨fun j hj => ?_, j2⟩
          rcases (show j < i ∨ j = i by omega) with q1 | rfl
          · exact j1 j q1
          · omega
