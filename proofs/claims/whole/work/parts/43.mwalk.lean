section MW
variable {G : zG} {σ V : zPH} {X : zX}
/-- what a step changes -/
def zfS (σ σ' : zPH) : Prop := (∀ q, q ≠ 58 → q ≠ 84 → q ≠ 85 → q ≠ 86 → σ' q = σ q) ∧ ∀ k, k ≠ 55 → σ' 58 k = σ 58 k
theorem zfS.rf {σ : zPH} : zfS σ σ := ⟨fun _ _ _ _ _ => rfl, fun _ _ => rfl⟩
theorem zfS.trans {σ σ1 σ2 : zPH} (h : zfS σ σ1) (h2 : zfS σ1 σ2) : zfS σ σ2 := ⟨fun q a b c d => by rw [h2.1 q a b c d, h.1 q a b c d], fun k hk => by rw [h2.2 k hk, h.2 k hk]⟩
theorem zfM.S {σ σ' : zPH} (h : zfM σ σ') : zfS σ σ' := ⟨fun q a b c _ => h.1 q a b c, h.2⟩
theorem zfS.vw {σ σ' V : zPH} (h : zfS σ σ') (hv : zMV σ V) : zMV σ' V := hv.to (fun q h1 h2 => h.1 q (by omega) (by omega) (by omega) (by omega)) (fun k hk => h.2 k (by omega))
theorem s_M_stepped (hV : zVd V) (hT : zVt V) (h : zMV σ V) (htu : zI (σ 58 42) ∧ 0 ≤ σ 58 42) (h56 : σ 58 56 = -1) {st : Int} (hst : zI st ∧ 0 ≤ st) (hX : ∀ σ', zMV σ' V → zfS σ σ' → X (some (iZ (zNx V (σ 58 42) st))) σ') : MS G zm_M_stepped 5 [zr G 58, iZ st] σ X := by
  have hc := hV.2.1
  obtain ⟨⟨n0, n1⟩, n2⟩ := zSt_b (V := V) (see := zSe V (σ 58 42) st 255 7) (st := st) (V 0 4).toNat
  refine k_M_stepped (s_M_shines hV h htu hst (Or.inl ⟨h56, rfl⟩) (fun σ2 M2 F2 L2 => ⟨rfl, ?_⟩))
  have hb := M2.1.1
  obtain ⟨-, -, -, -, -, e65, -⟩ := M2.2.1
  have loop : ∀ x2 : Int, zI x2 → (∀ i : Nat, (i : Int) < V 0 4 → (V 6 i = -1 ↔ x2 = (i : Int))) → b_M_stepped_47 G st X x2 σ2 := by
    intro x2 i2 hx2
    refine zLP3_ind (fun y2 x3 x4 σ3 => y2 = x2 ∧ ∃ i : Nat, x4 = (i : Int) ∧ (i : Int) ≤ V 0 4 ∧ (∀ q, q ≠ 86 → σ3 q = σ2 q) ∧ 0 ≤ x3 ∧ ∀ e, zbt x3 e ↔ e < i ∧ zOp V (zSe V (σ 58 42) st 255 7) st e) (fun _ _ x4 _ => (8 - x4).toNat) ?_ ⟨rfl, 0, rfl, hc.2.2.2.2.1, fun _ _ => rfl, by decide, fun e => ⟨fun z => absurd z zbt_0, fun z => by omega⟩⟩
    rintro K y2 x3 x4 σ3 ⟨rfl, i, rfl, hi, F3, h0, hx⟩ hK
    have M3 : zMV σ3 V := M2.to (fun q _ _ => F3 q (by omega)) (fun k _ => by rw [F3 58 (by decide)])
    have L3 : zmLt σ3 V (σ 58 42) st 255 := fun k hk => by rw [F3 84 (by decide)]; exact L2 k hk
    unfold b_M_stepped_52
    rw [F3 58 (by decide), F3 65 (by decide), e65]
    have rec0 : ∀ σ4 : zPH, (∀ q, q ≠ 86 → σ4 q = σ2 q) → ¬ zOp V (zSe V (σ 58 42) st 255 7) st i → (i : Int) < V 0 4 → b_M_stepped_96 G st X K y2 x3 (i : Int) 0 σ4 := fun σ4 F4 hn hlt => by
      refine ⟨by decide, fun _ => ⟨⟨h0, by decide⟩, ?_⟩, fun z => absurd rfl z⟩
      rintro y ey
      refine hK _ _ _ _ ⟨rfl, i + 1, by omega, by omega, F4, by rw [ey]; exact zor_nn _ _, fun e => ?_⟩ (by omega)
      rw [ey, zor_0 h0, hx]
      exact ⟨fun z => ⟨by omega, z.2⟩, fun z => ⟨by rcases (show e < i ∨ e = i by omega) with y | rfl; exact y; exact absurd z.2 hn, z.2⟩⟩
    have rec1 : ∀ σ4 : zPH, (∀ q, q ≠ 86 → σ4 q = σ2 q) → zOp V (zSe V (σ 58 42) st 255 7) st i → (i : Int) < V 0 4 → b_M_stepped_96 G st X K y2 x3 (i : Int) 1 σ4 := fun σ4 F4 hn hlt => by
      refine ⟨by decide, fun z => absurd z (by decide), fun _ => ⟨by omega, ⟨h0, by rw [Int.one_mul]; exact zpow_nn _⟩, ?_⟩⟩
      rintro y ey
      refine hK _ _ _ _ ⟨rfl, i + 1, by omega, by omega, F4, by rw [ey]; exact zor_nn _ _, fun e => ?_⟩ (by omega)
      rw [ey, Int.one_mul, zbt_or, hx, zbt_pow, Int.toNat_natCast]
      constructor
      · rintro (z | rfl)
        · exact ⟨by omega, z.2⟩
        · exact ⟨by omega, hn⟩
      · rintro ⟨z1, z2⟩
        rcases (show e < i ∨ e = i by omega) with y | rfl
        · exact Or.inl ⟨y, z2⟩
        · exact Or.inr rfl
    refine ⟨by omega, by omega, fun hge => ?_, fun hlt => ⟨⟨by omega, i2⟩, fun hne => ?_, fun he => ⟨⟨hst.1, by omega, by omega⟩, ?_⟩⟩⟩
    · have : x3 = zNx V (σ 58 42) st := zbt_ext h0 n0 fun e => by rw [hx, show i = (V 0 4).toNat by omega]; exact (n2 e).symm
      rw [this]
      exact hX σ3 M3 (F2.S.trans ⟨fun q _ _ _ q4 => F3 q q4, fun k _ => by rw [F3 58 (by decide)]⟩)
    · have h6 : V 6 i ≠ -1 := fun z => hne ((hx2 i hlt).mp z).symm
      refine s_M_holds hV hT M3 L3 rfl hlt (fun σ4 F4 => ⟨_, by cases zHo V (zSe V (σ 58 42) st 255 7) i <;> simp, rfl, ?_⟩)
      have F4' : ∀ q, q ≠ 86 → σ4 q = σ2 q := fun q hq => by rw [F4 q hq, F3 q hq]
      by_cases hh : zHo V (zSe V (σ 58 42) st 255 7) i = true
      · rw [if_pos hh]; exact rec1 σ4 F4' (Or.inr ⟨h6, hh⟩) hlt
      · rw [if_neg hh]; exact rec0 σ4 F4' (fun z => z.elim (fun z => h6 z.1) (fun z => hh z.2)) hlt
    · have h6 : V 6 i = -1 := (hx2 i hlt).mpr he.symm
      rw [Int.toNat_natCast]
      exact ⟨by omega, fun z => rec0 σ3 F3 (fun y => y.elim (fun y => z y.2) (fun y => y.1 h6)) (by omega), fun z => rec1 σ3 F3 (Or.inl ⟨h6, z⟩) (by omega)⟩
  obtain ⟨m1, m2⟩ := M2.2.2.2.2.2.2.1
  have a45 := M2.1.2.1
  refine ⟨by omega, fun z => loop (-1) (by decide) (fun i hi => ?_), fun z => ?_⟩
  · rw [m2 i hi]
    exact ⟨fun y => absurd z y.1, fun y => by omega⟩
  · obtain ⟨p1, p2⟩ := m1 z
    refine ⟨by omega, p1, fun y => loop (-1) (by decide) (fun i hi => ?_), fun y => ?_⟩
    · rw [m2 i hi]
      exact ⟨fun x => by omega, fun x => by omega⟩
    · obtain ⟨p3, p4⟩ := p2 y
      refine s_M_numberAt' M2.1 (by omega) ⟨_, rfl, loop _ (by omega) (fun i hi => ?_)⟩
      rw [m2 i hi]
      exact ⟨fun x => x.2.2, fun x => ⟨z, y, x⟩⟩
/-- what a walk changes -/
def zfN (σ σ' : zPH) : Prop := (∀ q, (q < 84 ∨ 87 < q) → q ≠ 58 → σ' q = σ q) ∧ ∀ k, k ≠ 55 → (k < 59 ∨ 62 < k) → σ' 58 k = σ 58 k
theorem zfN.rf {σ : zPH} : zfN σ σ := ⟨fun _ _ _ => rfl, fun _ _ _ => rfl⟩
theorem zfN.trans {σ σ1 σ2 : zPH} (h : zfN σ σ1) (h2 : zfN σ1 σ2) : zfN σ σ2 := ⟨fun q a b => by rw [h2.1 q a b, h.1 q a b], fun k hk a => by rw [h2.2 k hk a, h.2 k hk a]⟩
theorem zfS.N {σ σ' : zPH} (h : zfS σ σ') : zfN σ σ' := ⟨fun q a b => h.1 q b (by omega) (by omega) (by omega), fun k hk _ => h.2 k hk⟩
theorem zfN.vw {σ σ' V : zPH} (h : zfN σ σ') (hv : zMV σ V) : zMV σ' V := hv.to (fun q h1 h2 => h.1 q (by omega) (by omega)) (fun k hk => h.2 k (by omega) (by omega))
/-- the way from a state, as the model keeps it -/
def zWm (σ V : zPH) (tu st : Int) : Prop := ∃ A N : Nat, zQr V tu st A N ∧ N ≤ 64 ∧ σ 58 59 = (A : Int) ∧ σ 58 60 = (N : Int) - A ∧ σ 58 61 = zOr V tu st A ∧ zMn V tu st (σ 58 62) ∧ ∀ s : Nat, s < 64 → (σ 87 s = -1 ∧ ∀ j, j < N → zOr V tu st j ≠ (s : Int)) ∨ ∃ j : Nat, j < N ∧ σ 87 s = (j : Int) ∧ zOr V tu st j = (s : Int)
theorem s_M_follows (hV : zVd V) (hT : zVt V) (h : zMV σ V) (htu : zI (σ 58 42) ∧ 0 ≤ σ 58 42) (h56 : σ 58 56 = -1) {st : Int} (hst : 0 ≤ st ∧ st < 2 ^ (V 0 4).toNat) (hX : ∀ σ', zMV σ' V → zfN σ σ' → zWm σ' V (σ 58 42) st → X none σ') : MS G zm_M_follows 6 [zr G 58, iZ st] σ X := by
  have hor := zOr_r hV (tu := σ 58 42) hst
  refine k_M_follows ?_
  refine zLP1_ind (fun x2 σ1 => ∃ i : Nat, x2 = (i : Int) ∧ i ≤ 64 ∧ (∀ q, q ≠ 87 → σ1 q = σ q) ∧ ∀ s, s < i → σ1 87 s = -1) (fun x2 _ => (64 - x2).toNat) ?_ ⟨0, rfl, by decide, fun _ _ => rfl, fun s hs => by omega⟩
  rintro K x2 σ1 ⟨i, rfl, hi, F1, z1⟩ hK
  refine ⟨by omega, fun hge => ?_, fun hlt => ⟨by omega, ?_⟩⟩
  rotate_left
  · rintro σ2 e2
    refine hK _ _ ⟨i + 1, by omega, by omega, fun q hq => by rw [e2, zupd_row hq, F1 q hq], fun s hs => ?_⟩ (by omega)
    rw [e2, Int.toNat_natCast]
    by_cases q : s = i
    · rw [q, zupd_same]
    · rw [zupd_nk q]; exact z1 s (by omega)
  clear hK
  have hi6 : i = 64 := by omega
  subst hi6
  have F1' : zfN σ σ1 := ⟨fun q a b => F1 q (by omega), fun k _ _ => by rw [F1 58 (by decide)]⟩
  refine zLP2_ind (fun x2 x3 σ2 => ∃ i : Nat, x3 = (i : Int) ∧ x2 = zOr V (σ 58 42) st i ∧ zMV σ2 V ∧ zfN σ σ2 ∧ (∀ a b, a < b → b < i → zOr V (σ 58 42) st a ≠ zOr V (σ 58 42) st b) ∧ i ≤ 64 ∧ ∀ s : Nat, s < 64 → (σ2 87 s = -1 ∧ ∀ j, j < i → zOr V (σ 58 42) st j ≠ (s : Int)) ∨ ∃ j : Nat, j < i ∧ σ2 87 s = (j : Int) ∧ zOr V (σ 58 42) st j = (s : Int)) (fun _ x3 _ => (64 - x3).toNat) ?_ ⟨0, rfl, rfl, F1'.vw h, F1', fun a b q1 q2 => by omega, by decide, fun s hs => Or.inl ⟨z1 s hs, fun j hj => by omega⟩⟩
  rintro K x2 x3 σ2 ⟨i, rfl, rfl, M2, F2, dis, hi6, wh⟩ hK
  have hoi := hor i
  have hw := wh (zOr V (σ 58 42) st i).toNat (by omega)
  refine ⟨by omega, ?_, fun hse => ?_, fun hun => ⟨by omega, ?_⟩⟩
  · rcases hw with ⟨a, -⟩ | ⟨j, a, b, -⟩ <;> omega
  · rcases hw with ⟨a, -⟩ | ⟨j, j1, j2, j3⟩
    · exact absurd a hse
    refine ⟨by omega, ?_⟩
    rw [j2]
    have hQ : zQr V (σ 58 42) st j i := ⟨j1, by omega, dis⟩
    obtain ⟨eA, eN⟩ := zLd_of hQ
    rintro σ3 e3 σ4 e4 σ5 e5 σ6 e6
    have r6 : ∀ q, q ≠ 58 → σ6 q = σ2 q := fun q hq => by rw [e6, zupd_row hq, e5, zupd_row hq, e4, zupd_row hq, e3, zupd_row hq]
    have k6 : ∀ k, k < 59 ∨ 62 < k → σ6 58 k = σ2 58 k := fun k hk => by rw [e6, zupd_nk (by omega), e5, zupd_nk (by omega), e4, zupd_nk (by omega), e3, zupd_nk (by omega)]
    have f59 : σ6 58 59 = (j : Int) := by rw [e6, zupd_nk (by decide), e5, zupd_nk (by decide), e4, zupd_nk (by decide), e3, zupd_same]
    have f60 : σ6 58 60 = (i : Int) - j := by rw [e6, zupd_nk (by decide), e5, zupd_nk (by decide), e4, zupd_same, e3, zupd_same]
    have f61 : σ6 58 61 = zOr V (σ 58 42) st j := by rw [e6, zupd_nk (by decide), e5, zupd_same]; omega
    have F6 : zfN σ σ6 := F2.trans ⟨fun q a b => r6 q b, fun k _ hk => k6 k hk⟩
    have w6 : σ6 87 = σ2 87 := r6 87 (by decide)
    refine zLP1_ind (fun x4 σ7 => ∃ n : Nat, n ≤ 64 ∧ x4 = (n : Int) - 1 ∧ (∀ q, q ≠ 58 → σ7 q = σ6 q) ∧ (∀ k, k ≠ 62 → σ7 58 k = σ6 58 k) ∧ ((σ7 58 62 = -1 ∧ ∀ s : Nat, n ≤ s → s < 64 → ¬ (j : Int) ≤ σ2 87 s) ∨ ∃ s : Nat, n ≤ s ∧ s < 64 ∧ (j : Int) ≤ σ2 87 s ∧ σ7 58 62 = (s : Int) ∧ ∀ s' : Nat, n ≤ s' → s' < 64 → (j : Int) ≤ σ2 87 s' → s ≤ s')) (fun x4 _ => (x4 + 1).toNat) ?_ ⟨64, by decide, by decide, fun _ _ => rfl, fun _ _ => rfl, Or.inl ⟨by rw [e6, zupd_same], fun s a b => by omega⟩⟩
    rintro K2 x4 σ7 ⟨n, hn, rfl, r7, k7, best⟩ hK2
    refine ⟨by omega, fun hlt => ?_, fun hge => ⟨by omega, ?_⟩⟩
    · have hn0 : n = 0 := by omega
      subst hn0
      have F7 : zfN σ σ7 := F6.trans ⟨fun q a b => r7 q b, fun k _ hk => k7 k (by omega)⟩
      have hrow : ∀ jj, j ≤ jj → jj < i → ∃ s : Nat, s < 64 ∧ zOr V (σ 58 42) st jj = (s : Int) ∧ σ2 87 s = (jj : Int) := fun jj q1 q2 => by
        have ho := hor jj
        refine ⟨(zOr V (σ 58 42) st jj).toNat, by omega, by omega, ?_⟩
        rcases wh (zOr V (σ 58 42) st jj).toNat (by omega) with ⟨a, b⟩ | ⟨l, l1, l2, l3⟩
        · exact absurd (show zOr V (σ 58 42) st jj = ((zOr V (σ 58 42) st jj).toNat : Int) by omega) (b jj q2)
        · rcases Nat.lt_trichotomy l jj with y | y | y
          · exact absurd (by omega) (dis l jj y q2)
          · rw [l2, y]
          · exact absurd (by omega) (dis jj l y l1)
      have hmn : zMn V (σ 58 42) st (σ7 58 62) := by
        unfold zMn
        rw [eA, eN]
        rcases best with ⟨b1, b2⟩ | ⟨s, s1, s2, s3, s4, s5⟩
        · obtain ⟨s, s1, s2, s3⟩ := hrow j (by omega) j1
          exact absurd (by omega) (b2 s (by omega) s1)
        · constructor
          · rcases wh s s2 with ⟨a, -⟩ | ⟨l, l1, l2, l3⟩
            · omega
            · exact ⟨l, by omega, l1, by omega⟩
          · intro jj q1 q2
            obtain ⟨s', t1, t2, t3⟩ := hrow jj q1 q2
            have := s5 s' (by omega) t1 (by omega)
            omega
      refine hX σ7 (F7.vw h) F7 ⟨j, i, hQ, hi6, by rw [k7 59 (by decide)]; exact f59, by rw [k7 60 (by decide)]; exact f60, by rw [k7 61 (by decide)]; exact f61, hmn, fun s hs => ?_⟩
      rw [r7 87 (by decide), w6]
      exact wh s hs
    · rw [r7 87 (by decide), w6, k7 59 (by decide), f59]
      have hwn := wh (n - 1) (by omega)
      have hr1 : -1 ≤ σ2 87 (n - 1) ∧ σ2 87 (n - 1) < 64 := by
        rcases hwn with ⟨a, -⟩ | ⟨l, l1, l2, -⟩ <;> omega
      rw [show ((n : Int) - 1).toNat = n - 1 by omega]
      clear hwn
      refine ⟨by omega, fun q => hK2 _ _ ⟨n - 1, by omega, by omega, r7, k7, ?_⟩ (by omega), fun q => ?_⟩
      · rcases best with ⟨b1, b2⟩ | ⟨s, s1, s2, s3, s4, s5⟩
        · refine Or.inl ⟨b1, fun s a b => ?_⟩
          by_cases y : s = n - 1
          · rw [y]; omega
          · exact b2 s (by omega) b
        · refine Or.inr ⟨s, by omega, s2, s3, s4, fun s' a b c => ?_⟩
          by_cases y : s' = n - 1
          · rw [y] at c; omega
          · exact s5 s' (by omega) b c
      · rintro σ8 e8
        refine hK2 _ _ ⟨n - 1, by omega, by omega, fun q hq => by rw [e8, zupd_row hq, r7 q hq], fun k hk => by rw [e8, zupd_nk hk, k7 k hk], Or.inr ⟨n - 1, by omega, by omega, q, by rw [e8, zupd_same]; omega, fun s' a b c => a⟩⟩ (by omega)
  · have hnew : σ2 87 (zOr V (σ 58 42) st i).toNat = -1 ∧ ∀ j, j < i → zOr V (σ 58 42) st j ≠ ((zOr V (σ 58 42) st i).toNat : Int) := by
      rcases hw with a | ⟨j, a, b, -⟩
      · exact a
      · omega
    have dis' : ∀ a b, a < b → b < i + 1 → zOr V (σ 58 42) st a ≠ zOr V (σ 58 42) st b := fun a b q1 q2 => by
      rcases (show b < i ∨ b = i by omega) with y | rfl
      · exact dis a b q1 y
      · have := hnew.2 a q1; omega
    have hle := zpig 64 (i + 1) (fun j => zOr V (σ 58 42) st j) (fun j _ => by have := hor j; exact ⟨this.1, this.2.2⟩) (fun a b q1 q2 => dis' a b q1 q2)
    rintro σ3 e3
    have F3 : zfN σ σ3 := F2.trans ⟨fun q a b => by rw [e3, zupd_row (by omega)], fun k _ _ => by rw [e3, zupd_row (by decide)]⟩
    have M3 := F3.vw h
    have e42 : σ3 58 42 = σ 58 42 := F3.2 42 (by decide) (by decide)
    refine s_M_stepped hV hT M3 (by rw [e42]; exact htu) (by rw [F3.2 56 (by decide) (by decide)]; exact h56) (by omega) (fun σ4 M4 F4 => ⟨_, rfl, ?_⟩)
    rw [e42]
    refine hK _ _ _ ⟨i + 1, by omega, rfl, M4, F3.trans F4.N, dis', hle, fun s hs => ?_⟩ (by omega)
    rw [F4.1 87 (by decide) (by decide) (by decide) (by decide), e3]
    by_cases q : s = (zOr V (σ 58 42) st i).toNat
    · rw [q, zupd_same]
      exact Or.inr ⟨i, by omega, rfl, by omega⟩
    · rw [zupd_nk q]
      rcases wh s hs with ⟨a, b⟩ | ⟨j, a, b, c⟩
      · refine Or.inl ⟨a, fun j hj => ?_⟩
        rcases (show j < i ∨ j = i by omega) with y | rfl
        · exact b j y
        · omega
      · exact Or.inr ⟨j, by omega, b, c⟩
theorem s_M_litEnd (hV : zVd V) (hT : zVt V) (h : zMV σ V) (htu : zI (σ 58 42) ∧ 0 ≤ σ 58 42) (h56 : σ 58 56 = -1) (hst : 0 ≤ σ 58 43 ∧ σ 58 43 < 2 ^ (V 0 4).toNat) (hX : ∀ σ', zMV σ' V → zfN σ σ' → X (some (iZ (zEd V (σ 58 42) (σ 58 43)))) σ') : MS G zm_M_litEnd 7 [zr G 58] σ X := by
  have hor := zOr_r hV (tu := σ 58 42) hst
  unfold zEd at hX
  refine k_M_litEnd (s_M_follows hV hT h htu h56 hst (fun σ1 M1 F1 W => ⟨rfl, ?_⟩))
  obtain ⟨A, N, hQ, hN, f59, f60, f61, -⟩ := W
  obtain ⟨eA, eN⟩ := zLd_of hQ
  rw [eA, eN] at hX
  have hAN := hQ.1
  have hoA := hor A
  rw [f60, f61]
  have e42 : σ1 58 42 = σ 58 42 := F1.2 42 (by decide) (by decide)
  refine ⟨by omega, fun q => ?_, fun q => ?_⟩
  · rw [if_pos (by omega)] at hX
    refine s_M_shines hV M1 (by rw [e42]; exact htu) (by omega) (Or.inl ⟨by rw [F1.2 56 (by decide) (by decide)]; exact h56, rfl⟩) (fun σ2 M2 F2 L2 => ⟨rfl, ?_⟩)
    rw [e42] at L2
    exact s_M_litEyes hV M2 L2 ⟨_, rfl, hX σ2 M2 (F1.trans F2.S.N)⟩
  · rw [if_neg (by omega)] at hX
    exact hX σ1 M1 F1
end MW
