section MR
variable {G : zG} {σ V D : zPH} {X : zX}
/-- what is found out of any state -/
theorem s_M_followsNow (hB : zBD V D) (h : zMI σ V D) {st : Int} (hst : 0 ≤ st ∧ st < 2 ^ (V 0 4).toNat) (hX : ∀ σ', zMI σ' V D → zfW σ σ' → zWm σ' V (D 0 0) st → X none σ') : MS G zm_M_follows 6 [zr G 58, iZ st] σ X := by
  obtain ⟨t1, t2, t3, t4⟩ := h.tu hB
  refine s_M_follows hB.1 hB.2.1 h.1 t1 t4 hst (fun σ' M F W => hX σ' (h.W F.W) F.W ?_)
  rw [← h.2.2.1.1.1]; exact W
theorem s_M_steppedNow (hB : zBD V D) (h : zMI σ V D) {st : Int} (hst : zI st ∧ 0 ≤ st) (hX : ∀ σ', zMI σ' V D → zfS σ σ' → X (some (iZ (zNx V (D 0 0) st))) σ') : MS G zm_M_stepped 5 [zr G 58, iZ st] σ X := by
  obtain ⟨t1, t2, t3, t4⟩ := h.tu hB
  rw [← h.2.2.1.1.1] at hX
  exact s_M_stepped hB.1 hB.2.1 h.1 t1 t4 hst (fun σ' M F => hX σ' (h.W F.W) F)
theorem s_M_round (hB : zBD V D) (h : zMI σ V D) {w : Int} (hw : zI w) (hX : ∀ σ' x, zRnd V D w x → zMI σ' V D → zfA σ σ' → X (some (iZ x)) σ') : MS G zm_M_round 7 [zr G 58, iZ w] σ X := by
  refine k_M_round (s_M_is hw (by decide) (by decide) (fun q1 q2 => Or.inr ⟨rfl, ?_⟩) (fun q => Or.inl ⟨rfl, hX σ _ (Or.inr (Or.inr (Or.inr (Or.inr ⟨by omega, rfl⟩)))) h zfA.rf⟩))
  rw [h.2.2.1.1.2.1]
  refine s_M_followsNow hB h (zOr_st hB) (fun σ1 M1 F1 W => ⟨rfl, ?_⟩)
  obtain ⟨A, N, hQ, hN, f59, f60, f61, hmn, -⟩ := W
  obtain ⟨eA, eN⟩ := zLd_of hQ
  refine ⟨hw, fun z => ⟨hw, fun z2 => ⟨hw, fun z3 => ?_, fun z3 => ?_⟩, fun z2 => ?_⟩, fun z => ?_⟩
  · exact hX σ1 _ (Or.inr (Or.inr (Or.inr (Or.inl ⟨by omega, hmn⟩)))) M1 F1.A
  · exact hX σ1 _ (Or.inr (Or.inr (Or.inl ⟨z3, by rw [eA]; exact f61⟩))) M1 F1.A
  · exact hX σ1 _ (Or.inr (Or.inl ⟨z2, by rw [eA, eN]; exact f60⟩)) M1 F1.A
  · exact hX σ1 _ (Or.inl ⟨z, by rw [eA]; exact f59⟩) M1 F1.A
theorem s_M_rests (hB : zBD V D) (h : zMI σ V D) {k : Int} (hk : zI k) (hX : ∀ σ' x, zRes V D k x → zMI σ' V D → zfA σ σ' → X (some (iZ x)) σ') : MS G zm_M_rests 6 [zr G 58, iZ k] σ X := by
  have h64 := (zNx_r hB.1 (tu := 0) (st := 0)).2.2
  have hpc := zpow_c (V 0 4).toNat
  have hnn := zpow_nn (V 0 4).toNat
  have hneg : k < -1 → ¬ ∃ s : Nat, (s : Int) < 2 ^ (V 0 4).toNat ∧ zNx V (D 0 0) s = (s : Int) ∧ zcn (fun s => zNx V (D 0 0) s = (s : Int)) s = k := fun z ⟨s, _, _, y⟩ => by
    have := zcn_r (fun s => zNx V (D 0 0) s = (s : Int)) s
    omega
  refine k_M_rests ⟨hk, fun hk1 => ?_, fun q => hX σ _ (Or.inr ⟨hneg q, by rw [if_neg (by omega)]⟩) h zfA.rf⟩
  refine zLP2_ind (fun x2 x3 σ2 => ∃ i : Nat, x3 = (i : Int) ∧ (i : Int) ≤ 2 ^ (V 0 4).toNat ∧ x2 = zcn (fun s => zNx V (D 0 0) s = (s : Int)) i ∧ (∀ s : Nat, s < i → ¬ (zNx V (D 0 0) s = (s : Int) ∧ zcn (fun s => zNx V (D 0 0) s = (s : Int)) s = k)) ∧ zMI σ2 V D ∧ zfA σ σ2) (fun _ x3 _ => (64 - x3).toNat) ?_ ⟨0, rfl, hnn, rfl, fun s hs => by omega, h, zfA.rf⟩
  rintro K x2 x3 σ2 ⟨i, rfl, hi, rfl, hno, M2, F2⟩ hK
  have hcr := zcn_r (fun s => zNx V (D 0 0) s = (s : Int)) i
  refine s_M_states hB.1 M2.1 ⟨_, rfl, by omega, fun hge => ?_, fun hlt => ?_⟩
  · have hie : i = 2 ^ (V 0 4).toNat := by omega
    have hnone : ¬ ∃ s : Nat, (s : Int) < 2 ^ (V 0 4).toNat ∧ zNx V (D 0 0) s = (s : Int) ∧ zcn (fun s => zNx V (D 0 0) s = (s : Int)) s = k := fun ⟨s, s1, s2⟩ => hno s (by omega) s2
    refine ⟨hk, fun q => hX σ2 _ (Or.inr ⟨hnone, by rw [if_neg q]⟩) M2 F2, fun q => hX σ2 _ (Or.inr ⟨hnone, by rw [if_pos q, hie]⟩) M2 F2⟩
  · refine s_M_steppedNow hB M2 (by omega) (fun σ3 M3 F3 => ⟨_, rfl, ?_⟩)
    have hx := zNx_r hB.1 (tu := D 0 0) (st := (i : Int))
    refine ⟨by omega, fun q => ⟨by omega, fun q2 => ?_, fun q2 => ?_⟩, fun q => ?_⟩
    · refine hK _ _ _ ⟨i + 1, by omega, by omega, ?_, fun s hs => ?_, M3, F2.trans F3.W.A⟩ (by omega)
      · simp only [zcn]; rw [zbI_t q]
      · rcases (show s < i ∨ s = i by omega) with q3 | rfl
        · exact hno s q3
        · exact fun z => q2 z.2
    · exact hX σ3 _ (Or.inl ⟨i, hlt, q, q2, rfl⟩) M3 (F2.trans F3.W.A)
    · refine hK _ _ _ ⟨i + 1, by omega, by omega, ?_, fun s hs => ?_, M3, F2.trans F3.W.A⟩ (by omega)
      · simp only [zcn]; rw [zbI_f q]; omega
      · rcases (show s < i ∨ s = i by omega) with q3 | rfl
        · exact hno s q3
        · exact fun z => q z.1
theorem s_M_drawn (hB : zBD V D) (h : zMI σ V D) {s : Int} (hs : zI s) (hX : ∀ σ' x, zDrw V D s x → zMI σ' V D → zfA σ σ' → X (some (iZ x)) σ') : MS G zm_M_drawn 7 [zr G 58, iZ s] σ X := by
  have h64 := (zNx_r hB.1 (tu := 0) (st := 0)).2.2
  have hpc := zpow_c (V 0 4).toNat
  have hnn := zpow_nn (V 0 4).toNat
  have hpos : (0 : Int) < 2 ^ (V 0 4).toNat := Int.pow_pos (by decide)
  refine k_M_drawn (s_M_states hB.1 h.1 ⟨_, rfl, s_M_is hs (by decide) (by omega) (fun q1 q2 => Or.inr ⟨rfl, ?_⟩) (fun q => Or.inl ⟨rfl, hX σ _ (Or.inr ⟨by omega, rfl⟩) h zfA.rf⟩)⟩)
  refine zLP2_ind (fun x2 x3 σ2 => ∃ i : Nat, x3 = (i : Int) ∧ (i : Int) ≤ 2 ^ (V 0 4).toNat ∧ x2 = zcn (fun f => ∃ j, (zLd V (D 0 0) (f : Int)).1 ≤ j ∧ j < (zLd V (D 0 0) (f : Int)).2 ∧ zOr V (D 0 0) (f : Int) j = s) i ∧ zMI σ2 V D ∧ zfA σ σ2) (fun _ x3 _ => (64 - x3).toNat) ?_ ⟨0, rfl, hnn, rfl, h, zfA.rf⟩
  rintro K x2 x3 σ2 ⟨i, rfl, hi, rfl, M2, F2⟩ hK
  refine s_M_states hB.1 M2.1 ⟨_, rfl, by omega, fun hge => ?_, fun hlt => ?_⟩
  · rw [show i = 2 ^ (V 0 4).toNat by omega]
    exact hX σ2 _ (Or.inl ⟨⟨q1, by omega⟩, rfl⟩) M2 F2
  · refine s_M_followsNow hB M2 ⟨by omega, hlt⟩ (fun σ3 M3 F3 W => ⟨rfl, ?_⟩)
    obtain ⟨A, N, hQ, hN, f59, f60, f61, hmn, wh⟩ := W
    obtain ⟨eA, eN⟩ := zLd_of hQ
    have hAN := hQ.1
    have hw := wh s.toNat (by omega)
    have hr1 : -1 ≤ σ3 87 s.toNat ∧ σ3 87 s.toNat < 64 := by
      rcases hw with ⟨a, -⟩ | ⟨l, l1, l2, -⟩ <;> omega
    rw [f59]
    refine ⟨by omega, by clear hw; omega, fun q => ?_, fun q => ?_⟩
    · rintro y ey
      refine hK _ _ _ ⟨i + 1, by omega, by omega, ?_, M3, F2.trans F3.A⟩ (by omega)
      simp only [zcn]
      rw [zbI_f]
      · omega
      · rintro ⟨j, j1, j2, j3⟩
        rw [eA] at j1
        rw [eN] at j2
        rcases hw with ⟨-, b⟩ | ⟨l, l1, l2, l3⟩
        · exact b j j2 (by omega)
        · rcases Nat.lt_trichotomy l j with y | y | y
          · exact hQ.2.2 l j y j2 (by omega)
          · omega
          · exact hQ.2.2 j l y l1 (by omega)
    · rintro y ey
      refine hK _ _ _ ⟨i + 1, by omega, by omega, ?_, M3, F2.trans F3.A⟩ (by omega)
      simp only [zcn]
      rw [zbI_t]
      · exact ey
      · rcases hw with ⟨a, -⟩ | ⟨l, l1, l2, l3⟩
        · omega
        · exact ⟨l, by rw [eA]; omega, by rw [eN]; exact l1, by omega⟩
theorem s_M_wish (hB : zBD V D) (h : zMI σ V D) {e w : Int} (he : zI e) (hw : zI w) (hX : ∀ σ' x D', zWsh V D e w x D' → zMI σ' V D' → zfA σ σ' → X (some (iZ x)) σ') : MS G zm_M_wish 2 [zr G 58, iZ e, iZ w] σ X := by
  have hc := hB.1.2.1
  refine k_M_wish (s_M_isEye hB.1 h.1 he (fun q1 q2 => Or.inr ⟨rfl, ?_⟩) (fun q => Or.inl ⟨rfl, hX σ _ _ (Or.inr ⟨fun z => q z.1, rfl, rfl⟩) h zfA.rf⟩))
  refine s_M_is hw (by decide) (by decide) (fun q3 q4 => Or.inr ⟨rfl, by omega, ?_⟩) (fun q => Or.inl ⟨rfl, hX σ _ _ (Or.inr ⟨fun z => q ⟨z.2.1, z.2.2⟩, rfl, rfl⟩) h zfA.rf⟩)
  rintro σ1 e1
  obtain ⟨d, hwi, hpp, ht, hwr⟩ := h.2.2.1
  have rr : ∀ r, r ≠ 1 → zupd D 1 e.toNat w r = D r := fun r hr => zupd_row hr
  have r1 : ∀ q, q ≠ 83 → σ1 q = σ q := fun q hq => by rw [e1, zupd_row hq]
  refine hX σ1 _ _ (Or.inl ⟨⟨⟨q1, q2⟩, q3, q4⟩, rfl, rfl⟩) (h.dyn (fun q a b => r1 q (by omega)) (fun k _ => by rw [r1 58 (by decide)]) ?_) (fun q hq => r1 q (by omega))
  refine ⟨by rw [rr 0 (by decide), r1 58 (by decide)]; exact d, fun i hi => ?_, by rw [rr 0 (by decide), rr 2 (by decide), rr 3 (by decide), r1 90 (by decide), r1 91 (by decide)]; exact hpp, by rw [rr 0 (by decide), rr 4 (by decide), r1 59 (by decide)]; exact ht, by rw [rr 0 (by decide), rr 5 (by decide), r1 92 (by decide)]; exact hwr⟩
  rw [e1]
  by_cases z : i = e.toNat
  · rw [z, zupd_same, zupd_same]
  · rw [zupd_nk z, zupd_nk z]; exact hwi i hi
/-- whether the wishes are met, on any board like this one -/
theorem s_M_isMet' {V' : zPH} (hB : zBD V' D) (h : zMV σ V') (h42 : 0 ≤ σ 58 42 ∧ zI (σ 58 42)) (h56 : σ 58 56 = -1) (hst : 0 ≤ σ 58 43 ∧ σ 58 43 < 2 ^ (V' 0 4).toNat) (hw : ∀ e : Nat, (e : Int) < V' 0 5 → σ 83 e = D 1 e) (h1 : ∀ σ', zMV σ' V' → zfN σ σ' → zWs V' D (zEd V' (σ 58 42) (σ 58 43)) → X (some (iZ 1)) σ') (h0 : ∀ σ', zMV σ' V' → zfN σ σ' → ¬ zWs V' D (zEd V' (σ 58 42) (σ 58 43)) → X (some (iZ 0)) σ') : MS G zm_M_isMet 8 [zr G 58] σ X := by
  have hc := hB.1.2.1
  have hEr := zEd_r hB.1 (σ 58 42) (σ 58 43)
  have hw7 := hB.2.2.2.2.2.2.2.2.1
  refine k_M_isMet (s_M_litEnd hB.1 hB.2.1 h ⟨h42.2, h42.1⟩ h56 hst (fun σ1 M1 F1 => ⟨_, rfl, by omega, fun q => ?_, fun q => h0 σ1 M1 F1 (fun z => z.1 q)⟩))
  generalize zEd V' (σ 58 42) (σ 58 43) = r at *
  have hb := M1.1.1
  refine zLP2_ind (fun x1 x2 σ2 => x1 = r ∧ σ2 = σ1 ∧ ∃ i : Nat, x2 = (i : Int) ∧ (i : Int) ≤ V' 0 5 ∧ ∀ e : Nat, e < i → (D 1 e = 1 → zbt r e) ∧ (D 1 e = 2 → ¬ zbt r e)) (fun _ x2 _ => (8 - x2).toNat) ?_ ⟨rfl, rfl, 0, rfl, hc.2.2.2.2.2.2.1, fun e he => by omega⟩
  rintro K x1 x2 σ2 ⟨rfl, hσ, i, rfl, hi, hm⟩ hK
  rw [hσ]
  unfold b_M_isMet_14
  rw [M1.2.1.2.2.2.2.2.2, F1.1 83 (by decide) (by decide)]
  have nxt : (D 1 i = 1 → zbt x1 i) ∧ (D 1 i = 2 → ¬ zbt x1 i) → (i : Int) < V' 0 5 → b_M_isMet_70 G X K x1 (i : Int) σ1 := fun a b => hK _ _ _ ⟨rfl, rfl, i + 1, by omega, by omega, fun e he => by
    rcases (show e < i ∨ e = i by omega) with z | rfl
    · exact hm e z
    · exact a⟩ (by omega)
  refine ⟨by omega, by omega, fun hge => h1 σ1 M1 F1 ⟨q, fun e he => hm e (by omega)⟩, fun hlt => ?_⟩
  rw [Int.toNat_natCast, hw i hlt]
  have w3 := hw7 i
  have hd := zbt_div (x := x1) (by omega) i
  have hm2 := zmod2 (x1 / 2 ^ i)
  have bad : ((D 1 i = 1 → zbt x1 i) ∧ (D 1 i = 2 → ¬ zbt x1 i) → False) → X (some (iZ 0)) σ1 := fun z => h0 σ1 M1 F1 (fun y => z (y.2 i hlt))
  refine ⟨by omega, by omega, fun z => nxt ⟨fun y => by omega, fun y => by omega⟩ hlt, fun z => ⟨by omega, by omega, fun z2 => ?_, fun z2 => ?_⟩⟩
  · unfold b_M_isMet_51 b_M_isMet_65
    rw [Int.toNat_natCast]
    have hn : ¬ zbt x1 i → (D 1 i = 1 → zbt x1 i) ∧ (D 1 i = 2 → ¬ zbt x1 i) := fun y => ⟨fun x => absurd x z2, fun _ => y⟩
    refine ⟨⟨by omega, by omega, by omega⟩, by omega, fun y => ⟨by decide, fun _ => nxt (hn (fun x => y (hd.mp x))) hlt, fun y => absurd rfl y⟩, fun y => ⟨by decide, fun x => absurd x (by decide), fun _ => bad (fun x => x.2 (by omega) (hd.mpr y))⟩⟩
  · unfold b_M_isMet_51 b_M_isMet_65
    rw [Int.toNat_natCast]
    refine ⟨⟨by omega, by omega, by omega⟩, by omega, fun y => ⟨by decide, fun x => absurd x (by decide), fun _ => bad (fun x => y (hd.mp (x.1 z2)))⟩, fun y => ⟨by decide, fun _ => nxt ⟨fun _ => hd.mpr y, fun x => by omega⟩ hlt, fun x => absurd rfl x⟩⟩
theorem s_M_isMet (hB : zBD V D) (h : zMI σ V D) (h1 : ∀ σ', zMI σ' V D → zfW σ σ' → zWs V D (zEd V (D 0 0) (D 0 1)) → X (some (iZ 1)) σ') (h0 : ∀ σ', zMI σ' V D → zfW σ σ' → ¬ zWs V D (zEd V (D 0 0) (D 0 1)) → X (some (iZ 0)) σ') : MS G zm_M_isMet 8 [zr G 58] σ X := by
  obtain ⟨t1, t2, t3, t4⟩ := h.tu hB
  obtain ⟨⟨d1, d2, -⟩, hw, -⟩ := h.2.2.1
  refine s_M_isMet' hB h.1 ⟨t1.2, t1.1⟩ t4 t2 hw (fun σ' M F z => h1 σ' (h.W F.W) F.W (by rw [← d1, ← d2]; exact z)) (fun σ' M F z => h0 σ' (h.W F.W) F.W (by rw [← d1, ← d2]; exact z))
theorem s_M_met (hB : zBD V D) (h : zMI σ V D) (hX : ∀ σ' x, zMet V D x → zMI σ' V D → zfA σ σ' → X (some (iZ x)) σ') : MS G zm_M_met 9 [zr G 58] σ X :=
  k_M_met (s_M_isMet hB h (fun σ' M F z => Or.inr ⟨rfl, hX σ' _ (Or.inl ⟨z, rfl⟩) M F.A⟩) (fun σ' M F z => Or.inl ⟨rfl, hX σ' _ (Or.inr ⟨z, rfl⟩) M F.A⟩))
theorem s_M_back (hB : zBD V D) (h : zMI σ V D) (hX : ∀ σ' x D', zBck V D x D' → zMI σ' V D' → zfA σ σ' → X (some (iZ x)) σ') : MS G zm_M_back 0 [zr G 58] σ X := by
  obtain ⟨⟨d1, d2, d3, d4, d5, d6, d7⟩, hw, p1, tp, im⟩ := id h.2.2.1
  have hc := hB.2.2.2.2.1
  refine k_M_back ⟨by omega, fun q => ?_, fun q => hX σ _ _ (Or.inl ⟨by omega, rfl, rfl⟩) h zfA.rf⟩
  rw [d3] at q
  rintro σ1 e1
  have en : σ1 58 68 = D 0 2 - 1 := by rw [e1, zupd_same, d3]
  rw [en]
  refine ⟨by omega, ?_⟩
  rintro σ2 e2
  have en2 : σ2 58 68 = D 0 2 - 1 := by rw [e2, zupd_nk (by decide), en]
  rw [en2]
  refine ⟨by omega, ?_⟩
  rintro σ3 e3
  have en3 : σ3 58 68 = D 0 2 - 1 := by rw [e3, zupd_nk (by decide), en2]
  rw [en3]
  have hp := p1 (D 0 2 - 1).toNat (by omega)
  have r : ∀ q, q ≠ 58 → σ3 q = σ q := fun q h1 => by rw [e3, zupd_row h1, e2, zupd_row h1, e1, zupd_row h1]
  have r0 : ∀ k, k ≠ 42 → k ≠ 43 → k ≠ 68 → σ3 58 k = σ 58 k := fun k h1 h2 h3 => by rw [e3, zupd_nk h2, e2, zupd_nk h1, e1, zupd_nk h3]
  obtain ⟨s1, s2, s3, s4⟩ := zset_v (zupd D 0 2 (D 0 2 - 1)) (D 2 (D 0 2 - 1).toNat) (D 3 (D 0 2 - 1).toNat)
  have x7 : σ3 58 42 = D 2 (D 0 2 - 1).toNat := by rw [e3, zupd_nk (by decide), e2, zupd_same, e1, zupd_row (by decide)]; exact hp.1
  have x8 : σ3 58 43 = D 3 (D 0 2 - 1).toNat := by rw [e3, zupd_same, e2, zupd_row (by decide), e1, zupd_row (by decide)]; exact hp.2
  refine hX σ3 _ _ (Or.inr ⟨q, rfl, rfl⟩) (h.dyn (fun q h1 h2 => r q (by omega)) (fun k hk => r0 k (by omega) (by omega) (by omega)) ?_) (fun q hq => r q (by omega))
  refine ⟨⟨by rw [s1, x7], by rw [s2, x8], by rw [s3 2 (by decide) (by decide), zupd_same, en3], ?_, ?_, ?_, ?_⟩, ?_, fun j hj => ?_, ?_, ?_⟩
  · rw [s3 3 (by decide) (by decide), zupd_nk (by decide), r0 1 (by decide) (by decide) (by decide)]; exact d4
  · rw [s3 4 (by decide) (by decide), zupd_nk (by decide), r0 2 (by decide) (by decide) (by decide)]; exact d5
  · rw [s3 5 (by decide) (by decide), zupd_nk (by decide), r0 3 (by decide) (by decide) (by decide)]; exact d6
  · rw [s3 6 (by decide) (by decide), zupd_nk (by decide), r0 72 (by decide) (by decide) (by decide)]; exact d7
  · rw [s4 1 (by decide), zupd_row (by decide), r 83 (by decide)]; exact hw
  · rw [s3 2 (by decide) (by decide), zupd_same] at hj
    rw [s4 2 (by decide), s4 3 (by decide), zupd_row (by decide), zupd_row (by decide), r 90 (by decide), r 91 (by decide)]
    exact p1 j (by omega)
  · rw [s3 3 (by decide) (by decide), zupd_nk (by decide), s4 4 (by decide), zupd_row (by decide), r 59 (by decide)]; exact tp
  · rw [s3 6 (by decide) (by decide), zupd_nk (by decide), s4 5 (by decide), zupd_row (by decide), r 92 (by decide)]; exact im
theorem s_M_steady (hB : zBD V D) (h : zMI σ V D) {al : Int} (hal : zI al) (hX : ∀ σ' x, zStd V D al x → zMI σ' V D → zfA σ σ' → X (some (iZ x)) σ') : MS G zm_M_steady 7 [zr G 58, iZ al] σ X := by
  have hor := zOr_r hB.1 (tu := D 0 0) (zOr_st hB)
  have hc := hB.1.2.1
  refine k_M_steady ?_
  unfold w_M_steady
  rw [h.2.2.1.1.2.1]
  refine s_M_followsNow hB h (zOr_st hB) (fun σ1 M1 F1 W => ⟨rfl, hal, ?_⟩)
  obtain ⟨A, N, hQ, hN, f59, f60, f61, hmn, -⟩ := W
  obtain ⟨eA, eN⟩ := zLd_of hQ
  have hAN := hQ.1
  have hb := M1.1.1.1
  have hey := fun st : Int => zEy_b (V := V) (tu := D 0 0) (st := st) (la := 255) (co := 7)
  have main : ∀ s0 : Int, 0 ≤ s0 → (∀ e, zbt s0 e ↔ al ≠ 0 ∧ e < (V 0 5).toNat) → b_M_steady_29 G al X s0 σ1 := by
    intro s0 hs0 hs
    rintro x3 e3
    refine zLP3_ind (fun x2 x3 x4 σ2 => ∃ i : Nat, x4 = (i : Int) ∧ A + i ≤ N ∧ x3 = zOr V (D 0 0) (D 0 1) (A + i) ∧ zMI σ2 V D ∧ zfA σ σ2 ∧ σ2 58 60 = (N : Int) - A ∧ 0 ≤ x2 ∧ ∀ e, zbt x2 e ↔ if al = 0 then ∃ j, A ≤ j ∧ j < A + i ∧ zbt (zEy V (D 0 0) (zOr V (D 0 0) (D 0 1) j) 255 7) e else e < (V 0 5).toNat ∧ ∀ j, A ≤ j → j < A + i → zbt (zEy V (D 0 0) (zOr V (D 0 0) (D 0 1) j) 255 7) e) (fun _ _ x4 _ => (64 - x4).toNat) ?_ ⟨0, rfl, by omega, by rw [e3]; exact f61, M1, F1.A, f60, hs0, fun e => ?_⟩
    rotate_left
    · rw [hs]
      by_cases z : al = 0
      · rw [if_pos z]
        exact ⟨fun y => absurd z y.1, fun ⟨j, j1, j2, _⟩ => by omega⟩
      · rw [if_neg z]
        exact ⟨fun y => ⟨y.2, fun j j1 j2 => by omega⟩, fun y => ⟨z, y.1⟩⟩
    rintro K x2 x3 x4 σ2 ⟨i, rfl, hi, rfl, M2, F2, g60, h0, hx⟩ hK
    have hoi := hor (A + i)
    unfold b_M_steady_38
    rw [g60]
    refine ⟨by omega, fun hge => ?_, fun hlt => ?_⟩
    · have hN' : A + i = N := by omega
      rw [hN'] at hx
      refine hX σ2 _ ?_ M2 F2
      unfold zStd zEs zEa
      rw [eA, eN]
      by_cases z : al = 0
      · rw [if_pos z]
        exact ⟨h0, fun e => by rw [hx, if_pos z]⟩
      · rw [if_neg z]
        refine ⟨h0, fun e => ?_⟩
        rw [hx, if_neg z]
        exact ⟨fun y => y.2, fun y => ⟨((hey _).2 e).mp (y A (by omega) hAN) |>.1, y⟩⟩
    · refine s_M_shineNow hB M2 (by omega) (fun σ3 M3 F3 L3 => ⟨rfl, hal, fun z => ?_, fun z => ?_⟩)
      · refine s_M_litEyes hB.1 M3.1 L3 ⟨_, rfl, ⟨h0, (hey _).1.1⟩, ?_⟩
        refine s_M_steppedNow hB M3 (by omega) (fun σ4 M4 F4 => ⟨_, rfl, ?_⟩)
        refine hK _ _ _ _ ⟨i + 1, by omega, by omega, rfl, M4, (F2.trans F3.W.A).trans F4.W.A, ?_, zor_nn _ _, fun e => ?_⟩ (by omega)
        · rw [F4.2 60 (by decide), F3.2 60 (by decide)]; exact g60
        · rw [zbt_or, hx, if_pos z, if_pos z]
          constructor
          · rintro (⟨j, j1, j2, j3⟩ | y)
            · exact ⟨j, j1, by omega, j3⟩
            · exact ⟨A + i, by omega, by omega, y⟩
          · rintro ⟨j, j1, j2, j3⟩
            rcases (show j < A + i ∨ j = A + i by omega) with y | rfl
            · exact Or.inl ⟨j, j1, y, j3⟩
            · exact Or.inr j3
      · refine s_M_litEyes hB.1 M3.1 L3 ⟨_, rfl, ⟨h0, (hey _).1.1⟩, ?_⟩
        refine s_M_steppedNow hB M3 (by omega) (fun σ4 M4 F4 => ⟨_, rfl, ?_⟩)
        refine hK _ _ _ _ ⟨i + 1, by omega, by omega, rfl, M4, (F2.trans F3.W.A).trans F4.W.A, ?_, zand_nn _ _, fun e => ?_⟩ (by omega)
        · rw [F4.2 60 (by decide), F3.2 60 (by decide)]; exact g60
        · rw [zbt_and, hx, if_neg z, if_neg z]
          constructor
          · rintro ⟨⟨y1, y2⟩, y3⟩
            refine ⟨y1, fun j j1 j2 => ?_⟩
            rcases (show j < A + i ∨ j = A + i by omega) with y | rfl
            · exact y2 j j1 y
            · exact y3
          · rintro ⟨y1, y2⟩
            exact ⟨⟨y1, fun j j1 j2 => y2 j j1 (by omega)⟩, y2 (A + i) (by omega) (by omega)⟩
  refine ⟨fun z => main 0 (by decide) (fun e => ⟨fun y => absurd y zbt_0, fun y => absurd z y.1⟩), fun z => ⟨by omega, ?_⟩⟩
  rw [M1.1.2.1.2.2.2.2.2.2, Int.one_mul]
  have hpos : (0 : Int) < 2 ^ (V 0 5).toNat := Int.pow_pos (by decide)
  exact ⟨by omega, main _ (by omega) (fun e => by rw [zall_bt]; exact ⟨fun y => ⟨z, y⟩, fun y => y.2⟩)⟩
theorem s_M_slow (hB : zBD V D) (h : zMI σ V D) {w : Int} (hw : zI w) (hX : ∀ σ' x, zSlw V D w x → zMI σ' V D → zfA σ σ' → X (some (iZ x)) σ') : MS G zm_M_slow 7 [zr G 58, iZ w] σ X := by
  have h64 := (zNx_r hB.1 (tu := 0) (st := 0)).2.2
  have hpc := zpow_c (V 0 4).toNat
  have hnn := zpow_nn (V 0 4).toNat
  have hpos : (0 : Int) < 2 ^ (V 0 4).toNat := Int.pow_pos (by decide)
  have main : w = 0 ∨ w = 1 → b_M_slow_11 G w X σ := fun hw1 => by
    refine zLP3_ind (fun x2 x3 x4 σ2 => ∃ i : Nat, x4 = (i : Int) ∧ (i : Int) ≤ 2 ^ (V 0 4).toNat ∧ ((i = 0 ∧ x3 = 0 ∧ x2 = -1) ∨ ∃ s : Nat, s < i ∧ x3 = (s : Int) ∧ x2 = ((zLd V (D 0 0) (s : Int)).1 : Int) ∧ x2 ≤ 64 ∧ ∀ s' : Nat, s' < i → (zLd V (D 0 0) (s' : Int)).1 < (zLd V (D 0 0) (s : Int)).1 ∨ ((zLd V (D 0 0) (s' : Int)).1 = (zLd V (D 0 0) (s : Int)).1 ∧ s ≤ s')) ∧ zMI σ2 V D ∧ zfA σ σ2) (fun _ _ x4 _ => (64 - x4).toNat) ?_ ⟨0, rfl, hnn, Or.inl ⟨rfl, rfl, rfl⟩, h, zfA.rf⟩
    rintro K x2 x3 x4 σ2 ⟨i, rfl, hi, hm, M2, F2⟩ hK
    have hmr : -1 ≤ x2 ∧ x2 ≤ 64 := by
      rcases hm with ⟨-, -, rfl⟩ | ⟨s, -, -, s3, s4, -⟩
      · decide
      · omega
    refine s_M_states hB.1 M2.1 ⟨_, rfl, ⟨by omega, by omega⟩, fun hge => ?_, fun hlt => ?_⟩
    · rcases hm with ⟨q, -, -⟩ | ⟨s, s1, rfl, s3, s4, s5⟩
      · omega
      · have hP : zSlP V D s := ⟨by omega, fun s' h' => s5 s' (by omega)⟩
        refine ⟨hw, fun q => ?_, fun q => ?_⟩
        · rw [s3]; exact hX σ2 _ (Or.inl ⟨hw1, s, hP, by rw [if_neg q]⟩) M2 F2
        · exact hX σ2 _ (Or.inl ⟨hw1, s, hP, by rw [if_pos q]⟩) M2 F2
    · refine s_M_followsNow hB M2 ⟨by omega, hlt⟩ (fun σ3 M3 F3 W => ⟨rfl, ?_⟩)
      obtain ⟨A, N, hq, hN, f59, f60, f61, hmn, -⟩ := W
      have hA := (zLd_of hq).1
      have hAN := hq.1
      rw [f59]
      have hrec : ∀ (y2 y3 : Int), (∃ s : Nat, s < i + 1 ∧ y3 = (s : Int) ∧ y2 = ((zLd V (D 0 0) (s : Int)).1 : Int) ∧ y2 ≤ 64 ∧ ∀ s' : Nat, s' < i + 1 → (zLd V (D 0 0) (s' : Int)).1 < (zLd V (D 0 0) (s : Int)).1 ∨ ((zLd V (D 0 0) (s' : Int)).1 = (zLd V (D 0 0) (s : Int)).1 ∧ s ≤ s')) → b_M_slow_52 G w X K y2 y3 (i : Int) σ3 := fun y2 y3 hy => hK _ _ _ _ ⟨i + 1, by omega, by omega, Or.inr hy, M3, F2.trans F3.A⟩ (by omega)
      refine ⟨⟨by omega, by omega⟩, fun q x3' e3' => hrec _ _ ?_, fun q => hrec _ _ ?_⟩
      · refine ⟨i, by omega, rfl, by rw [e3', hA], by omega, fun s' hs' => ?_⟩
        rcases (show s' < i ∨ s' = i by omega) with z | rfl
        · rcases hm with ⟨z0, -, rfl⟩ | ⟨s, s1, s2, s3, s4, s5⟩
          · omega
          · have := s5 s' z
            omega
        · omega
      · rcases hm with ⟨-, -, rfl⟩ | ⟨s, s1, s2, s3, s4, s5⟩
        · omega
        · refine ⟨s, by omega, s2, s3, s4, fun s' hs' => ?_⟩
          rcases (show s' < i ∨ s' = i by omega) with z | rfl
          · exact s5 s' z
          · omega
  exact k_M_slow ⟨hw, fun q => main (Or.inl q), fun q => ⟨hw, fun q2 => main (Or.inr q2), fun q2 => hX σ _ (Or.inr ⟨by omega, rfl⟩) h zfA.rf⟩⟩
end MR
