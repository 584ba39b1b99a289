theorem yjo_7 (W : zPH) (a o : Bool) : yjo W a o 0 7 = W 0 7 + (if a then 1 else 0) + (if o then 1 else 0) := by
  cases a <;> cases o
  · show W 0 7 = W 0 7 + 0 + 0; omega
  · show yadd W 3 0 0 7 = W 0 7 + 0 + 1; rw [(yadd_v W 3 0).1]; omega
  · show yadd W 2 0 0 7 = W 0 7 + 1 + 0; rw [(yadd_v W 2 0).1]; omega
  · show yadd (yadd W 2 0) 3 0 0 7 = W 0 7 + 1 + 1; rw [(yadd_v (yadd W 2 0) 3 0).1, (yadd_v W 2 0).1]
section MG
variable {G : zG} {σ W : zPH} {X : zX} {T : Nat → Int} {n p i : Nat} {l : List (Int × Bool × Bool)} {k : Int} {a o : Bool}
theorem s_M_goesOn (h : ztT σ W T n p i ((k, a, o) :: l) 1) (hkI : zI k)
  (hn : k = 2 → ∀ σ', ztT σ' (yadd W 4 0) T n p i l 1 → zfk i σ σ' → X (some (iZ 1)) σ')
  (ha : k ≠ 2 → yIs T n p 0 23 → ∀ σ', ztN σ' (yjo W a false) T n (ztE T n p) i ((k, true, o) :: l) 0 → zfk i σ σ' → X (some (iZ 1)) σ')
  (ho : k ≠ 2 → ¬ yIs T n p 0 23 → yIs T n p 0 22 → ∀ σ', ztN σ' (yjo W a o) T n (ztE T n p) i ((k, false, true) :: l) 0 → zfk i σ σ' → X (some (iZ 1)) σ')
  (he : k = 0 → ¬ yIs T n p 0 23 → ¬ yIs T n p 0 22 → ∀ σ', zmP σ' T n p → zmc σ' (yjo W a o) i → zfk i σ σ' → X (some (iZ 0)) σ')
  (hc : k ≠ 2 → k ≠ 0 → ¬ yIs T n p 0 23 → ¬ yIs T n p 0 22 → yIs T n p 3 93 → ∀ σ', ztN σ' (yjo W a o) T n (ztE T n p) i l 1 → zfk i σ σ' → X (some (iZ 1)) σ')
  (h0 : k ≠ 2 → k ≠ 0 → ¬ yIs T n p 0 23 → ¬ yIs T n p 0 22 → ¬ yIs T n p 3 93 → ∀ σ', zFt σ' 1 (ztF T n p) → zfk i σ σ' → X (some (iZ 0)) σ') : MS G zm_M_goesOn 3 [zr G 58] σ X := by
  have hB := h.b
  obtain ⟨A, c, ci, cl, cr, ct, cb⟩ := h
  have h10 := A.2.1
  have hp0 := A.2.2.1
  have hll : ((k, a, o) :: l).length = l.length + 1 := rfl
  have f80 : σ 80 l.length = k := cr.1.1
  have hpn : zpn ((k, a, o) :: l) = (if k = 2 then 1 else 0) + (if a then 1 else 0) + (if o then 1 else 0) + zpn l := rfl
  have hlz := zpn_nn l
  refine k_M_goesOn ?_
  rintro x1 ex1
  have hx1 : x1 = (l.length : Int) := by rw [ex1, cl.1, hll]; omega
  subst hx1
  clear ex1
  rw [Int.toNat_natCast, f80]
  rw [hll] at cl
  refine ⟨by omega, hkI, fun z => ?_, fun z => ?_⟩
  · rw [if_neg z] at hpn
    have hj : yjo W a false 0 7 = W 0 7 + (if a then 1 else 0) := by rw [yjo_7]; simp
    have ga : 0 ≤ (if a then (1 : Int) else 0) ∧ (if a then (1 : Int) else 0) ≤ 1 := by split <;> decide
    have go : 0 ≤ (if o then (1 : Int) else 0) ∧ (if o then (1 : Int) else 0) ≤ 1 := by split <;> decide
    have hj2 := yjo_7 W a o
    refine s_M_isWord A (i := 23) (zow_w (by rfl) (by decide)) (by decide) (by decide) (fun q => Or.inr ⟨rfl, ?_⟩) (fun q1 => Or.inl ⟨rfl, ?_⟩)
    · have hp1 := (ztw_n hp0 q.1).1
      have hp2 := (ztS_s (T := T) hp0).1.1
      refine s_M_joins (by decide) cl.1 (by omega) cr c ci.1 ci.2 (by omega) (fun σ1 R1 c1 F1 d1 => ⟨rfl, by omega, ?_⟩)
      rw [if_pos rfl] at R1 c1
      rintro σ2 e2 σ3 e3
      have r3 : ∀ q, q ≠ 58 → q ≠ 81 → σ3 q = σ1 q := fun q a b => by rw [e3, zupd_row a, e2, zupd_row b]
      have k3 : ∀ q, q ≠ 41 → σ3 58 q = σ1 58 q := fun q a => by rw [e3, zupd_nk a, e2, zupd_row (by decide)]
      have A3 : zmP σ3 T n p := A.to (by rw [r3 59 (by decide) (by decide), F1.1 59 (by decide) (by decide) (by decide) (by decide) (by decide) (by decide) (by decide)]) (fun k _ _ => by rw [k3 k (by omega), F1.2.1 k (by omega) (by omega)])
      have R3 : zfR σ3 ((k, true, o) :: l) := by
        refine ⟨⟨?_, ?_, ?_⟩, zfR_to R1.2 (fun j hj => ⟨by rw [r3 80 (by decide) (by decide)], by rw [e3, zupd_row (by decide), e2, zupd_nk (by omega)], by rw [r3 82 (by decide) (by decide)]⟩)⟩
        · rw [r3 80 (by decide) (by decide)]; exact R1.1.1
        · rw [e3, zupd_row (by decide), e2, zupd_same]; rfl
        · rw [r3 82 (by decide) (by decide)]; exact R1.1.2.2
      refine s_M_nextN A3 (fun σ4 A4 f4 => ⟨rfl, ha z q σ4 (f4.N A4 (c1.to (fun q _ => r3 q (by omega) (by omega)) (k3 34 (by decide))) (by rw [k3 35 (by decide), F1.2.1 35 (by decide) (by decide)]; exact ci) (by rw [k3 39 (by decide), d1, k3 40 (by decide), F1.2.1 40 (by decide) (by decide)]; exact cl) R3 (by rw [e3, zupd_same]) ⟨?_, by omega⟩ (by omega)) ?_⟩)
      · have : zpn ((k, true, o) :: l) = (if k = 2 then 1 else 0) + 1 + (if o then 1 else 0) + zpn l := rfl
        rw [this, if_neg z]; omega
      · exact ((F1.k.u e2 (by omega)).u e3 (by omega)).trans (f4.k (Or.inr trivial))
    refine s_M_isWord A (i := 22) (zow_w (by rfl) (by decide)) (by decide) (by decide) (fun q => Or.inr ⟨rfl, ?_⟩) (fun q2 => Or.inl ⟨rfl, ?_⟩)
    · have hp1 := (ztw_n hp0 q.1).1
      have hp2 := (ztS_s (T := T) hp0).1.1
      refine s_M_joins (by decide) cl.1 (by omega) cr c ci.1 ci.2 (by omega) (fun σ1 R1 c1 F1 d1 => ⟨rfl, by omega, ?_⟩)
      rw [if_neg (by decide)] at R1 c1
      rintro σ2 e2 σ3 e3
      have r3 : ∀ q, q ≠ 58 → q ≠ 82 → σ3 q = σ1 q := fun q a b => by rw [e3, zupd_row a, e2, zupd_row b]
      have k3 : ∀ q, q ≠ 41 → σ3 58 q = σ1 58 q := fun q a => by rw [e3, zupd_nk a, e2, zupd_row (by decide)]
      have A3 : zmP σ3 T n p := A.to (by rw [r3 59 (by decide) (by decide), F1.1 59 (by decide) (by decide) (by decide) (by decide) (by decide) (by decide) (by decide)]) (fun k _ _ => by rw [k3 k (by omega), F1.2.1 k (by omega) (by omega)])
      have R3 : zfR σ3 ((k, false, true) :: l) := by
        refine ⟨⟨?_, ?_, ?_⟩, zfR_to R1.2 (fun j hj => ⟨by rw [r3 80 (by decide) (by decide)], by rw [r3 81 (by decide) (by decide)], by rw [e3, zupd_row (by decide), e2, zupd_nk (by omega)]⟩)⟩
        · rw [r3 80 (by decide) (by decide)]; exact R1.1.1
        · rw [r3 81 (by decide) (by decide)]; exact R1.1.2.1
        · rw [e3, zupd_row (by decide), e2, zupd_same]; rfl
      refine s_M_nextN A3 (fun σ4 A4 f4 => ⟨rfl, ho z q1 q σ4 (f4.N A4 (c1.to (fun q _ => r3 q (by omega) (by omega)) (k3 34 (by decide))) (by rw [k3 35 (by decide), F1.2.1 35 (by decide) (by decide)]; exact ci) (by rw [k3 39 (by decide), d1, k3 40 (by decide), F1.2.1 40 (by decide) (by decide)]; exact cl) R3 (by rw [e3, zupd_same]) ⟨?_, by omega⟩ (by omega)) ?_⟩)
      · have : zpn ((k, false, true) :: l) = (if k = 2 then 1 else 0) + 0 + 1 + zpn l := rfl
        rw [this, if_neg z]; omega
      · exact ((F1.k.u e2 (by omega)).u e3 (by omega)).trans (f4.k (Or.inr trivial))
    refine s_M_joins (by decide) cl.1 (by omega) cr c ci.1 ci.2 (by omega) (fun σ1 R1 c1 F1 d1 => ⟨rfl, by omega, ?_⟩)
    rw [if_neg (by decide)] at R1 c1
    have g80 : σ1 80 l.length = k := R1.1.1
    rw [g80]
    have A1 : zmP σ1 T n p := A.to (F1.1 59 (by decide) (by decide) (by decide) (by decide) (by decide) (by decide) (by decide)) (fun k _ _ => F1.2.1 k (by omega) (by omega))
    refine ⟨hkI, fun y => ?_, fun y => he y q1 q2 σ1 A1 c1 F1.k⟩
    refine s_M_isSign A1 (c := 93) (by decide) (by decide) (fun q => Or.inr ⟨rfl, ?_⟩) (fun q3 => Or.inl ⟨rfl, ?_⟩)
    · have hp1 := ztE_p hp0 (show ztK T n p ≠ 4 by have := q.1; omega)
      have e10 := A1.2.1
      refine ⟨by omega, fun _ => ?_, fun w => by omega⟩
      rintro σ2 e2 σ3 e3
      have r3 : ∀ q, q ≠ 58 → σ3 q = σ1 q := fun q a => by rw [e3, zupd_row a, e2, zupd_row a]
      have k3 : ∀ q, q ≠ 39 → q ≠ 40 → σ3 58 q = σ1 58 q := fun q a b => by rw [e3, zupd_nk b, e2, zupd_nk a]
      have A3 : zmP σ3 T n p := A1.to (r3 59 (by decide)) (fun k _ _ => k3 k (by omega) (by omega))
      refine s_M_nextN A3 (fun σ4 A4 f4 => ⟨rfl, hc z y q1 q2 q σ4 (f4.N A4 (c1.to (fun q _ => r3 q (by omega)) (k3 34 (by decide) (by decide))) (by rw [k3 35 (by decide) (by decide), F1.2.1 35 (by decide) (by decide)]; exact ci) ⟨?_, ?_, by omega⟩ (R1.2.to (fun q _ => r3 q (by omega))) (by rw [k3 41 (by decide) (by decide), F1.2.1 41 (by decide) (by decide)]; exact ct) ⟨by omega, by omega⟩ (by omega)) ?_⟩)
      · rw [e3, zupd_nk (by decide), e2, zupd_same, d1, cl.1]; omega
      · rw [e3, zupd_same, e2, zupd_nk (by decide), F1.2.1 40 (by decide) (by decide), cl.2.1]; omega
      · exact ((F1.k.u e2 (by omega)).u e3 (by omega)).trans (f4.k (Or.inr trivial))
    · rw [A1.2.2.2.1.1, ← ztF_S A1.2.2.2.2]
      have b1 := zmc_b c1 (by omega)
      refine s_M_blame A1.2.1 (by decide) (fun σ2 F2 f2 _ => ⟨rfl, ?_⟩)
      have e10 := F2.1
      exact ⟨by omega, fun w => by omega, fun _ => h0 z y q1 q2 q3 σ2 ⟨F2, by rw [f2.2 34 (by decide)]; exact b1⟩ (F1.k.trans (f2.k (Or.inr trivial)))⟩
  · subst z
    have ga : 0 ≤ (if a then (1 : Int) else 0) := by split <;> decide
    have go : 0 ≤ (if o then (1 : Int) else 0) := by split <;> decide
    rw [if_pos rfl] at hpn
    refine s_M_add c ci.1 ci.2 (by omega) (fun z => absurd z (by decide)) (fun σ2 c2 F2 => ⟨rfl, ?_⟩)
    rintro σ3 e3 σ4 e4
    have r4 : ∀ q, q ≠ 58 → σ4 q = σ2 q := fun q a => by rw [e4, zupd_row a, e3, zupd_row a]
    have k4 : ∀ q, q ≠ 39 → q ≠ 40 → σ4 58 q = σ2 58 q := fun q a b => by rw [e4, zupd_nk b, e3, zupd_nk a]
    refine hn rfl σ4 ⟨A.to (by rw [r4 59 (by decide), F2.1 59 (by decide) (by decide) (by decide) (by decide)]) (fun k _ _ => by rw [k4 k (by omega) (by omega), F2.2.1 k (by omega)]), c2.to (fun q _ => r4 q (by omega)) (k4 34 (by decide) (by decide)), by rw [k4 35 (by decide) (by decide), F2.2.1 35 (by decide)]; exact ci, ⟨?_, ?_, by omega⟩, cr.2.to (fun q _ => by rw [r4 q (by omega), F2.1 q (by omega) (by omega) (by omega) (by omega)]), by rw [k4 41 (by decide) (by decide), F2.2.1 41 (by decide)]; exact ct, ?_, cb.2⟩ ((F2.k.u e3 (by omega)).u e4 (by omega))
    · rw [e4, zupd_nk (by decide), e3, zupd_same, F2.2.1 39 (by decide), cl.1]; omega
    · rw [e4, zupd_same, e3, zupd_nk (by decide), F2.2.1 40 (by decide), cl.2.1]; omega
    · rw [(yadd_v W 4 0).1]; omega
end MG
