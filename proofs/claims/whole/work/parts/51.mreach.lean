section MQ
variable {G : zG} {σ V D : zPH} {X : zX}
/-- the search from step to step -/
def zLb (S : Nat → Prop) (s : Nat → Nat → Prop) (b0 : Nat) (V σ : zPH) (L a : Nat) : Prop := ((a : Int) ≤ σ 58 55 ∧ 1 ≤ L) ∧ (∀ j : Nat, (j : Int) < σ 58 55 → ∃ m : Nat, zva V (m / 4) ∧ σ 85 j = (m : Int) ∧ zbt (σ 84 m) b0) ∧ (∀ m : Nat, m < 576 → zbt (σ 84 m) b0 → ∃ j : Nat, (j : Int) < σ 58 55 ∧ σ 85 j = (m : Int)) ∧ (∀ j m : Nat, j < a → σ 85 j = (m : Int) → zDi S s m (σ 88 m) ∧ σ 88 m < L) ∧ (∀ j m : Nat, a ≤ j → (j : Int) < σ 58 55 → σ 85 j = (m : Int) → zDi S s m L) ∧ (∀ m, zRk S s (L - 1) m → zbt (σ 84 m) b0) ∧ (∀ m : Nat, m < 576 → (∀ j, j < a → σ 85 j ≠ (m : Int)) → σ 88 m = -1)
theorem zLb_end {S : Nat → Prop} {s : Nat → Nat → Prop} {b0 : Nat} {V σ : zPH} {L a : Nat} (hV : zVd V) (h : zLb S s b0 V σ L a) (he : σ 58 55 ≤ (a : Int)) (hS : ∀ m, S m → zva V (m / 4)) (hs : ∀ n m, zva V (n / 4) → s n m → zva V (m / 4)) : ∀ m : Nat, m < 576 → (σ 88 m = -1 ∧ ¬ zRe S s m) ∨ zDi S s m (σ 88 m) := by
  obtain ⟨⟨c0, c0'⟩, c1, c2, c3, c4, c5, c6⟩ := h
  have lt4 : ∀ n, zva V (n / 4) → n < 576 := fun n hn => by have := (zva.lt hV hn).1; omega
  have cl : ∀ k m, zRk S s k m → zva V (m / 4) ∧ zbt (σ 84 m) b0 := by
    intro k
    induction k with
    | zero => exact fun m hm => ⟨hS m hm, c5 m (zRk.mono (k := 0) hm (by omega))⟩
    | succ k ih =>
      intro m hm
      rcases hm with hm | ⟨n, hn, hnm⟩
      · exact ih m hm
      · obtain ⟨i1, i2⟩ := ih n hn
        refine ⟨hs n m i1 hnm, ?_⟩
        obtain ⟨j, j1, j2⟩ := c2 n (lt4 n i1) i2
        obtain ⟨⟨d1, d2, d3⟩, d4⟩ := c3 j n (by omega) j2
        refine c5 m (zRk.mono (k := (σ 88 n - 1).toNat + 1) (Or.inr ⟨n, d2, hnm⟩) (by omega))
  intro m hm
  by_cases q : ∃ j, j < a ∧ σ 85 j = (m : Int)
  · obtain ⟨j, j1, j2⟩ := q
    exact Or.inr (c3 j m j1 j2).1
  · refine Or.inl ⟨c6 m hm (fun j hj hjm => q ⟨j, hj, hjm⟩), fun ⟨k, hk⟩ => ?_⟩
    obtain ⟨j, j1, j2⟩ := c2 m hm (cl k m hk).2
    exact q ⟨j, by omega, j2⟩
theorem s_M_isLamp (hV : zVd V) (h : zMV σ V) {k : Int} (hk : zI k) (h1 : 0 ≤ k → k < V 0 2 → X (some (iZ 1)) σ) (h0 : ¬ (0 ≤ k ∧ k < V 0 2) → X (some (iZ 0)) σ) : MS G zm_M_isLamp 1 [zr G 58, iZ k] σ X := by
  have hc := hV.2.1
  have hb := h.1.1
  refine k_M_isLamp ⟨by omega, ?_⟩
  rw [h.2.1.2.2.2.1]
  exact s_M_is hk (by decide) (by omega) (fun a b => ⟨1, Or.inr rfl, rfl, Or.inr rfl, h1 a (by omega)⟩) (fun a => ⟨0, Or.inl rfl, rfl, Or.inl rfl, h0 (by omega)⟩)
theorem s_M_reach (hB : zBD V D) (h : zMI σ V D) {l e co : Int} (hl : zI l) (he : zI e) (hco : zI co) (hX : ∀ σ' x, zRea V D l e co x → zMI σ' V D → zfA σ σ' → X (some (iZ x)) σ') : MS G zm_M_reach 4 [zr G 58, iZ l, iZ e, iZ co] σ X := by
  have hV := hB.1
  have hcn := hB.1.2.1
  obtain ⟨t1, t2, t3, t4⟩ := h.tu hB
  obtain ⟨d1, d2, -⟩ := h.2.2.1.1
  refine k_M_reach (s_M_isLamp hV h.1 hl (fun l1 l2 => Or.inr ⟨rfl, ?_⟩) (fun q => Or.inl ⟨rfl, hX σ _ (Or.inr ⟨fun z => q z.1, rfl⟩) h zfA.rf⟩))
  refine s_M_isEye hV h.1 he (fun e1 e2 => Or.inr ⟨rfl, ?_⟩) (fun q => Or.inl ⟨rfl, hX σ _ (Or.inr ⟨fun z => q z.2.1, rfl⟩) h zfA.rf⟩)
  have main : ∀ b0 : Nat, b0 < 3 → co = 2 ^ b0 → (co = 1 ∨ co = 2 ∨ co = 4) → b_M_reach_33 G l e co X σ := by
    intro b0 hb0 hcb hc3
    have hco8 : 0 ≤ co ∧ co < 8 := by omega
    have cb : ∀ b, zbt co b ↔ b = b0 := fun b => by rw [hcb, zbt_pow]
    obtain ⟨S, hSd⟩ : ∃ S : Nat → Prop, S = zvL V (2 ^ l.toNat) co b0 := ⟨_, rfl⟩
    obtain ⟨s, hsd⟩ : ∃ s : Nat → Nat → Prop, s = zvS V (D 0 0) (D 0 1) b0 := ⟨_, rfl⟩
    have hSv : ∀ m, S m → zva V (m / 4) := fun m hm => by rw [hSd] at hm; exact zvL_va hV hm
    have hsv : ∀ n m, zva V (n / 4) → s n m → zva V (m / 4) := fun n m a b => by rw [hsd] at b; exact zvS_va hV a b
    have lt4 : ∀ n, zva V (n / 4) → n < 576 := fun n hn => by have := (zva.lt hV hn).1; omega
    refine zLP1_ind (fun x4 σ1 => ∃ i : Nat, x4 = (i : Int) ∧ i ≤ 576 ∧ zfW σ σ1 ∧ (∀ m, m < i → σ1 84 m = 0) ∧ ∀ m, m < i → σ1 88 m = -1) (fun x4 _ => (576 - x4).toNat) ?_ ⟨0, rfl, by decide, zfW.rf, fun m hm => by omega, fun m hm => by omega⟩
    rintro K x4 σ1 ⟨i, rfl, hi, F1, z1, n1⟩ hK
    refine ⟨by omega, fun hge => ?_, fun hlt => ⟨by omega, ?_⟩⟩
    rotate_left
    · rintro σ2 e2
      refine ⟨by omega, ?_⟩
      rintro σ3 e3
      refine hK _ _ ⟨i + 1, by omega, by omega, F1.trans ⟨fun q a b => by rw [e3, zupd_row (by omega), e2, zupd_row (by omega)], fun k a b => by rw [e3, zupd_row (by decide), e2, zupd_row (by decide)]⟩, fun m hm => ?_, fun m hm => ?_⟩ (by omega)
      · rw [e3, zupd_row (by decide), e2, Int.toNat_natCast]
        by_cases q : m = i
        · rw [q, zupd_same]
        · rw [zupd_nk q]; exact z1 m (by omega)
      · rw [e3, Int.toNat_natCast]
        by_cases q : m = i
        · rw [q, zupd_same]
        · rw [zupd_nk q, e2, zupd_row (by decide)]; exact n1 m (by omega)
    clear hK
    have hi6 : i = 576 := by omega
    subst hi6
    rintro σ2 y2
    have F2 : zfW σ σ2 := F1.trans ⟨fun q a b => by rw [y2, zupd_row b], fun k a b => by rw [y2, zupd_nk a]⟩
    have z2 : ∀ m, m < 576 → σ2 84 m = 0 := fun m hm => by rw [y2, zupd_row (by decide)]; exact z1 m hm
    have n2 : ∀ m, m < 576 → σ2 88 m = -1 := fun m hm => by rw [y2, zupd_row (by decide)]; exact n1 m hm
    have h55 : σ2 58 55 = 0 := by rw [y2, zupd_same]
    have Q2 : zmQ σ2 V := by
      refine ⟨fun m hm => by rw [z2 m hm]; decide, by omega, ?_, fun j hj => by omega⟩
      have := zsm_3 (f := fun m => zpp (σ2 84 m)) (n := 576) (fun m hm => by show 0 ≤ zpp (σ2 84 m) ∧ zpp (σ2 84 m) ≤ 3; rw [z2 m hm]; decide)
      unfold zBs; omega
    refine zLP1_ind (fun x4 σ3 => ∃ i : Nat, x4 = (i : Int) ∧ i ≤ 144 ∧ zmQ σ3 V ∧ zAd σ2 σ3 (fun m b => zlP V (2 ^ l.toNat) i m b ∧ zbt co b)) (fun x4 _ => (144 - x4).toNat) ?_ ⟨0, rfl, by decide, Q2, zAd.rf.cg fun m b => ⟨fun z => z.elim, fun ⟨⟨q, hq, _⟩, _⟩ => by omega⟩⟩
    rintro K x4 σ3 ⟨i, rfl, hi, Q3, A3⟩ hK
    have F3 : zfW σ σ3 := F2.trans A3.fM.W
    have M3 := F3.vw h.1
    refine ⟨by omega, fun hge => ?_, fun hlt => ?_⟩
    rotate_left
    · have hcl := M3.2.2.1 i (by omega)
      have skip : ¬ (zva V i ∧ V 1 i = 1 ∧ V 2 i = l) → b_M_reach_132 G l e co X K (i : Int) σ3 := fun hn => by
        refine hK _ _ ⟨i + 1, by omega, by omega, Q3, A3.cg fun m b => ?_⟩ (by omega)
        rw [zlP_s]
        refine ⟨fun z => ⟨Or.inl z.1, z.2⟩, fun z => ⟨z.1.elim id (fun y => ?_), z.2⟩⟩
        refine absurd ⟨y.1, y.2.1, ?_⟩ hn
        have hn := ((hV.2.2.1 _ y.1).2.1 y.2.1).1
        have := y.2.2.1
        rw [← zbt_div (zpow_nn _), zbt_pow] at this
        omega
      refine s_M_sortAt' M3.1 (by omega) ⟨_, rfl, ?_⟩
      by_cases hv : zva V i
      · rw [hcl.1 hv]
        obtain ⟨v1, v2, -⟩ := hV.2.2.1 _ hv
        refine ⟨by omega, fun q => skip (fun z => q z.2.1), fun q => ?_⟩
        obtain ⟨w1, w2, w3, -⟩ := v2 q
        have hE := M3.2.2.2.2.1 i hv
        obtain ⟨g0, g1, g2, g3, g4⟩ : (i : Int) ≠ σ3 58 46 ∧ (i : Int) ≠ σ3 58 51 ∧ V 1 i = σ3 67 (zmF σ3 i).toNat ∧ V 3 i = σ3 69 (zmF σ3 i).toNat ∧ (V 1 i ≠ 4 → V 2 i = σ3 68 (zmF σ3 i).toNat ∧ 0 ≤ V 2 i) := by
          rcases M3.2.2.2.1 i hv (by omega) (by omega) (by omega) (by omega) with d | d | d
          · omega
          · omega
          · exact ⟨d.1, d.2.1, d.2.2.1, d.2.2.2.1 (by omega), d.2.2.2.2⟩
        have e70 := (hE g0).1 q
        have hf := zmF_r M3.1 (q := (i : Int)) (by omega)
        refine s_M_numberAt' M3.1 (by omega) ⟨_, rfl, ?_⟩
        rw [← (g4 (by omega)).1]
        refine ⟨⟨by omega, hl⟩, fun q2 => skip (fun z => q2 z.2.2), fun q2 => ?_⟩
        refine s_M_from M3.1 (by omega) ⟨_, rfl, by omega, s_M_from M3.1 (by omega) ⟨_, rfl, by omega, ?_⟩⟩
        rw [e70, ← g3]
        refine ⟨⟨w2.1, hco8.1⟩, s_M_sends hV M3 Q3 (w := (V 4 i).toNat) rfl (by omega) hv (by omega) (zand_8 w2) (fun σ4 M4 Q4 A4 => ⟨rfl, ?_⟩)⟩
        refine hK _ _ ⟨i + 1, by omega, by omega, Q4, (A3.tr A4).cg fun m b => ?_⟩ (by omega)
        rw [zlP_s, zbt_and]
        have hla : (2 : Int) ^ l.toNat / 2 ^ (V 2 i).toNat % 2 = 1 := by
          rw [← zbt_div (zpow_nn _), zbt_pow]; omega
        exact ⟨fun z => z.elim (fun z => ⟨Or.inl z.1, z.2⟩) (fun z => ⟨Or.inr ⟨hv, q, hla, z.2.1, z.1⟩, z.2.2⟩), fun z => z.1.elim (fun y => Or.inl ⟨y, z.2⟩) (fun y => Or.inr ⟨y.2.2.2.2, y.2.2.2.1, z.2⟩)⟩
      · have hc := hcl.2 hv
        exact ⟨hc.2, fun q => skip (fun z => hv z.1), fun q => absurd q hc.1⟩
    clear hK
    have hi1 : i = 144 := by omega
    subst hi1
    have hP : ∀ m b, (zlP V (2 ^ l.toNat) 144 m b ∧ zbt co b) ↔ b = b0 ∧ S m := by
      intro m b
      rw [hSd]
      constructor
      · rintro ⟨⟨q, -, y1, y2, y3, y4, y5⟩, y6⟩
        have := (cb b).mp y6
        subst this
        exact ⟨rfl, q, y1, y2, y3, y4, y6, y5⟩
      · rintro ⟨rfl, q, y1, y2, y3, y4, y6, y5⟩
        exact ⟨⟨q, (zva.lt hV y1).1, y1, y2, y3, y4, y5⟩, y6⟩
    have A3' := A3.cg hP
    have b3 : ∀ m, m < 576 → ∀ b, zbt (σ3 84 m) b ↔ b = b0 ∧ S m := fun m hm b => by
      rw [A3'.1, z2 m hm]
      exact ⟨fun z => z.elim (fun z => absurd z zbt_0) id, Or.inr⟩
    have n3 : ∀ m, m < 576 → σ3 88 m = -1 := fun m hm => by rw [A3.fM.1 88 (by decide) (by decide) (by decide)]; exact n2 m hm
    have di1 : ∀ m, S m → zDi S s m ((1 : Nat) : Int) := fun m hm => ⟨by decide, hm, fun k _ => by omega⟩
    have init : zLb S s b0 V σ3 1 0 := by
      refine ⟨⟨Q3.2.1, by decide⟩, fun j hj => ?_, fun m hm hbt => ?_, fun j m hj => by omega, fun j m _ hj hjm => ?_, fun m hm => ?_, fun m hm _ => n3 m hm⟩
      · obtain ⟨m, m1, m2⟩ := Q3.2.2.2 j hj
        obtain ⟨m', b, p1, p2, p3⟩ := A3'.2.2.2.1.2 j (by omega) hj
        have : m' = m := by omega
        subst this
        exact ⟨m', m1, m2, by rw [← ((b3 m' (lt4 _ m1) b).mp p2).1]; exact p2⟩
      · have hne : σ3 84 m ≠ σ2 84 m := fun z => by rw [z, z2 m hm] at hbt; exact zbt_0 hbt
        obtain ⟨j, j1, j2, j3⟩ := A3'.2.2.2.1.1 m hne
        exact ⟨j, j2, j3⟩
      · obtain ⟨m', b, p1, p2, p3⟩ := A3'.2.2.2.1.2 j (by omega) hj
        obtain ⟨m2, q1, q2⟩ := Q3.2.2.2 j hj
        have h1 : m' = m := by omega
        have h2 : m2 = m := by omega
        subst h1 h2
        exact di1 _ ((b3 _ (lt4 _ q1) b).mp p2).2
      · exact (b3 m (lt4 m (hSv m hm)) b0).mpr ⟨rfl, hm⟩
    refine zLP2_ind (fun x4 x5 σ4 => ∃ L a : Nat, x4 = (a : Int) ∧ x5 = (L : Int) ∧ L ≤ a + 1 ∧ zmQ σ4 V ∧ zfW σ σ4 ∧ (∀ m b, m < 576 → zbt (σ4 84 m) b → b = b0) ∧ zLb S s b0 V σ4 L a) (fun x4 _ _ => (2400 - x4).toNat) ?_ ⟨1, 0, rfl, rfl, by decide, Q3, F3, fun m b hm hb => ((b3 m hm b).mp hb).1, init⟩
    rintro K x4 x5 σ4 ⟨L, a, rfl, rfl, hLa, Q4, F4, o4, I4⟩ hK
    have hB4 := zBs_r Q4
    have hq4 := Q4.2.2.1
    have hh4 := Q4.2.1
    have M4 := F4.vw h.1
    have ha := I4.1.1
    refine ⟨by omega, fun hge => ?_, fun hlt => ?_⟩
    · -- the end
      have fin := zLb_end hV I4 hge hSv hsv
      have I := h.W F4
      have hbk := M4.1.1
      refine ⟨by omega, ?_⟩
      rintro x7 e7
      rw [show (8 * σ4 58 13 + e).toNat = 8 * (σ4 58 13).toNat + e.toNat by omega] at e7
      obtain ⟨g1, g2⟩ := I.2.2.2.2.2.2.2.2.1 e.toNat (by omega)
      rw [← e7] at g1 g2
      clear e7
      refine zLP3_ind (fun x6 y7 x8 σ5 => y7 = x7 ∧ σ5 = σ4 ∧ ∃ i : Nat, x8 = (i : Int) ∧ i ≤ 4 ∧ ((x6 = -1 ∧ ∀ w : Nat, w < i → ¬ zRe S s (4 * x7.toNat + w)) ∨ ((∃ w : Nat, w < i ∧ zDi S s (4 * x7.toNat + w) x6) ∧ ∀ (w : Nat) (y : Int), w < i → zDi S s (4 * x7.toNat + w) y → x6 ≤ y) ∧ x6 < 2147483647)) (fun _ _ x8 _ => (4 - x8).toNat) ?_ ⟨rfl, rfl, 0, rfl, by decide, Or.inl ⟨rfl, fun w hw => by omega⟩⟩
      rintro K x6 y7 x8 σ5 ⟨rfl, hσ, i, rfl, hi, best⟩ hK
      rw [hσ]
      have x6r : -1 ≤ x6 ∧ x6 < 2147483647 := by
        rcases best with ⟨rfl, -⟩ | ⟨⟨⟨w, _, hw⟩, _⟩, hb⟩
        · decide
        · have := hw.1; omega
      refine ⟨by omega, fun hge2 => ?_, fun hlt2 => ⟨by omega, ?_⟩⟩
      · have hi4 : i = 4 := by omega
        subst hi4
        refine hX σ4 _ (Or.inl ⟨⟨⟨l1, l2⟩, ⟨e1, e2⟩, hc3⟩, b0, hb0, hcb, ?_⟩) I F4.A
        rw [← hSd, ← hsd, g2, ]
        rcases best with ⟨z1, z2⟩ | ⟨⟨z1, z2⟩, -⟩
        · exact Or.inl ⟨z1, fun w hw => z2 w hw⟩
        · exact Or.inr ⟨z1, fun w y hw hy => z2 w y hw hy⟩
      · have hm := fin (4 * y7.toNat + i) (by omega)
        rw [show (4 * y7 + (i : Int)).toNat = 4 * y7.toNat + i by omega]
        rintro x9 e9
        rw [← e9] at hm
        have x9r : -1 ≤ x9 ∧ x9 < 2147483647 := by
          rcases hm with ⟨z, -⟩ | z
          · omega
          · by_cases y : ∃ j, j < a ∧ σ4 85 j = ((4 * y7.toNat + i : Nat) : Int)
            · obtain ⟨j, j1, j2⟩ := y
              have := (I4.2.2.2.1 j _ j1 j2).2
              have := z.1
              omega
            · have := I4.2.2.2.2.2.2 (4 * y7.toNat + i) (by omega) (fun j hj hjm => y ⟨j, hj, hjm⟩)
              omega
        have rcd : ∀ z6 : Int, ((z6 = -1 ∧ ∀ w : Nat, w < i + 1 → ¬ zRe S s (4 * y7.toNat + w)) ∨ ((∃ w : Nat, w < i + 1 ∧ zDi S s (4 * y7.toNat + w) z6) ∧ ∀ (w : Nat) (y : Int), w < i + 1 → zDi S s (4 * y7.toNat + w) y → z6 ≤ y) ∧ z6 < 2147483647) → K z6 y7 ((i : Int) + 1) σ4 := fun z6 hz => hK _ _ _ _ ⟨rfl, rfl, i + 1, by omega, by omega, hz⟩ (by omega)
        have ndi : ¬ zRe S s (4 * y7.toNat + i) → ∀ y, ¬ zDi S s (4 * y7.toNat + i) y := fun hn y hy => hn ⟨_, hy.2.1⟩
        refine ⟨by omega, fun z => rcd x6 ?_, fun z => ⟨by omega, fun z2 => rcd x9 ?_, fun z2 => ⟨⟨by omega, by omega⟩, fun z3 => rcd x6 ?_, fun z3 => rcd x9 ?_⟩⟩⟩
        · rcases hm with ⟨-, hn⟩ | hd
          · rcases best with ⟨z1, z2⟩ | ⟨⟨⟨w, w1, w2⟩, z2⟩, z3⟩
            · refine Or.inl ⟨z1, fun w hw => ?_⟩
              rcases (show w < i ∨ w = i by omega) with u | rfl
              · exact z2 w u
              · exact hn
            · refine Or.inr ⟨⟨⟨w, by omega, w2⟩, fun w y hw hy => ?_⟩, z3⟩
              rcases (show w < i ∨ w = i by omega) with u | rfl
              · exact z2 w y u hy
              · exact absurd hy (ndi hn y)
          · have := hd.1; omega
        · have hd : zDi S s (4 * y7.toNat + i) x9 := hm.elim (fun y => absurd y.1 z) id
          refine Or.inr ⟨⟨⟨i, by omega, hd⟩, fun w y hw hy => ?_⟩, x9r.2⟩
          rcases (show w < i ∨ w = i by omega) with u | rfl
          · rcases best with ⟨z1, z3⟩ | ⟨⟨⟨w', _, hw'⟩, _⟩, _⟩
            · exact absurd ⟨_, hy.2.1⟩ (z3 w u)
            · have := hw'.1; omega
          · rw [zDi_u hd hy]; exact Int.le_refl _
        · have hd : zDi S s (4 * y7.toNat + i) x9 := hm.elim (fun y => absurd y.1 z) id
          rcases best with ⟨z1, _⟩ | ⟨⟨⟨w, w1, w2⟩, z4⟩, z5⟩
          · exact absurd z1 z2
          · refine Or.inr ⟨⟨⟨w, by omega, w2⟩, fun w y hw hy => ?_⟩, z5⟩
            rcases (show w < i ∨ w = i by omega) with u | rfl
            · exact z4 w y u hy
            · rw [← zDi_u hd hy]; exact z3
        · have hd : zDi S s (4 * y7.toNat + i) x9 := hm.elim (fun y => absurd y.1 z) id
          refine Or.inr ⟨⟨⟨i, by omega, hd⟩, fun w y hw hy => ?_⟩, x9r.2⟩
          rcases (show w < i ∨ w = i by omega) with u | rfl
          · rcases best with ⟨z1, _⟩ | ⟨⟨_, z4⟩, _⟩
            · exact absurd z1 z2
            · have := z4 w y u hy; omega
          · rw [zDi_u hd hy]; exact Int.le_refl _
    · -- a level
      rintro x6 e6
      obtain ⟨⟨c0, c0'⟩, c1, c2, c3, c4, c5, c6⟩ := id I4
      obtain ⟨h0, hh0⟩ := Int.eq_ofNat_of_zero_le hh4
      rw [hh0] at e6 hlt hq4 c0 c1 c2 c4
      subst e6
      refine zLP3_ind (fun y5 y6 x7 σ5 => y5 = (L : Int) ∧ y6 = (h0 : Int) ∧ ∃ j : Nat, x7 = (j : Int) ∧ a ≤ j ∧ j ≤ h0 ∧ zmQ σ5 V ∧ zfW σ σ5 ∧ (h0 : Int) ≤ σ5 58 55 ∧ (∀ i, i < h0 → σ5 85 i = σ4 85 i) ∧ (∀ m b, m < 576 → (zbt (σ5 84 m) b ↔ zbt (σ4 84 m) b ∨ (b = b0 ∧ ∃ i n : Nat, a ≤ i ∧ i < j ∧ σ4 85 i = (n : Int) ∧ s n m))) ∧ (∀ i : Nat, h0 ≤ i → (i : Int) < σ5 58 55 → ∃ m : Nat, zva V (m / 4) ∧ σ5 85 i = (m : Int) ∧ zbt (σ5 84 m) b0 ∧ ¬ zbt (σ4 84 m) b0) ∧ (∀ m : Nat, m < 576 → zbt (σ5 84 m) b0 → ∃ i : Nat, (i : Int) < σ5 58 55 ∧ σ5 85 i = (m : Int)) ∧ (∀ i m : Nat, i < j → σ4 85 i = (m : Int) → zDi S s m (σ5 88 m) ∧ σ5 88 m ≤ L) ∧ ∀ m : Nat, m < 576 → (∀ i, i < j → σ4 85 i ≠ (m : Int)) → σ5 88 m = -1) (fun _ _ x7 _ => (2400 - x7).toNat) ?_ ⟨rfl, rfl, a, rfl, Nat.le_refl a, by omega, Q4, F4, by omega, fun _ _ => rfl, fun m b hm => ⟨Or.inl, fun z => z.elim id (fun ⟨_, i, n, q1, q2, _⟩ => by omega)⟩, fun i q1 q2 => by omega, fun m hm hbt => by obtain ⟨i, i1, i2⟩ := c2 m hm hbt; exact ⟨i, by omega, i2⟩, fun i m hi him => by have := c3 i m hi him; exact ⟨this.1, by omega⟩, fun m hm hn => c6 m hm hn⟩
      rintro K2 y5 y6 x7 σ5 ⟨rfl, rfl, j, rfl, haj, hjh, Q5, F5, g0, g1, g2, g3, g4, g5, g6⟩ hK2
      have hB5 := zBs_r Q5
      have hq5 := Q5.2.2.1
      have hh5 := Q5.2.1
      have M5 := F5.vw h.1
      refine ⟨by omega, fun hge2 => ?_, fun hlt2 => ?_⟩
      · have hj : j = h0 := by omega
        subst hj
        refine hK _ _ _ ⟨L + 1, j, rfl, by omega, by omega, Q5, F5, fun m b hm hb => ((g2 m b hm).mp hb).elim (o4 m b hm) (fun z => z.1), ?_⟩ (by omega)
        have nL : ∀ m, m < 576 → ¬ zbt (σ4 84 m) b0 → ¬ zRk S s (L - 1) m := fun m _ hn hk => hn (c5 m hk)
        have lv : ∀ i m : Nat, a ≤ i → i < j → σ4 85 i = (m : Int) → zRk S s (L - 1) m := fun i m q1 q2 q3 => by
          have := (c4 i m q1 (by omega) q3).2.1
          rwa [show ((L : Int) - 1).toNat = L - 1 by omega] at this
        have newm : ∀ m, zva V (m / 4) → zbt (σ5 84 m) b0 → ¬ zbt (σ4 84 m) b0 → zDi S s m ((L + 1 : Nat) : Int) := fun m hm q1 q2 => by
          rcases (g2 m b0 (lt4 m hm)).mp q1 with y | ⟨-, i, n, i1, i2, i3, i4⟩
          · exact absurd y q2
          · refine ⟨by omega, ?_, fun k hk => ?_⟩
            · rw [show (((L + 1 : Nat) : Int) - 1).toNat = (L - 1) + 1 by omega]
              exact Or.inr ⟨n, lv i n i1 i2 i3, i4⟩
            · rcases (show k ≤ L - 1 ∨ L ≤ k by omega) with y | y
              · exact absurd (zRk.mono hk y) (nL m (lt4 m hm) q2)
              · omega
        refine ⟨⟨g0, by omega⟩, fun i hi => ?_, fun m hm hbt => g4 m hm hbt, fun i m hi him => ?_, fun i m hi1 hi2 him => ?_, fun m hm => ?_, fun m hm hn => g6 m hm (fun i hi => by rw [← g1 i hi]; exact hn i hi)⟩
        · by_cases y : i < j
          · obtain ⟨m, m1, m2, m3⟩ := c1 i (by omega)
            exact ⟨m, m1, by rw [g1 i y]; exact m2, (g2 m b0 (lt4 m m1)).mpr (Or.inl m3)⟩
          · obtain ⟨m, m1, m2, m3, -⟩ := g3 i (by omega) hi
            exact ⟨m, m1, m2, m3⟩
        · rw [g1 i hi] at him
          have := g5 i m hi him
          exact ⟨this.1, by omega⟩
        · obtain ⟨m', m1, m2, m3, m4⟩ := g3 i hi1 hi2
          have : m' = m := by omega
          subst this
          exact newm m' m1 m3 m4
        · rw [show L + 1 - 1 = (L - 1) + 1 by omega] at hm
          rcases hm with y | ⟨n, n1, n2⟩
          · have hm5 := c5 m y
            have hmv : m < 576 := by
              by_cases u : m < 576
              · exact u
              · exact absurd (zRe.ind (P := fun n => zva V (n / 4)) hSv (fun n m _ hv hs => hsv n m hv hs) ⟨_, y⟩) (fun v => u (lt4 m v))
            exact (g2 m b0 hmv).mpr (Or.inl hm5)
          · have hnv : zva V (n / 4) := zRe.ind (P := fun n => zva V (n / 4)) hSv (fun n m _ hv hs => hsv n m hv hs) ⟨_, n1⟩
            have hmv := hsv n m hnv n2
            obtain ⟨i, i1, i2⟩ := c2 n (lt4 n hnv) (c5 n n1)
            by_cases y : a ≤ i
            · exact (g2 m b0 (lt4 m hmv)).mpr (Or.inr ⟨rfl, i, n, y, by omega, i2, n2⟩)
            · obtain ⟨⟨u1, u2, u3⟩, u4⟩ := c3 i n (by omega) i2
              exact (g2 m b0 (lt4 m hmv)).mpr (Or.inl (c5 m (zRk.mono (k := (σ4 88 n - 1).toNat + 1) (Or.inr ⟨n, u2, n2⟩) (by omega))))
      · obtain ⟨n, n1, n2, n3⟩ := c1 j (by omega)
        have hnl := lt4 n n1
        have hLj := c4 j n haj (by omega) n2
        rw [Int.toNat_natCast, g1 j (by omega), n2]
        refine ⟨by omega, by omega, ?_⟩
        rintro σ6 e6
        rw [Int.toNat_natCast] at e6
        have r6 : ∀ q, q ≠ 88 → σ6 q = σ5 q := fun q hq => by rw [e6, zupd_row hq]
        rw [r6 85 (by decide), g1 j (by omega), n2, r6 58 (by decide)]
        refine ⟨by omega, by omega, by omega, by omega, ?_⟩
        have F6 : zfW σ σ6 := F5.trans ⟨fun q a b => by rw [r6 q (by omega)], fun k a b => by rw [r6 58 (by decide)]⟩
        have M6 := F6.vw h.1
        have eBs : zBs σ6 576 = zBs σ5 576 := by unfold zBs; rw [r6 84 (by decide)]
        have Q6 : zmQ σ6 V := by unfold zmQ; rw [eBs, r6 84 (by decide), r6 58 (by decide), r6 85 (by decide)]; exact Q5
        have e42 : σ6 58 42 = D 0 0 := by rw [F6.2 42 (by decide) (by decide)]; exact d1
        have e43 : σ5 58 43 = D 0 1 := by rw [F5.2 43 (by decide) (by decide)]; exact d2
        rw [e43]
        refine s_M_goes hV M6 Q6 (by rw [e42, ← d1]; exact t1) (by rw [← d2]; exact ⟨t3, t2.1⟩) (n := n) (by omega) (by omega) n1 hco8 (fun σ7 M7 Q7 A7 => ⟨rfl, ?_⟩)
        rw [e42] at A7
        have A7' := A7.cg (Q := fun m b => b = b0 ∧ s n m) fun m b => by
          rw [cb, hsd]
          exact ⟨fun z => ⟨z.1, by rw [← z.1]; exact z.2⟩, fun z => ⟨z.1, by rw [z.1]; exact z.2⟩⟩
        have h67 := A7'.2.1
        rw [r6 58 (by decide)] at h67
        have e88 : σ7 88 = σ6 88 := A7.fM.1 88 (by decide) (by decide) (by decide)
        have bit7 : ∀ m b, zbt (σ7 84 m) b ↔ zbt (σ5 84 m) b ∨ (b = b0 ∧ s n m) := fun m b => by rw [A7'.1, r6 84 (by decide)]
        have st7 : ∀ i : Nat, (i : Int) < σ5 58 55 → σ7 85 i = σ5 85 i := fun i hi => by rw [A7'.2.2.1 i (by rw [r6 58 (by decide)]; exact hi), r6 85 (by decide)]
        refine hK2 _ _ _ _ ⟨rfl, rfl, j + 1, by omega, by omega, by omega, Q7, F6.trans A7.fM.W, by omega, fun i hi => by rw [st7 i (by omega), g1 i hi], fun m b hm => ?_, fun i hi1 hi2 => ?_, fun m hm hbt => ?_, fun i m hi him => ?_, fun m hm hn => ?_⟩ (by omega)
        · rw [bit7, g2 m b hm]
          constructor
          · rintro ((y | ⟨y, i, n', i1, i2, i3, i4⟩) | ⟨y1, y2⟩)
            · exact Or.inl y
            · exact Or.inr ⟨y, i, n', i1, by omega, i3, i4⟩
            · exact Or.inr ⟨y1, j, n, haj, by omega, n2, y2⟩
          · rintro (y | ⟨y, i, n', i1, i2, i3, i4⟩)
            · exact Or.inl (Or.inl y)
            · rcases (show i < j ∨ i = j by omega) with u | rfl
              · exact Or.inl (Or.inr ⟨y, i, n', i1, u, i3, i4⟩)
              · have : n' = n := by omega
                subst this
                exact Or.inr ⟨y, i4⟩
        · by_cases y : (i : Int) < σ5 58 55
          · obtain ⟨m, m1, m2, m3, m4⟩ := g3 i hi1 y
            exact ⟨m, m1, by rw [st7 i y]; exact m2, (bit7 m b0).mpr (Or.inl m3), m4⟩
          · obtain ⟨m, m1, m2⟩ := Q7.2.2.2 i hi2
            obtain ⟨m', b, p1, p2, p3⟩ := A7'.2.2.2.1.2 i (by rw [r6 58 (by decide)]; omega) hi2
            have : m' = m := by omega
            subst this
            rw [r6 84 (by decide)] at p3
            have hb : b = b0 := by
              rcases (bit7 m' b).mp p2 with u | u
              · exact absurd u p3
              · exact u.1
            subst hb
            exact ⟨m', m1, m2, p2, fun u => p3 ((g2 m' b (lt4 m' m1)).mpr (Or.inl u))⟩
        · by_cases y : zbt (σ5 84 m) b0
          · obtain ⟨i, i1, i2⟩ := g4 m hm y
            exact ⟨i, by omega, by rw [st7 i i1]; exact i2⟩
          · have hne : σ7 84 m ≠ σ6 84 m := fun z => by rw [z, r6 84 (by decide)] at hbt; exact y hbt
            obtain ⟨i, i1, i2, i3⟩ := A7'.2.2.2.1.1 m hne
            exact ⟨i, i2, i3⟩
        · rw [e88, e6]
          by_cases y : m = n
          · rw [y, zupd_same]; exact ⟨hLj, Int.le_refl _⟩
          · rw [zupd_nk y]
            rcases (show i < j ∨ i = j by omega) with u | rfl
            · exact g5 i m u him
            · omega
        · rw [e88, e6, zupd_nk (fun z => hn j (by omega) (by rw [z]; exact n2))]
          exact g6 m hm (fun i hi => hn i (by omega))
  exact ⟨hco, fun q => main 0 (by decide) (by rw [q]; rfl) (Or.inl q), fun _ => ⟨hco, fun q => main 1 (by decide) (by rw [q]; rfl) (Or.inr (Or.inl q)), fun _ => ⟨hco, fun q => main 2 (by decide) (by rw [q]; rfl) (Or.inr (Or.inr q)), fun _ => hX σ _ (Or.inr ⟨fun z => by omega, rfl⟩) h zfA.rf⟩⟩⟩
end MQ
