section MY
variable {G : zG} {σ V D : zPH} {X : zX}
theorem zMI.back {σ σ' V D : zPH} (hB : zBD V D) (h : zMI σ V D) (f : zfX σ σ') (e : ∀ k, k = 42 ∨ k = 43 ∨ k = 45 ∨ k = 46 ∨ k = 49 ∨ k = 50 ∨ k = 51 ∨ k = 56 → σ' 58 k = σ 58 k) : zMI σ' V D := by
  obtain ⟨r1, r2, r3, r4, r5, r6⟩ := h.2.1
  exact h.X hB f (by rw [e 42 (by omega)]; exact h.2.2.1.1.1) (by rw [e 43 (by omega)]; exact h.2.2.1.1.2.1) ⟨by rw [e 45 (by omega)]; exact r1, by rw [e 46 (by omega)]; exact r2, by rw [e 49 (by omega)]; exact r3, by rw [e 50 (by omega)]; exact r4, by rw [e 51 (by omega)]; exact r5, by rw [e 56 (by omega)]; exact r6⟩
/-- the end, for a while on another board -/
theorem s_M_litEnd2 {V' : zPH} (hB : zBD V D) (h : zMI σ V D) {σ1 : zPH} (hV' : zVd V') (hT' : zVt V') (e0 : V' 0 = V 0) (hM : zMV σ1 V') (e42 : σ1 58 42 = σ 58 42) (e43 : σ1 58 43 = σ 58 43) (e56 : σ1 58 56 = σ 58 56) (hX : ∀ σ', zfN σ1 σ' → X (some (iZ (zEd V' (D 0 0) (D 0 1)))) σ') : MS G zm_M_litEnd 7 [zr G 58] σ1 X := by
  obtain ⟨t1, t2, t3, t4⟩ := h.tu hB
  refine s_M_litEnd hV' hT' hM (by rw [e42]; exact t1) (by rw [e56]; exact t4) (by rw [e43, e0]; exact t2) (fun σ' M F => ?_)
  rw [e42, e43, h.2.2.1.1.1, h.2.2.1.1.2.1]
  exact hX σ' F
/-- met, for a while on another board -/
theorem s_M_isMet3 {V' : zPH} (hB : zBD V D) (h : zMI σ V D) {σ1 : zPH} (f : zfX σ σ1) (hV' : zVd V') (hT' : zVt V') (e0 : V' 0 = V 0) (hM : zMV σ1 V') (e42 : σ1 58 42 = σ 58 42) (e43 : σ1 58 43 = σ 58 43) (e56 : σ1 58 56 = σ 58 56) (h1 : ∀ σ', zfN σ1 σ' → zWs V D (zEd V' (D 0 0) (D 0 1)) → X (some (iZ 1)) σ') (h0 : ∀ σ', zfN σ1 σ' → ¬ zWs V D (zEd V' (D 0 0) (D 0 1)) → X (some (iZ 0)) σ') : MS G zm_M_isMet 8 [zr G 58] σ1 X := by
  obtain ⟨t1, t2, t3, t4⟩ := h.tu hB
  have e1 : zEd V' (σ1 58 42) (σ1 58 43) = zEd V' (D 0 0) (D 0 1) := by rw [e42, e43, h.2.2.1.1.1, h.2.2.1.1.2.1]
  refine s_M_isMet' (zBD_to hB e0 hV' hT') hM (by rw [e42]; exact ⟨t1.2, t1.1⟩) (by rw [e56]; exact t4) (by rw [e43, e0]; exact t2) (fun e he => by rw [f.1 83 (by decide) (by decide)]; exact h.2.2.1.2.1 e (by rw [← e0]; exact he)) (fun σ' M F z => h1 σ' F ?_) (fun σ' M F z => h0 σ' F ?_)
  · rw [e1, zWs_to e0] at z; exact z
  · rw [e1, zWs_to e0] at z; exact z
theorem zqo_c {V : zPH} {c r : Int} (h : zin_ V c r) : 12 * r + c = ((zqo c r : Nat) : Int) := by unfold zin_ at h; unfold zqo; omega
theorem s_M_isEmpty (hV : zVd V) (h : zMV σ V) {c r : Int} (hc : zI c) (hr : zI r) (h1 : zin_ V c r → V 1 (zqo c r) = 0 → X (some (iZ 1)) σ) (h0 : ¬ (zin_ V c r ∧ V 1 (zqo c r) = 0) → X (some (iZ 0)) σ) : MS G zm_M_isEmpty 2 [zr G 58, iZ c, iZ r] σ X := by
  refine k_M_isEmpty (s_M_isSquare hV h hc hr (fun hi => Or.inr ⟨rfl, ?_⟩) (fun hi => Or.inl ⟨rfl, h0 (fun z => hi z.1)⟩))
  have hv := (zqo_va hV hi).1
  have := (hV.2.2.1 _ hv).1
  exact s_M_sortAt hV h (zqo_c hi) hv ⟨_, rfl, by omega, fun z => h0 (fun y => z y.2), fun z => h1 hi z⟩
theorem s_M_needed (hB : zBD V D) (h : zMI σ V D) {c r : Int} (hc : zI c) (hr : zI r) (hX : ∀ σ' x, zNed V D c r x → zMI σ' V D → zfA σ σ' → X (some (iZ x)) σ') : MS G zm_M_needed 8 [zr G 58, iZ c, iZ r] σ X := by
  refine k_M_needed (s_M_isSquare hB.1 h.1 hc hr (fun hi => Or.inr ⟨rfl, ?_⟩) (fun hi => Or.inl ⟨rfl, hX σ _ (Or.inr ⟨fun z => hi z.1, rfl⟩) h zfA.rf⟩))
  have hv := (zqo_va hB.1 hi).1
  have hl := (zva.lt hB.1 hv).1
  have s9 := (hB.1.2.2.1 _ hv).1
  have ez := zqo_c hi
  have hc5 := hB.1.2.1
  refine s_M_sortAt hB.1 h.1 ez hv ⟨_, rfl, by omega, fun z => ?_, fun z => hX σ _ (Or.inr ⟨fun y => y.2 z, rfl⟩) h zfA.rf⟩
  refine s_M_litEnd2 hB h hB.1 hB.2.1 rfl h.1 rfl rfl rfl (fun σ1 F1 => ⟨_, rfl, ?_⟩)
  rintro σ2 e2
  have F2 : zfX σ σ2 := F1.W.X.u e2 (by decide)
  have k2 : ∀ k, k ≠ 45 → k ≠ 55 → (k < 59 ∨ 62 < k) → σ2 58 k = σ 58 k := fun k a b c => by rw [e2, zupd_nk a, F1.2 k b c]
  obtain ⟨r1, r2, r3, r4, r5, r6⟩ := h.2.1
  have e0 : zVrem V (zqo c r) 0 = V 0 := zVrem_r (by decide) (by decide) (by decide) (by decide)
  have M2 : zMV σ2 (zVrem V (zqo c r)) := zMV_rem hB.1 (F2.Bs h.2.2.2.2) (by rw [e2, zupd_same]; exact ez) (by rw [k2 46 (by decide) (by decide) (by decide)]; exact r2) (by rw [k2 49 (by decide) (by decide) (by decide)]; exact r3) (by rw [k2 50 (by decide) (by decide) (by decide)]; exact r4) (by rw [k2 51 (by decide) (by decide) (by decide)]; exact r5) hv z
  refine s_M_litEnd2 hB h (zVrem_d hB.1) ((zVch_t hB.2.1).1 _) e0 M2 (k2 42 (by decide) (by decide) (by decide)) (k2 43 (by decide) (by decide) (by decide)) (k2 56 (by decide) (by decide) (by decide)) (fun σ3 F3 => ⟨_, rfl, ?_⟩)
  rintro σ4 e4
  have F4 : zfX σ σ4 := (F2.trans F3.W.X).u e4 (by decide)
  have M4 : zMI σ4 V D := h.back hB F4 fun k hk => by
    by_cases y : k = 45
    · rw [y, e4, zupd_same]; exact r1.symm
    · rw [e4, zupd_nk y, F3.2 k (by omega) (by omega), k2 k y (by omega) (by omega)]
  have ra := zEd_r hB.1 (D 0 0) (D 0 1)
  have rb := zEd_r (zVrem_d (q0 := zqo c r) hB.1) (D 0 0) (D 0 1)
  have ia : ∀ x, (x = if zEd V (D 0 0) (D 0 1) ≠ -1 ∧ zEd (zVrem V (zqo c r)) (D 0 0) (D 0 1) ≠ -1 then zxor (zEd V (D 0 0) (D 0 1)) (zEd (zVrem V (zqo c r)) (D 0 0) (D 0 1)) else if zEd V (D 0 0) (D 0 1) = zEd (zVrem V (zqo c r)) (D 0 0) (D 0 1) then 0 else 2 ^ (V 0 5).toNat - 1) → X (some (iZ x)) σ4 := fun x hx => hX σ4 x (Or.inl ⟨⟨hi, z⟩, hx⟩) M4 F4.A
  have all : zEd V (D 0 0) (D 0 1) ≠ zEd (zVrem V (zqo c r)) (D 0 0) (D 0 1) → (zEd V (D 0 0) (D 0 1) = -1 ∨ zEd (zVrem V (zqo c r)) (D 0 0) (D 0 1) = -1) → b_M_needed_74 G c r X σ4 := fun a b => by
    have hb := M4.1.1.1
    unfold b_M_needed_74
    rw [M4.1.2.1.2.2.2.2.2.2, Int.one_mul]
    exact ⟨by omega, by omega, ia _ (by rw [if_neg (by omega), if_neg a])⟩
  refine ⟨by omega, fun a => ⟨by omega, fun b => all (by omega) (Or.inl b), fun _ => ⟨by omega, fun b => ⟨by omega, ia _ (by rw [if_pos ⟨a, b⟩])⟩, fun b => all (by omega) (Or.inr b)⟩⟩, fun a => ⟨by omega, fun b => ⟨by omega, fun _ => all (by omega) (Or.inl a), fun y => absurd a y⟩, fun b => ia _ (by rw [if_neg (by omega), if_pos (by omega)])⟩⟩
theorem s_M_shadowOf (hB : zBD V D) (h : zMI σ V D) {q : Nat} {z w : Int} (hz : z = (q : Int)) (hw : w = zEd V (D 0 0) (D 0 1)) (hv : zva V q) (h0 : V 1 q = 0) (hX : ∀ σ', zMI σ' V D → zfA σ σ' → X (some (iZ (zShv V D q))) σ') : MS G zm_M_shadowOf 8 [zr G 58, iZ z, iZ w] σ X := by
  subst hz hw
  refine k_M_shadowOf ?_
  rintro σa ea σb eb σc ec
  obtain ⟨r1, r2, r3, r4, r5, r6⟩ := h.2.1
  have Fc : zfX σ σc := ((zfX.rf.u ea (by decide)).u eb (by decide)).u ec (by decide)
  have kc : ∀ k, k ≠ 46 → k ≠ 47 → k ≠ 48 → σc 58 k = σ 58 k := fun k a b c => by rw [ec, zupd_nk c, eb, zupd_nk b, ea, zupd_nk a]
  have e0 : zVadd V q 6 (-1) 0 = V 0 := zVadd_r (by decide) (by decide) (by decide)
  have Mc : zMV σc (zVadd V q 6 (-1)) := zMV_add hB.1 (Fc.Bs h.2.2.2.2) (by rw [kc 45 (by decide) (by decide) (by decide)]; exact r1) (by rw [ec, zupd_nk (by decide), eb, zupd_nk (by decide), ea, zupd_same]) (by rw [ec, zupd_nk (by decide), eb, zupd_same]) (by rw [ec, zupd_same]) (by rw [kc 49 (by decide) (by decide) (by decide)]; exact r3) (by rw [kc 50 (by decide) (by decide) (by decide)]; exact r4) (by rw [kc 51 (by decide) (by decide) (by decide)]; exact r5) hv (Or.inr rfl)
  have hVa := zVadd_d (s := 6) (f := -1) hB.1 hv h0 (Or.inr ⟨rfl, rfl⟩)
  refine s_M_litEnd2 hB h hVa ((zVch_t hB.2.1).2.1 _ _ _) e0 Mc (kc 42 (by decide) (by decide) (by decide)) (kc 43 (by decide) (by decide) (by decide)) (kc 56 (by decide) (by decide) (by decide)) (fun σ3 F3 => ⟨_, rfl, ?_⟩)
  rintro σ4 e4
  have F4 : zfX σ σ4 := (Fc.trans F3.W.X).u e4 (by decide)
  have k4 : ∀ k, k ≠ 46 → k ≠ 47 → k ≠ 48 → k ≠ 55 → (k < 59 ∨ 62 < k) → σ4 58 k = σ 58 k := fun k a b c d e => by rw [e4, zupd_nk a, F3.2 k d e, kc k a b c]
  have M4 : zMI σ4 V D := h.back hB F4 fun k hk => by
    by_cases y : k = 46
    · rw [y, e4, zupd_same]; exact r2.symm
    · exact k4 k y (by omega) (by omega) (by omega) (by omega)
  have ra := zEd_r hB.1 (D 0 0) (D 0 1)
  have rb := zEd_r hVa (D 0 0) (D 0 1)
  have fin : ∀ x, x = zShv V D q → X (some (iZ x)) σ4 := fun x hx => by
    rw [hx]
    exact hX σ4 M4 F4.A
  unfold zShv at fin
  refine ⟨by omega, fun y => fin 0 (by rw [if_pos (Or.inl y)]), fun y => ⟨by omega, fun y2 => ⟨by omega, ?_⟩, fun y2 => fin 0 (by rw [if_pos (Or.inr y2)])⟩⟩
  have n1 := zdif_nn (x := zEd V (D 0 0) (D 0 1)) (y := zEd (zVadd V q 6 (-1)) (D 0 0) (D 0 1)) (by omega)
  have n2 := zdif_le (x := zEd V (D 0 0) (D 0 1)) (y := zEd (zVadd V q 6 (-1)) (D 0 0) (D 0 1)) (by omega)
  exact s_M_bitsOf (by omega) ⟨_, rfl, fin _ (by rw [if_neg (fun z => z.elim y y2)])⟩
theorem s_M_litEndNow (hB : zBD V D) (h : zMI σ V D) (hX : ∀ σ', zMI σ' V D → zfA σ σ' → X (some (iZ (zEd V (D 0 0) (D 0 1)))) σ') : MS G zm_M_litEnd 7 [zr G 58] σ X :=
  s_M_litEnd2 hB h hB.1 hB.2.1 rfl h.1 rfl rfl rfl (fun σ1 F1 => hX σ1 (h.W F1.W) F1.W.A)
theorem s_M_shadow (hB : zBD V D) (h : zMI σ V D) {c r : Int} (hc : zI c) (hr : zI r) (hX : ∀ σ' x, zSha V D c r x → zMI σ' V D → zfA σ σ' → X (some (iZ x)) σ') : MS G zm_M_shadow 9 [zr G 58, iZ c, iZ r] σ X := by
  refine k_M_shadow (s_M_isEmpty hB.1 h.1 hc hr (fun hi h0 => Or.inr ⟨rfl, ?_⟩) (fun hn => Or.inl ⟨rfl, hX σ _ (Or.inr ⟨hn, rfl⟩) h zfA.rf⟩))
  refine s_M_litEndNow hB h (fun σ1 M1 F1 => ⟨_, rfl, ?_⟩)
  exact s_M_shadowOf hB M1 (zqo_c hi) rfl (zqo_va hB.1 hi).1 h0 (fun σ2 M2 F2 => ⟨_, rfl, hX σ2 _ (Or.inl ⟨⟨hi, h0⟩, rfl⟩) M2 (F1.trans F2)⟩)
/-- the darkest of the first n squares -/
def zDb (V D : zPH) (n : Nat) (m x : Int) : Prop := (m = -1 ∧ x = -1 ∧ ∀ q, q < n → zva V q → V 1 q ≠ 0) ∨ ∃ q : Nat, x = (q : Int) ∧ m = zShv V D q ∧ (zva V q ∧ V 1 q = 0) ∧ q < n ∧ ∀ q', q' < n → zva V q' → V 1 q' = 0 → zShv V D q' < zShv V D q ∨ (zShv V D q' = zShv V D q ∧ q ≤ q')
theorem zDb_s {n : Nat} {m x : Int} (h : zDb V D n m x) (hn : ¬ (zva V n ∧ V 1 n = 0)) : zDb V D (n + 1) m x := by
  rcases h with ⟨a, b, c⟩ | ⟨q, a, b, c, d, e⟩
  · refine Or.inl ⟨a, b, fun q hq hv h0 => ?_⟩
    rcases (show q < n ∨ q = n by omega) with z | rfl
    · exact c q z hv h0
    · exact hn ⟨hv, h0⟩
  · refine Or.inr ⟨q, a, b, c, by omega, fun q' hq hv h0 => ?_⟩
    rcases (show q' < n ∨ q' = n by omega) with z | rfl
    · exact e q' z hv h0
    · exact absurd ⟨hv, h0⟩ hn
theorem zDb_to {n n' : Nat} {m x : Int} (h : zDb V D n m x) (hle : n ≤ n') (hn : ∀ q, n ≤ q → q < n' → ¬ zva V q) : zDb V D n' m x := by
  induction n' with
  | zero => rw [show 0 = n by omega]; exact h
  | succ k ih =>
    rcases (show n ≤ k ∨ n = k + 1 by omega) with z | z
    · exact zDb_s (ih z (fun q a b => hn q a (by omega))) (fun y => hn k z (by omega) y.1)
    · rw [← z]; exact h
theorem s_M_darkest (hB : zBD V D) (h : zMI σ V D) {w : Int} (hw : zI w) (hX : ∀ σ' x, zDrk V D w x → zMI σ' V D → zfA σ σ' → X (some (iZ x)) σ') : MS G zm_M_darkest 9 [zr G 58, iZ w] σ X := by
  have hd := hB.1.1
  refine k_M_darkest (s_M_is hw (by decide) (by decide) (fun q1 q2 => Or.inr ⟨rfl, ?_⟩) (fun q => Or.inl ⟨rfl, hX σ _ (Or.inr ⟨q, rfl⟩) h zfA.rf⟩))
  refine s_M_litEndNow hB h (fun σ1 M1 F1 => ⟨_, rfl, ?_⟩)
  refine zLP4_ind (fun x2 x3 x4 x5 σ2 => x2 = zEd V (D 0 0) (D 0 1) ∧ ∃ r : Nat, x5 = (r : Int) ∧ (r : Int) ≤ V 0 1 ∧ zDb V D (12 * r) x3 x4 ∧ zMI σ2 V D ∧ zfA σ σ2) (fun _ _ _ x5 _ => (12 - x5).toNat) ?_ ⟨rfl, 0, rfl, hd.2.2.1, Or.inl ⟨rfl, rfl, fun q hq => by omega⟩, M1, F1⟩
  rintro K24 x2 x3 x4 x5 σ2 ⟨rfl, r, rfl, hr, B2, M2, F2⟩ hK24
  have hb := M2.1.1.1
  unfold b_M_darkest_24
  rw [M2.1.2.1.2.1]
  refine ⟨by omega, by omega, fun hge => ?_, fun hlt => ?_⟩
  · have hall : ∀ q, zva V q → q < 12 * r := fun q hq => by have := hq.2; omega
    rcases B2 with ⟨rfl, rfl, c⟩ | ⟨q, rfl, rfl, c, d, e⟩
    · exact ⟨by decide, fun z => absurd rfl z, fun _ => hX σ2 _ (Or.inl ⟨⟨q1, q2⟩, Or.inr ⟨fun q hq => c q (hall q hq) hq, rfl⟩⟩) M2 F2⟩
    · have hl := (zva.lt hB.1 c.1).1
      have key : ∀ x, x = (if w = 0 then ((q % 12 : Nat) : Int) else if w = 1 then ((q / 12 : Nat) : Int) else zShv V D q) → X (some (iZ x)) σ2 := fun x hx => hX σ2 x (Or.inl ⟨⟨q1, q2⟩, Or.inl ⟨q, c, fun q' hv h0 => e q' (hall q' hv) hv h0, hx⟩⟩) M2 F2
      refine ⟨by omega, fun _ => ⟨hw, fun z => ⟨hw, fun z2 => key _ (by rw [if_neg z, if_neg z2]), fun z2 => ⟨by omega, key _ (by rw [if_neg z, if_pos z2]; omega)⟩⟩, fun z => ⟨by omega, key _ (by rw [if_pos z]; omega)⟩⟩, fun z => by omega⟩
  · refine zLP5_ind (fun x2 x3 x4 x5 x6 σ3 => x2 = zEd V (D 0 0) (D 0 1) ∧ x5 = (r : Int) ∧ ∃ c : Nat, x6 = (c : Int) ∧ (c : Int) ≤ V 0 0 ∧ zDb V D (12 * r + c) x3 x4 ∧ zMI σ3 V D ∧ zfA σ σ3) (fun _ _ _ _ x6 _ => (12 - x6).toNat) ?_ ⟨rfl, rfl, 0, rfl, hd.1, B2, M2, F2⟩
    rintro K41 y2 y3 y4 y5 y6 σ3 ⟨rfl, rfl, c, rfl, hc, B3, M3, F3⟩ hK41
    unfold b_M_darkest_41
    have hb3 := M3.1.1.1
    rw [M3.1.2.1.1]
    have hmr : -1 ≤ y3 ∧ y3 ≤ 8 := by
      rcases B3 with ⟨rfl, -, -⟩ | ⟨q, -, rfl, -⟩
      · decide
      · have := zShv_r V D q; omega
    refine ⟨by omega, by omega, fun hge2 => ?_, fun hlt2 => ?_⟩
    · refine hK24 _ _ _ _ _ ⟨rfl, r + 1, by omega, by omega, zDb_to B3 (by omega) (fun q a b hv => ?_), M3, F3⟩ (by omega)
      have := hv.1
      omega
    · have hin : zin_ V (c : Int) (r : Int) := ⟨by omega, by omega⟩
      have hq : zqo (c : Int) (r : Int) = 12 * r + c := by unfold zqo; omega
      refine s_M_isEmpty hB.1 M3.1 (by omega) (by omega) (fun _ h0 => Or.inr ⟨rfl, ?_⟩) (fun hn => Or.inl ⟨rfl, ⟨by decide, by omega⟩, fun y => by omega, fun _ => ?_⟩)
      · have hv : zva V (12 * r + c) := by rw [← hq]; exact (zqo_va hB.1 hin).1
        rw [hq] at h0
        refine s_M_shadowOf hB M3 (q := 12 * r + c) (by omega) rfl hv h0 (fun σ4 M4 F4 => ⟨_, rfl, ?_⟩)
        have sr := zShv_r V D (12 * r + c)
        refine ⟨⟨by omega, by omega⟩, fun y => ?_, fun y => ?_⟩
        · rintro x4' e4'
          refine hK41 _ _ _ _ _ _ ⟨rfl, rfl, c + 1, by omega, by omega, ?_, M4, F3.trans F4⟩ (by omega)
          refine Or.inr ⟨12 * r + c, by omega, rfl, ⟨hv, h0⟩, by omega, fun q' hq' hv' h0' => ?_⟩
          rcases (show q' < 12 * r + c ∨ q' = 12 * r + c by omega) with z | rfl
          · rcases B3 with ⟨-, -, cc⟩ | ⟨q, -, e3, -, -, ee⟩
            · exact absurd h0' (cc q' z hv')
            · have := ee q' z hv' h0'; omega
          · exact Or.inr ⟨rfl, Nat.le_refl _⟩
        · refine hK41 _ _ _ _ _ _ ⟨rfl, rfl, c + 1, by omega, by omega, ?_, M4, F3.trans F4⟩ (by omega)
          rcases B3 with ⟨e3, -, cc⟩ | ⟨q, e4, e3, cc, dd, ee⟩
          · omega
          · refine Or.inr ⟨q, e4, e3, cc, by omega, fun q' hq' hv' h0' => ?_⟩
            rcases (show q' < 12 * r + c ∨ q' = 12 * r + c by omega) with z | rfl
            · exact ee q' z hv' h0'
            · omega
      · refine hK41 _ _ _ _ _ _ ⟨rfl, rfl, c + 1, by omega, by omega, zDb_s B3 (fun y => hn ⟨hin, by rw [hq]; exact y.2⟩), M3, F3⟩ (by omega)
theorem s_M_more (hB : zBD V D) (h : zMI σ V D) {w : Int} (hw : zI w) (hX : ∀ σ' x, zMor V D w x → zMI σ' V D → zfA σ σ' → X (some (iZ x)) σ') : MS G zm_M_more 9 [zr G 58, iZ w] σ X := by
  have hd := hB.1.1
  refine k_M_more (s_M_is hw (by decide) (by decide) (fun q1 q2 => Or.inr ⟨rfl, ?_⟩) (fun q => Or.inl ⟨rfl, hX σ _ (Or.inr ⟨q, rfl⟩) h zfA.rf⟩))
  refine zLP1_ind (fun x2 σ2 => ∃ i : Nat, x2 = (i : Int) ∧ (i : Int) ≤ 24 * V 0 1 ∧ (∀ q f, zMoP V D q f → (i : Int) ≤ 2 * (q : Int) + f) ∧ zMI σ2 V D ∧ zfA σ σ2) (fun x2 _ => (288 - x2).toNat) ?_ ⟨0, rfl, by omega, fun q f hp => by have := hp.2.1; omega, h, zfA.rf⟩
  rintro K x2 σ2 ⟨i, rfl, hi, no, M2, F2⟩ hK
  have hb := M2.1.1.1
  unfold b_M_more_13
  rw [M2.1.2.1.2.1]
  refine ⟨by omega, by omega, fun hge => ?_, fun hlt => ⟨by omega, ?_⟩⟩
  · refine hX σ2 _ (Or.inl ⟨⟨q1, q2⟩, Or.inr ⟨fun q f hp => ?_, rfl⟩⟩) M2 F2
    have := no q f hp
    have hv := hp.1.1
    have h1 := hv.2
    have h2 := hv.1
    have := hp.2.1
    omega
  · rintro x3 e3
    refine ⟨by omega, by omega, ?_⟩
    rintro x4 e4
    have i3 : x3 = ((i / 24 : Nat) : Int) := by omega
    have i4 : x4 = ((i / 2 % 12 : Nat) : Int) := by omega
    have hq : zqo x4 x3 = i / 2 := by unfold zqo; rw [i3, i4]; omega
    have ff : (i : Int) % 2 = 0 ∨ (i : Int) % 2 = 1 := by omega
    have nxt : ∀ σ', zMI σ' V D → zfA σ σ' → ¬ zMoP V D (i / 2) ((i : Int) % 2) → b_M_more_116 G w X K (i : Int) σ' := fun σ' M' F' hn => by
      refine hK _ _ ⟨i + 1, by omega, by omega, fun q f hp => ?_, M', F'⟩ (by omega)
      have h1 := no q f hp
      have h2 := hp.2.1
      by_cases y : (i : Int) = 2 * (q : Int) + f
      · exact absurd (by rw [show i / 2 = q by omega, show (i : Int) % 2 = f by omega]; exact hp) hn
      · omega
    refine s_M_isEmpty hB.1 M2.1 (by omega) (by omega) (fun hin h0 => Or.inr ⟨rfl, ?_⟩) (fun hn => Or.inl ⟨rfl, nxt σ2 M2 F2 (fun hp => ?_)⟩)
    rotate_left
    · obtain ⟨⟨hv, h0⟩, -⟩ := hp
      have a := hv.1
      have b := hv.2
      exact hn ⟨⟨by omega, by omega⟩, by rw [hq]; exact h0⟩
    have hv := (zqo_va hB.1 hin).1
    rw [hq] at hv h0
    rintro σa ea σb eb
    refine ⟨by omega, ?_⟩
    rintro σc ec
    obtain ⟨r1, r2, r3, r4, r5, r6⟩ := M2.2.1
    have Fc : zfX σ2 σc := ((zfX.rf.u ea (by decide)).u eb (by decide)).u ec (by decide)
    have kc : ∀ k, k ≠ 46 → k ≠ 47 → k ≠ 48 → σc 58 k = σ2 58 k := fun k a b c => by rw [ec, zupd_nk c, eb, zupd_nk b, ea, zupd_nk a]
    have e0 : zVadd V (i / 2) 2 ((i : Int) % 2) 0 = V 0 := zVadd_r (by decide) (by decide) (by decide)
    have Mc : zMV σc (zVadd V (i / 2) 2 ((i : Int) % 2)) := zMV_add hB.1 (Fc.Bs M2.2.2.2.2) (by rw [kc 45 (by decide) (by decide) (by decide)]; exact r1) (by rw [ec, zupd_nk (by decide), eb, zupd_nk (by decide), ea, zupd_same]; omega) (by rw [ec, zupd_nk (by decide), eb, zupd_same]) (by rw [ec, zupd_same]) (by rw [kc 49 (by decide) (by decide) (by decide)]; exact r3) (by rw [kc 50 (by decide) (by decide) (by decide)]; exact r4) (by rw [kc 51 (by decide) (by decide) (by decide)]; exact r5) hv (Or.inl rfl)
    have hVa := zVadd_d (s := 2) (f := (i : Int) % 2) hB.1 hv h0 (Or.inl ⟨rfl, ff⟩)
    have bk : ∀ σ3 σ4 : zPH, zfN σc σ3 → σ4 = zupd σ3 58 46 (-1) → zMI σ4 V D ∧ zfA σ σ4 := fun σ3 σ4 F3 e4 => by
      have F4 : zfX σ2 σ4 := (Fc.trans F3.W.X).u e4 (by decide)
      refine ⟨M2.back hB F4 fun k hk => ?_, F2.trans F4.A⟩
      by_cases y : k = 46
      · rw [y, e4, zupd_same]; exact r2.symm
      · rw [e4, zupd_nk y, F3.2 k (by omega) (by omega), kc k y (by omega) (by omega)]
    refine s_M_isMet3 hB M2 Fc hVa ((zVch_t hB.2.1).2.1 _ _ _) e0 Mc (kc 42 (by decide) (by decide) (by decide)) (kc 43 (by decide) (by decide) (by decide)) (kc 56 (by decide) (by decide) (by decide)) (fun σ3 F3 hws => ⟨1, Or.inr rfl, rfl, ?_⟩) (fun σ3 F3 hws => ⟨0, Or.inl rfl, rfl, ?_⟩)
    · rintro σ4 e4
      obtain ⟨M4, F4⟩ := bk σ3 σ4 F3 e4
      have hP : zMoP V D (i / 2) ((i : Int) % 2) := ⟨⟨hv, h0⟩, ff, hws⟩
      have key : ∀ x, x = (if w = 0 then ((i / 2 % 12 : Nat) : Int) else if w = 1 then ((i / 2 / 12 : Nat) : Int) else (i : Int) % 2) → X (some (iZ x)) σ4 := fun x hx => hX σ4 x (Or.inl ⟨⟨q1, q2⟩, Or.inl ⟨i / 2, (i : Int) % 2, hP, fun q' f' hp => by
        have h1 := no q' f' hp
        have h2 := hp.2.1
        omega, hx⟩⟩) M4 F4
      exact ⟨by decide, fun y => absurd y (by decide), fun _ => ⟨hw, fun z => ⟨hw, fun z2 => ⟨by omega, key _ (by rw [if_neg z, if_neg z2])⟩, fun z2 => key _ (by rw [if_neg z, if_pos z2]; omega)⟩, fun z => key _ (by rw [if_pos z]; exact i4)⟩⟩
    · rintro σ4 e4
      obtain ⟨M4, F4⟩ := bk σ3 σ4 F3 e4
      exact ⟨by decide, fun _ => nxt σ4 M4 F4 (fun hp => hws hp.2.2), fun y => absurd rfl y⟩
theorem s_M_tint (hB : zBD V D) (h : zMI σ V D) {c r : Int} (hc : zI c) (hr : zI r) (hX : ∀ σ' x, zTnt V D c r x → zMI σ' V D → zfA σ σ' → X (some (iZ x)) σ') : MS G zm_M_tint 9 [zr G 58, iZ c, iZ r] σ X := by
  refine k_M_tint (s_M_isSquare hB.1 h.1 hc hr (fun hi => Or.inr ⟨rfl, ?_⟩) (fun hi => Or.inl ⟨rfl, hX σ _ (Or.inr ⟨fun z => hi z.1, rfl⟩) h zfA.rf⟩))
  have hv := (zqo_va hB.1 hi).1
  have s9 := (hB.1.2.2.1 _ hv).1
  refine s_M_sortAt hB.1 h.1 (zqo_c hi) hv ⟨_, rfl, by omega, fun h4 => ?_, fun z => hX σ _ (Or.inr ⟨fun y => z y.2, rfl⟩) h zfA.rf⟩
  rintro σ1 e1
  obtain ⟨r1, r2, r3, r4, r5, r6⟩ := h.2.1
  have k0 : ∀ k, k ≠ 51 → σ1 58 k = σ 58 k := fun k a => by rw [e1, zupd_nk a]
  refine zLP2_ind (fun x3 x4 σ2 => ∃ i : Nat, x4 = (i : Int) ∧ i ≤ 8 ∧ zfX σ σ2 ∧ (∀ k, k = 42 ∨ k = 43 ∨ k = 45 ∨ k = 46 ∨ k = 49 ∨ k = 50 ∨ k = 56 → σ2 58 k = σ 58 k) ∧ σ2 58 51 = ((zqo c r : Nat) : Int) ∧ ((x3 = -1 ∧ ∀ k : Int, 0 ≤ k → k < i → ¬ zWs V D (zEd (zVtin V (zqo c r) k) (D 0 0) (D 0 1))) ∨ ((0 ≤ x3 ∧ x3 < 8) ∧ zWs V D (zEd (zVtin V (zqo c r) x3) (D 0 0) (D 0 1)) ∧ ∀ k : Int, 0 ≤ k → k < x3 → ¬ zWs V D (zEd (zVtin V (zqo c r) k) (D 0 0) (D 0 1))))) (fun _ x4 _ => (8 - x4).toNat) ?_ ⟨0, rfl, by decide, zfX.rf.u e1 (by decide), fun k hk => k0 k (by omega), by rw [e1, zupd_same]; exact zqo_c hi, Or.inl ⟨rfl, fun k a b => by omega⟩⟩
  rintro K x3 x4 σ2 ⟨i, rfl, hi8, F2, k2, e51, best⟩ hK
  have x3r : -1 ≤ x3 ∧ x3 < 8 := by
    rcases best with ⟨rfl, -⟩ | ⟨z, -⟩
    · decide
    · omega
  have fin : (i = 8 ∨ x3 ≠ -1) → ∀ σ3, σ3 = zupd σ2 58 51 (-1) → X (some (iZ x3)) σ3 := fun hor σ3 e3 => by
    have M3 : zMI σ3 V D := h.back hB (F2.u e3 (by decide)) fun k hk => by
      by_cases y : k = 51
      · rw [y, e3, zupd_same]; exact r5.symm
      · rw [e3, zupd_nk y]; exact k2 k (by omega)
    have F3 := (F2.u e3 (by decide)).A
    rcases best with ⟨a, b⟩ | ⟨a, b, d⟩
    · have : i = 8 := hor.elim id (fun z => absurd a z)
      refine hX σ3 _ (Or.inl ⟨⟨hi, h4⟩, Or.inr ⟨fun k x y => b k x (by omega), a⟩⟩) M3 F3
    · exact hX σ3 _ (Or.inl ⟨⟨hi, h4⟩, Or.inl ⟨x3, a, b, d, rfl⟩⟩) M3 F3
  refine ⟨by omega, fun hge => fin (Or.inl (by omega)), fun hlt => ⟨by omega, fun y => fin (Or.inr y), fun y => ?_⟩⟩
  rintro σ3 e3
  rcases best with ⟨-, b⟩ | ⟨a, b, d⟩
  rotate_left
  · omega
  have F3 : zfX σ σ3 := F2.u e3 (by decide)
  have k3 : ∀ k, k ≠ 52 → σ3 58 k = σ2 58 k := fun k a => by rw [e3, zupd_nk a]
  have e0 : zVtin V (zqo c r) (i : Int) 0 = V 0 := zVtin_r (by decide)
  have M3 : zMV σ3 (zVtin V (zqo c r) (i : Int)) := zMV_tin hB.1 (F3.Bs h.2.2.2.2) (by rw [k3 45 (by decide), k2 45 (by omega)]; exact r1) (by rw [k3 46 (by decide), k2 46 (by omega)]; exact r2) (by rw [k3 49 (by decide), k2 49 (by omega)]; exact r3) (by rw [k3 50 (by decide), k2 50 (by omega)]; exact r4) (by rw [k3 51 (by decide)]; exact e51) (by rw [e3, zupd_same]) hv h4
  refine s_M_isMet3 hB h F3 (zVtin_d hB.1 h4 (by omega)) ((zVch_t hB.2.1).2.2.1 _ _) e0 M3 (by rw [k3 42 (by decide), k2 42 (by omega)]) (by rw [k3 43 (by decide), k2 43 (by omega)]) (by rw [k3 56 (by decide), k2 56 (by omega)]) (fun σ4 F4 hws => Or.inr ⟨rfl, ?_⟩) (fun σ4 F4 hws => Or.inl ⟨rfl, ?_⟩)
  · refine hK _ _ _ ⟨i + 1, by omega, by omega, F3.trans F4.W.X, fun k hk => by rw [F4.2 k (by omega) (by omega), k3 k (by omega), k2 k hk], by rw [F4.2 51 (by decide) (by decide), k3 51 (by decide)]; exact e51, Or.inr ⟨by omega, hws, b⟩⟩ (by omega)
  · refine hK _ _ _ ⟨i + 1, by omega, by omega, F3.trans F4.W.X, fun k hk => by rw [F4.2 k (by omega) (by omega), k3 k (by omega), k2 k hk], by rw [F4.2 51 (by decide) (by decide), k3 51 (by decide)]; exact e51, Or.inl ⟨y, fun k x z => ?_⟩⟩ (by omega)
    rcases (show k < (i : Int) ∨ k = (i : Int) by omega) with u | u
    · exact b k x u
    · rw [u]; exact hws
theorem s_M_swapped (hB : zBD V D) (h : zMI σ V D) {c r c' r' : Int} (hc : zI c) (hr : zI r) (hc' : zI c') (hr' : zI r') (hX : ∀ σ' x, zSwd V D c r c' r' x → zMI σ' V D → zfA σ σ' → X (some (iZ x)) σ') : MS G zm_M_swapped 9 [zr G 58, iZ c, iZ r, iZ c', iZ r'] σ X := by
  refine k_M_swapped (s_M_isSquare hB.1 h.1 hc hr (fun hi => Or.inr ⟨rfl, ?_⟩) (fun hi => Or.inl ⟨rfl, hX σ _ (Or.inr ⟨fun z => hi z.1, rfl⟩) h zfA.rf⟩))
  refine s_M_isSquare hB.1 h.1 hc' hr' (fun hi' => Or.inr ⟨rfl, ?_⟩) (fun hi' => Or.inl ⟨rfl, hX σ _ (Or.inr ⟨fun z => hi' z.2.1, rfl⟩) h zfA.rf⟩)
  have hv := (zqo_va hB.1 hi).1
  have hv' := (zqo_va hB.1 hi').1
  have z1 := zqo_c hi
  have z2 := zqo_c hi'
  have main : zqo c r ≠ zqo c' r' → b_M_swapped_32 G c r c' r' X σ := fun hne => by
    rintro σa ea σb eb
    obtain ⟨r1, r2, r3, r4, r5, r6⟩ := h.2.1
    have Fb : zfX σ σb := (zfX.rf.u ea (by decide)).u eb (by decide)
    have kb : ∀ k, k ≠ 49 → k ≠ 50 → σb 58 k = σ 58 k := fun k a b => by rw [eb, zupd_nk b, ea, zupd_nk a]
    have e0 : zVswp V (zqo c r) (zqo c' r') 0 = V 0 := zVswp_r (Or.inl rfl)
    have Mb : zMV σb (zVswp V (zqo c r) (zqo c' r')) := zMV_swp hB.1 (Fb.Bs h.2.2.2.2) (by rw [kb 45 (by decide) (by decide)]; exact r1) (by rw [kb 46 (by decide) (by decide)]; exact r2) (by rw [eb, zupd_nk (by decide), ea, zupd_same]; exact z1) (by rw [eb, zupd_same]; exact z2) (by rw [kb 51 (by decide) (by decide)]; exact r5) hv hv' hne
    have bk : ∀ σ3 σ4 σ5 : zPH, zfN σb σ3 → σ4 = zupd σ3 58 49 (-1) → σ5 = zupd σ4 58 50 (-1) → zMI σ5 V D ∧ zfA σ σ5 := fun σ3 σ4 σ5 F3 e4 e5 => by
      have F5 : zfX σ σ5 := ((Fb.trans F3.W.X).u e4 (by decide)).u e5 (by decide)
      refine ⟨h.back hB F5 fun k hk => ?_, F5.A⟩
      by_cases y : k = 50
      · rw [y, e5, zupd_same]; exact r4.symm
      · by_cases y2 : k = 49
        · rw [y2, e5, zupd_nk (by decide), e4, zupd_same]; exact r3.symm
        · rw [e5, zupd_nk y, e4, zupd_nk y2, F3.2 k (by omega) (by omega), kb k y2 y]
    refine s_M_isMet3 hB h Fb (zVswp_d hB.1 hv hv' hne) ((zVch_t hB.2.1).2.2.2 _ _) e0 Mb (kb 42 (by decide) (by decide)) (kb 43 (by decide) (by decide)) (kb 56 (by decide) (by decide)) (fun σ3 F3 hws => ⟨1, Or.inr rfl, rfl, ?_⟩) (fun σ3 F3 hws => ⟨0, Or.inl rfl, rfl, ?_⟩)
    · rintro σ4 e4 σ5 e5
      obtain ⟨M5, F5⟩ := bk σ3 σ4 σ5 F3 e4 e5
      exact ⟨by decide, fun y => absurd y (by decide), fun _ => hX σ5 _ (Or.inl ⟨⟨hi, hi', hne⟩, Or.inl ⟨hws, rfl⟩⟩) M5 F5⟩
    · rintro σ4 e4 σ5 e5
      obtain ⟨M5, F5⟩ := bk σ3 σ4 σ5 F3 e4 e5
      exact ⟨by decide, fun _ => hX σ5 _ (Or.inl ⟨⟨hi, hi', hne⟩, Or.inr ⟨hws, rfl⟩⟩) M5 F5, fun y => absurd rfl y⟩
  unfold zin_ at hi hi'
  have hd := hB.1.1
  refine ⟨⟨hc, hc'⟩, fun y => main (by unfold zqo; omega), fun y => ⟨⟨hr, hr'⟩, fun y2 => main (by unfold zqo; omega), fun y2 => hX σ _ (Or.inr ⟨fun z => z.2.2 (by rw [y, y2]), rfl⟩) h zfA.rf⟩⟩
end MY
