/-! What the model finds out by changing something for a while -/
def zfX (σ σ' : zPH) : Prop := (∀ q, (q < 84 ∨ 89 < q) → q ≠ 58 → σ' q = σ q) ∧ ∀ k, (k < 42 ∨ 65 < k) → σ' 58 k = σ 58 k
theorem zfX.rf {σ : zPH} : zfX σ σ := ⟨fun _ _ _ => rfl, fun _ _ => rfl⟩
theorem zfX.trans {σ σ1 σ2 : zPH} (h : zfX σ σ1) (h2 : zfX σ1 σ2) : zfX σ σ2 := ⟨fun q a b => by rw [h2.1 q a b, h.1 q a b], fun k hk => by rw [h2.2 k hk, h.2 k hk]⟩
theorem zfW.X {σ σ' : zPH} (h : zfW σ σ') : zfX σ σ' := ⟨h.1, fun k hk => h.2 k (by omega) (by omega)⟩
theorem zfX.A {σ σ' : zPH} (h : zfX σ σ') : zfA σ σ' := fun q hq => h.1 q (by omega) (by omega)
theorem zfX.u {σ σ1 σ2 : zPH} {k : Nat} {x : Int} (h : zfX σ σ1) (e : σ2 = zupd σ1 58 k x) (hk : 42 ≤ k ∧ k ≤ 65) : zfX σ σ2 := h.trans ⟨fun q a b => by rw [e, zupd_row b], fun j hj => by rw [e, zupd_nk (by omega)]⟩
theorem zfX.Bs {σ σ' V : zPH} (h : zfX σ σ') (hb : zmBs σ V) : zmBs σ' V := hb.to (fun q a b => h.1 q (by omega) (by omega)) (h.2 13 (by omega))
theorem zMI.X {σ σ' V D : zPH} (hB : zBD V D) (h : zMI σ V D) (f : zfX σ σ') (e42 : σ' 58 42 = D 0 0) (e43 : σ' 58 43 = D 0 1) (hr : zMR σ') : zMI σ' V D := by
  obtain ⟨h1, h2, h3, h4, h5⟩ := h
  refine ⟨zMV_0 hB.1 (f.Bs h5) hr, hr, ?_, ?_, f.Bs h5⟩
  · unfold zMD at *
    rw [e42, e43, f.2 68 (by omega), f.2 1 (by omega), f.2 2 (by omega), f.2 3 (by omega), f.2 72 (by omega), f.1 83 (by omega) (by omega), f.1 90 (by omega) (by omega), f.1 91 (by omega) (by omega), f.1 59 (by omega) (by omega), f.1 92 (by omega) (by omega)]
    exact ⟨⟨rfl, rfl, h3.1.2.2⟩, h3.2⟩
  · unfold zMN at *
    rw [f.1 71 (by decide) (by decide), f.2 13 (by decide)]; exact h4
theorem zMR_N {σ σ' : zPH} (h : zMR σ) (f : zfN σ σ') : zMR σ' := by
  unfold zMR at *
  rw [f.2 45 (by decide) (by decide), f.2 46 (by decide) (by decide), f.2 49 (by decide) (by decide), f.2 50 (by decide) (by decide), f.2 51 (by decide) (by decide), f.2 56 (by decide) (by decide)]
  exact h
section MX
variable {G : zG} {σ V D : zPH} {X : zX}
/-- met, for a while with other mirrors turned, another state -/
theorem s_M_isMet2 (hB : zBD V D) (h : zMI σ V D) {σ1 : zPH} (f : zfX σ σ1) (hr : zMR σ1) {tu st : Int} (e42 : σ1 58 42 = tu) (e43 : σ1 58 43 = st) (htu : 0 ≤ tu ∧ zI tu) (hst : 0 ≤ st ∧ st < 2 ^ (V 0 4).toNat) (h1 : ∀ σ', zfN σ1 σ' → zWs V D (zEd V tu st) → X (some (iZ 1)) σ') (h0 : ∀ σ', zfN σ1 σ' → ¬ zWs V D (zEd V tu st) → X (some (iZ 0)) σ') : MS G zm_M_isMet 8 [zr G 58] σ1 X := by
  subst e42 e43
  refine s_M_isMet' hB (zMV_0 hB.1 (f.Bs h.2.2.2.2) hr) htu hr.2.2.2.2.2 hst (fun e he => by rw [f.1 83 (by decide) (by decide)]; exact h.2.2.1.2.1 e he) (fun σ' M F z => h1 σ' F z) (fun σ' M F z => h0 σ' F z)
theorem zMR_u {σ σ' : zPH} {k : Nat} {x : Int} (h : zMR σ) (e : σ' = zupd σ 58 k x) (hk : k ≠ 45 ∧ k ≠ 46 ∧ k ≠ 49 ∧ k ≠ 50 ∧ k ≠ 51 ∧ k ≠ 56) : zMR σ' := by
  unfold zMR at *
  rw [e, zupd_nk (by omega), zupd_nk (by omega), zupd_nk (by omega), zupd_nk (by omega), zupd_nk (by omega), zupd_nk (by omega)]
  exact h
theorem s_M_fewest (hB : zBD V D) (h : zMI σ V D) {w : Int} (hw : zI w) (hX : ∀ σ' x, zFew V D w x → zMI σ' V D → zfA σ σ' → X (some (iZ x)) σ') : MS G zm_M_fewest 9 [zr G 58, iZ w] σ X := by
  have hr := hB.r
  have hc := hB.1.2.1
  have p8 := zpow_le (show (V 0 3).toNat ≤ 8 by omega)
  rw [show (2 : Int) ^ 8 = 256 from rfl] at p8
  have hnn := zpow_nn (V 0 3).toNat
  have hpc := zpow_c (V 0 3).toNat
  obtain ⟨d1, d2, -⟩ := h.2.2.1.1
  refine k_M_fewest ?_
  rintro x2 e2
  rw [d1] at e2
  refine zLP3_ind (fun y2 x3 x4 σ1 => y2 = D 0 0 ∧ ∃ i : Nat, x4 = (i : Int) ∧ (i : Int) ≤ 2 ^ (V 0 3).toNat ∧ zfX σ σ1 ∧ zMR σ1 ∧ σ1 58 43 = D 0 1 ∧ ((x3 = -1 ∧ ∀ k : Int, k < i → ¬ zFwP V D k) ∨ (zFwP V D x3 ∧ x3 < i ∧ ∀ k : Int, k < i → zFwP V D k → zpp x3 < zpp k ∨ (zpp x3 = zpp k ∧ x3 ≤ k)))) (fun _ _ x4 _ => (256 - x4).toNat) ?_ ⟨e2, 0, rfl, hnn, zfX.rf, h.2.1, d2, Or.inl ⟨rfl, fun k hk z => by have := z.1; omega⟩⟩
  rintro K y2 x3 x4 σ1 ⟨rfl, i, rfl, hi, F1, R1, e43, best⟩ hK
  have B1 := F1.Bs h.2.2.2.2
  have hb := B1.1
  have x3r : -1 ≤ x3 ∧ x3 < 256 := by
    rcases best with ⟨rfl, -⟩ | ⟨⟨z, -⟩, z2, -⟩
    · decide
    · omega
  unfold b_M_fewest_10
  rw [B1.2.1.2.2.2.2.1, Int.one_mul]
  have tryit : (i : Int) < 2 ^ (V 0 3).toNat → (x3 = -1 ∨ zpp (i : Int) < zpp x3) → b_M_fewest_46 G w X K (D 0 0) x3 (i : Int) σ1 := fun hlt hbet => by
    refine ⟨⟨by omega, by omega⟩, ?_⟩
    rintro σ2 e2
    have xr := zxor_lt' (n := 8) (a := D 0 0) (b := (i : Int)) (by rw [show (2 : Int) ^ 8 = 256 from rfl]; omega) (by rw [show (2 : Int) ^ 8 = 256 from rfl]; omega)
    rw [show (2 : Int) ^ 8 = 256 from rfl] at xr
    refine s_M_isMet2 hB h (F1.u e2 (by decide)) (zMR_u R1 e2 (by decide)) (tu := zxor (D 0 0) (i : Int)) (st := D 0 1) (by rw [e2, zupd_same]) (by rw [e2, zupd_nk (by decide)]; exact e43) (by omega) (zOr_st hB) (fun σ3 F3 hws => Or.inr ⟨rfl, ?_⟩) (fun σ3 F3 hws => Or.inl ⟨rfl, ?_⟩)
    · have hP : zFwP V D (i : Int) := ⟨by omega, hws⟩
      refine hK _ _ _ _ ⟨rfl, i + 1, by omega, by omega, (F1.u e2 (by decide)).trans F3.W.X, zMR_N (zMR_u R1 e2 (by decide)) F3, by rw [F3.2 43 (by decide) (by decide), e2, zupd_nk (by decide)]; exact e43, Or.inr ⟨hP, by omega, fun k hk hk2 => ?_⟩⟩ (by omega)
      rcases (show k < (i : Int) ∨ k = (i : Int) by omega) with z | z
      · rcases best with ⟨y1, y2⟩ | ⟨y1, y2, y3⟩
        · exact absurd hk2 (y2 k z)
        · have := y3 k z hk2
          have := y1.1
          omega
      · rw [z]; omega
    · have hP : ¬ zFwP V D (i : Int) := fun z => hws z.2
      refine hK _ _ _ _ ⟨rfl, i + 1, by omega, by omega, (F1.u e2 (by decide)).trans F3.W.X, zMR_N (zMR_u R1 e2 (by decide)) F3, by rw [F3.2 43 (by decide) (by decide), e2, zupd_nk (by decide)]; exact e43, ?_⟩ (by omega)
      rcases best with ⟨y1, y2⟩ | ⟨y1, y2, y3⟩
      · refine Or.inl ⟨y1, fun k hk => ?_⟩
        rcases (show k < (i : Int) ∨ k = (i : Int) by omega) with z | z
        · exact y2 k z
        · rw [z]; exact hP
      · refine Or.inr ⟨y1, by omega, fun k hk hk2 => ?_⟩
        rcases (show k < (i : Int) ∨ k = (i : Int) by omega) with z | z
        · exact y3 k z hk2
        · rw [z] at hk2; exact absurd hk2 hP
  refine ⟨by omega, by omega, by omega, fun hge => ?_, fun hlt => ?_⟩
  · rintro σ2 e2
    have hres : ∀ σ' x, zFew V D w x → σ' = σ2 → X (some (iZ x)) σ' := fun σ' x hf e => by
      rw [e]
      exact hX σ2 x hf (h.X hB (F1.u e2 (by decide)) (by rw [e2, zupd_same]) (by rw [e2, zupd_nk (by decide)]; exact e43) (zMR_u R1 e2 (by decide))) (F1.u e2 (by decide)).A
    rcases best with ⟨rfl, y2⟩ | ⟨y1, y2, y3⟩
    · exact ⟨by decide, fun _ => hres _ _ (Or.inr ⟨fun k hk => y2 k (by have := hk.1; omega) hk, rfl⟩) rfl, fun z => absurd rfl z⟩
    · have hp := y1.1
      have key : ∀ x, x = (if w = 0 then zpp x3 else x3) → zFew V D w x := fun x hx => Or.inl ⟨x3, ⟨y1, fun k hk => y3 k (by have := hk.1; omega) hk⟩, hx⟩
      refine ⟨by omega, fun z => by omega, fun _ => ⟨hw, fun z => ?_, fun z => ?_⟩⟩
      · exact s_M_bitsOf (by omega) ⟨_, rfl, hres _ _ (key _ (by rw [if_pos z])) rfl⟩
      · exact hres _ _ (key _ (by rw [if_neg z])) rfl
  · refine ⟨by omega, fun z => tryit hlt (Or.inl z), fun z => ?_⟩
    refine s_M_bitsOf (by omega) ⟨_, rfl, s_M_bitsOf (by omega) ⟨_, rfl, ?_⟩⟩
    have q1 := zpp_r (i : Int)
    have q2 := zpp_r x3
    refine ⟨by omega, fun y => tryit hlt (Or.inr y), fun y => ?_⟩
    refine hK _ _ _ _ ⟨rfl, i + 1, by omega, by omega, F1, R1, e43, ?_⟩ (by omega)
    rcases best with ⟨y1, y2⟩ | ⟨y1, y2, y3⟩
    · exact absurd y1 z
    · refine Or.inr ⟨y1, by omega, fun k hk hk2 => ?_⟩
      rcases (show k < (i : Int) ∨ k = (i : Int) by omega) with z | z
      · exact y3 k z hk2
      · rw [z]; omega
theorem s_M_near (hB : zBD V D) (h : zMI σ V D) (hX : ∀ σ' x, zNea V D x → zMI σ' V D → zfA σ σ' → X (some (iZ x)) σ') : MS G zm_M_near 9 [zr G 58] σ X := by
  have hr := hB.r
  have h64 := (zNx_r hB.1 (tu := 0) (st := 0)).2.2
  have hnn := zpow_nn (V 0 4).toNat
  have hpc := zpow_c (V 0 4).toNat
  obtain ⟨d1, d2, -⟩ := h.2.2.1.1
  have xr : ∀ k : Int, 0 ≤ k → k < 64 → 0 ≤ zxor k (D 0 1) ∧ zxor k (D 0 1) < 256 := fun k a b => by
    have := zxor_lt' (n := 8) (a := k) (b := D 0 1) (by rw [show (2 : Int) ^ 8 = 256 from rfl]; omega) (by rw [show (2 : Int) ^ 8 = 256 from rfl]; omega)
    rw [show (2 : Int) ^ 8 = 256 from rfl] at this
    exact this
  refine k_M_near ?_
  rintro x1 e1
  rw [d2] at e1
  refine zLP3_ind (fun y1 x2 x3 σ1 => y1 = D 0 1 ∧ ∃ i : Nat, x3 = (i : Int) ∧ (i : Int) ≤ 2 ^ (V 0 4).toNat ∧ zfX σ σ1 ∧ zMR σ1 ∧ σ1 58 42 = D 0 0 ∧ ((x2 = -1 ∧ ∀ k : Int, k < i → ¬ zNrP V D k) ∨ (zNrP V D x2 ∧ x2 < i ∧ ∀ k : Int, k < i → zNrP V D k → zpp (zxor x2 (D 0 1)) < zpp (zxor k (D 0 1)) ∨ (zpp (zxor x2 (D 0 1)) = zpp (zxor k (D 0 1)) ∧ x2 ≤ k)))) (fun _ _ x3 _ => (64 - x3).toNat) ?_ ⟨e1, 0, rfl, hnn, zfX.rf, h.2.1, d1, Or.inl ⟨rfl, fun k hk z => by have := z.1; omega⟩⟩
  rintro K y1 x2 x3 σ1 ⟨rfl, i, rfl, hi, F1, R1, e42, best⟩ hK
  have B1 := F1.Bs h.2.2.2.2
  have M1 := zMV_0 hB.1 B1 R1
  have x2r : -1 ≤ x2 ∧ x2 < 64 := by
    rcases best with ⟨rfl, -⟩ | ⟨⟨z, -⟩, z2, -⟩
    · decide
    · omega
  have tryit : (i : Int) < 2 ^ (V 0 4).toNat → (x2 = -1 ∨ zpp (zxor (i : Int) (D 0 1)) < zpp (zxor x2 (D 0 1))) → b_M_near_40 G X K (D 0 1) x2 (i : Int) σ1 := fun hlt hbet => by
    rintro σ2 e2
    refine s_M_isMet2 hB h (F1.u e2 (by decide)) (zMR_u R1 e2 (by decide)) (tu := D 0 0) (st := (i : Int)) (by rw [e2, zupd_nk (by decide)]; exact e42) (by rw [e2, zupd_same]) (by omega) ⟨by omega, hlt⟩ (fun σ3 F3 hws => Or.inr ⟨rfl, ?_⟩) (fun σ3 F3 hws => Or.inl ⟨rfl, ?_⟩)
    · have hP : zNrP V D (i : Int) := ⟨by omega, hws⟩
      refine hK _ _ _ _ ⟨rfl, i + 1, by omega, by omega, (F1.u e2 (by decide)).trans F3.W.X, zMR_N (zMR_u R1 e2 (by decide)) F3, by rw [F3.2 42 (by decide) (by decide), e2, zupd_nk (by decide)]; exact e42, Or.inr ⟨hP, by omega, fun k hk hk2 => ?_⟩⟩ (by omega)
      rcases (show k < (i : Int) ∨ k = (i : Int) by omega) with z | z
      · rcases best with ⟨y1, y2⟩ | ⟨y1, y2, y3⟩
        · exact absurd hk2 (y2 k z)
        · have := y3 k z hk2
          have := y1.1
          omega
      · rw [z]; omega
    · have hP : ¬ zNrP V D (i : Int) := fun z => hws z.2
      refine hK _ _ _ _ ⟨rfl, i + 1, by omega, by omega, (F1.u e2 (by decide)).trans F3.W.X, zMR_N (zMR_u R1 e2 (by decide)) F3, by rw [F3.2 42 (by decide) (by decide), e2, zupd_nk (by decide)]; exact e42, ?_⟩ (by omega)
      rcases best with ⟨y1, y2⟩ | ⟨y1, y2, y3⟩
      · refine Or.inl ⟨y1, fun k hk => ?_⟩
        rcases (show k < (i : Int) ∨ k = (i : Int) by omega) with z | z
        · exact y2 k z
        · rw [z]; exact hP
      · refine Or.inr ⟨y1, by omega, fun k hk hk2 => ?_⟩
        rcases (show k < (i : Int) ∨ k = (i : Int) by omega) with z | z
        · exact y3 k z hk2
        · rw [z] at hk2; exact absurd hk2 hP
  refine s_M_states hB.1 M1 ⟨_, rfl, by omega, fun hge => ?_, fun hlt => ⟨by omega, fun z => tryit hlt (Or.inl z), fun z => ⟨⟨by omega, by omega⟩, ?_⟩⟩⟩
  · rintro σ2 e2
    have M2 : zMI σ2 V D := h.X hB (F1.u e2 (by decide)) (by rw [e2, zupd_nk (by decide)]; exact e42) (by rw [e2, zupd_same]) (zMR_u R1 e2 (by decide))
    have F2 := (F1.u e2 (by decide)).A
    rcases best with ⟨rfl, y2⟩ | ⟨y1, y2, y3⟩
    · exact hX σ2 _ (Or.inr ⟨fun k hk => y2 k (by have := hk.1; omega) hk, rfl⟩) M2 F2
    · exact hX σ2 _ (Or.inl ⟨y1, fun k hk => y3 k (by have := hk.1; omega) hk⟩) M2 F2
  · refine s_M_bitsOf (xr _ (by omega) (by omega)) ⟨_, rfl, ⟨by omega, by omega⟩, s_M_bitsOf (xr _ (by omega) (by omega)) ⟨_, rfl, ?_⟩⟩
    have q1 := zpp_r (zxor (i : Int) (D 0 1))
    have q2 := zpp_r (zxor x2 (D 0 1))
    refine ⟨by omega, fun y => tryit hlt (Or.inr y), fun y => ?_⟩
    refine hK _ _ _ _ ⟨rfl, i + 1, by omega, by omega, F1, R1, e42, ?_⟩ (by omega)
    rcases best with ⟨y1, y2⟩ | ⟨y1, y2, y3⟩
    · exact absurd y1 z
    · refine Or.inr ⟨y1, by omega, fun k hk hk2 => ?_⟩
      rcases (show k < (i : Int) ∨ k = (i : Int) by omega) with z | z
      · exact y3 k z hk2
      · rw [z]; omega
theorem s_M_solutions (hB : zBD V D) (h : zMI σ V D) {w : Int} (hw : zI w) (hX : ∀ σ' x, zSol V D w x → zMI σ' V D → zfA σ σ' → X (some (iZ x)) σ') : MS G zm_M_solutions 10 [zr G 58, iZ w] σ X := by
  have hr := hB.r
  have hc := hB.1.2.1
  have p8 := zpow_le (show (V 0 3).toNat ≤ 8 by omega)
  rw [show (2 : Int) ^ 8 = 256 from rfl] at p8
  have hpos : (0 : Int) < 2 ^ (V 0 3).toNat := Int.pow_pos (by decide)
  have hpc := zpow_c (V 0 3).toNat
  have hb := h.1.1.1
  obtain ⟨d1, d2, -⟩ := h.2.2.1.1
  refine k_M_solutions (s_M_is hw (by decide) (by decide) (fun q1 q2 => Or.inr ⟨rfl, ?_⟩) (fun q => Or.inl ⟨rfl, hX σ _ (Or.inr (Or.inr (Or.inr ⟨q, rfl⟩))) h zfA.rf⟩))
  refine k_M_solves ?_
  rintro x1 e1
  rw [d1] at e1
  rw [h.1.2.1.2.2.2.2.1, Int.one_mul]
  refine ⟨by omega, by omega, ?_⟩
  rintro x2 e2 σa ea σb eb σc ec
  have Fa : zfX σ σa := zfX.rf.u ea (by decide)
  have Fb : zfX σ σb := Fa.u eb (by decide)
  have Fc : zfX σ σc := Fb.u ec (by decide)
  have Rc : zMR σc := zMR_u (zMR_u (zMR_u h.2.1 ea (by decide)) eb (by decide)) ec (by decide)
  refine zLP3_ind (fun y1 y2 x3 σ1 => y1 = D 0 0 ∧ y2 = 2 ^ (V 0 3).toNat - 1 ∧ ∃ i : Nat, x3 = (i : Int) ∧ (i : Int) ≤ 2 ^ (V 0 3).toNat ∧ zfX σ σ1 ∧ zMR σ1 ∧ σ1 58 43 = D 0 1 ∧ σ1 58 63 = zcn (fun k => zWs V D (zEd V (k : Int) (D 0 1))) i ∧ (0 ≤ σ1 58 64 ∧ ∀ e : Nat, zbt (σ1 58 64) e ↔ (e : Int) < V 0 3 ∧ ∀ k : Int, k < i → zSoP V D k → zbt k e) ∧ (0 ≤ σ1 58 65 ∧ ∀ e : Nat, zbt (σ1 58 65) e ↔ (e : Int) < V 0 3 ∧ ∀ k : Int, k < i → zSoP V D k → ¬ zbt k e)) (fun _ _ x3 _ => (256 - x3).toNat) ?_ ⟨e1, e2, 0, rfl, by omega, Fc, Rc, ?_, ?_, ⟨?_, fun e => ?_⟩, ?_, fun e => ?_⟩
  rotate_left
  · rw [ec, zupd_nk (by decide), eb, zupd_nk (by decide), ea, zupd_nk (by decide)]; exact d2
  · rw [ec, zupd_nk (by decide), eb, zupd_nk (by decide), ea, zupd_same]; rfl
  · rw [ec, zupd_nk (by decide), eb, zupd_same]; omega
  · rw [ec, zupd_nk (by decide), eb, zupd_same, e2, zall_bt]
    exact ⟨fun z => ⟨by omega, fun k hk hs => by have := hs.1; omega⟩, fun z => by omega⟩
  · rw [ec, zupd_same]; omega
  · rw [ec, zupd_same, e2, zall_bt]
    exact ⟨fun z => ⟨by omega, fun k hk hs => by have := hs.1; omega⟩, fun z => by omega⟩
  rintro K y1 y2 x3 σ1 ⟨rfl, rfl, i, rfl, hi, F1, R1, e43, e63, ⟨n64, b64⟩, n65, b65⟩ hK
  have hcr := zcn_r (fun k => zWs V D (zEd V (k : Int) (D 0 1))) i
  refine ⟨by omega, fun hge => ?_, fun hlt => ?_⟩
  · have hie : (i : Int) = 2 ^ (V 0 3).toNat := by omega
    rintro σ2 e2
    have M2 : zMI σ2 V D := h.X hB (F1.u e2 (by decide)) (by rw [e2, zupd_same]) (by rw [e2, zupd_nk (by decide)]; exact e43) (zMR_u R1 e2 (by decide))
    have F2 := (F1.u e2 (by decide)).A
    refine ⟨rfl, hw, fun z => ⟨hw, fun z2 => ?_, fun z2 => ?_⟩, fun z => ?_⟩
    · refine hX σ2 _ (Or.inr (Or.inr (Or.inl ⟨by omega, by rw [e2, zupd_nk (by decide)]; exact n65, fun e => ?_⟩))) M2 F2
      rw [e2, zupd_nk (by decide), b65]
      exact ⟨fun y => ⟨y.1, fun k hk => y.2 k (by have := hk.1; omega) hk⟩, fun y => ⟨y.1, fun k _ hk => y.2 k hk⟩⟩
    · refine hX σ2 _ (Or.inr (Or.inl ⟨z2, by rw [e2, zupd_nk (by decide)]; exact n64, fun e => ?_⟩)) M2 F2
      rw [e2, zupd_nk (by decide), b64]
      exact ⟨fun y => ⟨y.1, fun k hk => y.2 k (by have := hk.1; omega) hk⟩, fun y => ⟨y.1, fun k _ hk => y.2 k hk⟩⟩
    · refine hX σ2 _ (Or.inl ⟨z, ?_⟩) M2 F2
      rw [e2, zupd_nk (by decide), e63, show 2 ^ (V 0 3).toNat = i by omega]
  · have hlt' : (i : Int) < 2 ^ (V 0 3).toNat := by omega
    rintro σ2 e2
    refine s_M_isMet2 hB h (F1.u e2 (by decide)) (zMR_u R1 e2 (by decide)) (tu := (i : Int)) (st := D 0 1) (by rw [e2, zupd_same]) (by rw [e2, zupd_nk (by decide)]; exact e43) (by omega) (zOr_st hB) (fun σ3 F3 hws => Or.inr ⟨rfl, ?_⟩) (fun σ3 F3 hws => Or.inl ⟨rfl, ?_⟩)
    · have hP : zSoP V D (i : Int) := ⟨by omega, hws⟩
      have k3 : ∀ k, 63 ≤ k → σ3 58 k = σ1 58 k := fun k hk => by rw [F3.2 k (by omega) (by omega), e2, zupd_nk (by omega)]
      have lt64 : σ1 58 64 < 4294967296 := Int.lt_trans (zlt_bt (n := 8) n64 (fun e he => by have := ((b64 e).mp he).1; omega)) (by decide)
      have lt65 : σ1 58 65 < 4294967296 := Int.lt_trans (zlt_bt (n := 8) n65 (fun e he => by have := ((b65 e).mp he).1; omega)) (by decide)
      rintro σ4 e4
      have q4 : σ4 58 64 = σ1 58 64 := by rw [e4, zupd_nk (by decide), k3 64 (by decide)]
      refine ⟨⟨by rw [q4]; exact n64, by omega⟩, ?_⟩
      rintro σ5 e5
      have q5 : σ5 58 65 = σ1 58 65 := by rw [e5, zupd_nk (by decide), e4, zupd_nk (by decide), k3 65 (by decide)]
      refine ⟨⟨by rw [q5]; exact n65, by omega⟩, ?_⟩
      rintro σ6 e6
      have F6 : zfX σ σ6 := ((((F1.u e2 (by decide)).trans F3.W.X).u e4 (by decide)).u e5 (by decide)).u e6 (by decide)
      have R6 : zMR σ6 := zMR_u (zMR_u (zMR_u (zMR_N (zMR_u R1 e2 (by decide)) F3) e4 (by decide)) e5 (by decide)) e6 (by decide)
      refine hK _ _ _ _ ⟨rfl, rfl, i + 1, by omega, by omega, F6, R6, ?_, ?_, ⟨?_, fun e => ?_⟩, ?_, fun e => ?_⟩ (by omega)
      · rw [e6, zupd_nk (by decide), e5, zupd_nk (by decide), e4, zupd_nk (by decide), F3.2 43 (by decide) (by decide), e2, zupd_nk (by decide)]; exact e43
      · rw [e6, zupd_nk (by decide), e5, zupd_nk (by decide), e4, zupd_same, k3 63 (by decide), e63]
        simp only [zcn]; rw [zbI_t hws]
      · rw [e6, zupd_nk (by decide), e5, zupd_same]; exact zand_nn _ _
      · rw [e6, zupd_nk (by decide), e5, zupd_same, q4, zbt_and, b64]
        constructor
        · rintro ⟨⟨y1, y2⟩, y3⟩
          refine ⟨y1, fun k hk hs => ?_⟩
          rcases (show k < (i : Int) ∨ k = (i : Int) by omega) with z | z
          · exact y2 k z hs
          · rw [z]; exact y3
        · rintro ⟨y1, y2⟩
          exact ⟨⟨y1, fun k hk hs => y2 k (by omega) hs⟩, y2 i (by omega) hP⟩
      · rw [e6, zupd_same, q5]; exact zdif_nn n65
      · rw [e6, zupd_same, q5, zbt_dif ⟨n65, lt65⟩, b65]
        constructor
        · rintro ⟨⟨y1, y2⟩, y3⟩
          refine ⟨y1, fun k hk hs => ?_⟩
          rcases (show k < (i : Int) ∨ k = (i : Int) by omega) with z | z
          · exact y2 k z hs
          · rw [z]; exact y3
        · rintro ⟨y1, y2⟩
          exact ⟨⟨y1, fun k hk hs => y2 k (by omega) hs⟩, y2 i (by omega) hP⟩
    · have hP : ¬ zSoP V D (i : Int) := fun z => hws z.2
      have k3 : ∀ k, 63 ≤ k → σ3 58 k = σ1 58 k := fun k hk => by rw [F3.2 k (by omega) (by omega), e2, zupd_nk (by omega)]
      have nx : ∀ (P : Int → Prop), (∀ k : Int, k < ((i + 1 : Nat) : Int) → zSoP V D k → P k) ↔ (∀ k : Int, k < (i : Int) → zSoP V D k → P k) := fun P => by
        constructor
        · exact fun y k hk hs => y k (by omega) hs
        · intro y k hk hs
          rcases (show k < (i : Int) ∨ k = (i : Int) by omega) with z | z
          · exact y k z hs
          · rw [z] at hs; exact absurd hs hP
      refine hK _ _ _ _ ⟨rfl, rfl, i + 1, by omega, by omega, (F1.u e2 (by decide)).trans F3.W.X, zMR_N (zMR_u R1 e2 (by decide)) F3, by rw [F3.2 43 (by decide) (by decide), e2, zupd_nk (by decide)]; exact e43, ?_, ⟨by rw [k3 64 (by decide)]; exact n64, fun e => by rw [k3 64 (by decide), b64, nx]⟩, by rw [k3 65 (by decide)]; exact n65, fun e => by rw [k3 65 (by decide), b65, nx]⟩ (by omega)
      rw [k3 63 (by decide), e63]
      simp only [zcn]; rw [zbI_f hws]; omega
end MX
