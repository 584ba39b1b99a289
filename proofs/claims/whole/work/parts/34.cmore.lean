theorem zP_mono {V : zPH} {q q' : Nat} (h : zva V q) (h' : zva V q') (hlt : q < q') : zP V q < zP V q' := by
  have a := h.1
  have a' := h'.1
  unfold zP
  rcases (show q / 12 = q' / 12 ∨ q / 12 + 1 ≤ q' / 12 by omega) with e | e
  · rw [e]; omega
  · have := Nat.mul_le_mul_right (V 0 0).toNat e
    rw [Nat.add_mul, Nat.one_mul] at this
    omega
theorem zP_le {V : zPH} {q q' : Nat} (h : zva V q) (h' : zva V q') (hle : zP V q ≤ zP V q') : q ≤ q' := by
  rcases Nat.lt_or_ge q' q with z | z
  · have := zP_mono h' h z; omega
  · exact z
theorem zpr_le {V : zPH} (hV : zVd V) : 0 ≤ V 0 0 * V 0 1 ∧ V 0 0 * V 0 1 ≤ 144 := by
  have h := hV.1
  have e1 := Int.mul_le_mul_of_nonneg_right h.2.1 h.2.2.1
  exact ⟨Int.mul_nonneg h.1 h.2.2.1, by omega⟩
/-- forms with which a mirror more would do -/
def zMoP (V D : zPH) (q : Nat) (f : Int) : Prop := (zva V q ∧ V 1 q = 0) ∧ (f = 0 ∨ f = 1) ∧ zWs V D (zEd (zVadd V q 2 f) (D 0 0) (D 0 1))
def zFm2 (V D : zPH) (q : Nat) (x : Int) : Prop := ((x = 0 ∨ x = 1) ∧ zMoP V D q x ∧ ∀ f, f < x → ¬ zMoP V D q f) ∨ (x = -1 ∧ ∀ f, ¬ zMoP V D q f)
theorem zFm2_u {V D : zPH} {q : Nat} {x y : Int} (h : zFm2 V D q x) (h' : zFm2 V D q y) : x = y := by
  rcases h with ⟨a, b, c⟩ | ⟨a, b⟩ <;> rcases h' with ⟨a', b', c'⟩ | ⟨a', b'⟩
  · rcases (show x < y ∨ x = y ∨ y < x by omega) with z | z | z
    · exact absurd b (c' x z)
    · exact z
    · exact absurd b' (c y z)
  · exact absurd b (b' x)
  · exact absurd b' (b y)
  · omega
section CM
variable {G : zG} {σ V D : zPH} {X : zX} {t u : Nat}
theorem s_B_formMetOn (hB : zBD V D) (h : zCI σ V D t u) {q0 : Nat} {z : Int} (hq0 : zva V q0) (h0 : V 1 q0 = 0) (hz : z = (zP V q0 : Int)) (hX : ∀ σ' x, zFm2 V D q0 x → zCI σ' V D t u → zfL σ σ' t → X (some (iZ x)) σ') : MS G zm_B_formMetOn 6 [zr G 0, iZ z] σ X := by
  subst hz
  have hr := hB.r
  have ht : t = 32 ∨ t = 45 := h.1.1
  have hpl := (zP_lt hB.1 hq0).2
  have hno : σ (t + 2) (zP V q0) = -1 := (h.2.1.1.2.2.2.1 q0 hq0).1 h0
  obtain ⟨d1, d2, -⟩ := h.2.2.2.2.1
  have e0 : ∀ f, zVadd V q0 2 f 0 = V 0 := fun f => zVadd_r (by decide) (by decide) (by decide)
  refine k_B_formMetOn h.1.1 ?_
  refine zLP2_ind (fun x2 x3 σ1 => (x3 = 0 ∧ x2 = -1 ∧ σ1 = σ) ∨ ((x3 = 1 ∨ x3 = 2) ∧ ((x2 = -1 ∧ ∀ f, f < x3 → ¬ zMoP V D q0 f) ∨ ((x2 = 0 ∨ x2 = 1) ∧ zMoP V D q0 x2 ∧ ∀ f, f < x2 → ¬ zMoP V D q0 f)) ∧ (∃ lo, (lo = 0 ∨ lo = 1) ∧ zTyt σ σ1 t 2 lo (zP V q0)) ∧ (∀ q, (q < 19 ∨ 23 < q) → (q < t ∨ t + 12 < q) → σ1 q = σ q) ∧ zLG σ1 19)) (fun _ x3 _ => (2 - x3).toNat) ?_ (Or.inl ⟨rfl, rfl, rfl⟩)
  rintro K x2 x3 σ1 hI hK
  have e03 : σ1 0 3 = ((t : Nat) : Int) ∧ σ1 0 = σ 0 := by
    rcases hI with ⟨-, -, rfl⟩ | ⟨-, -, -, F, -⟩
    · exact ⟨h.1.2.2.2.1, rfl⟩
    · have e := F 0 (by omega) (by omega)
      exact ⟨by rw [e]; exact h.1.2.2.2.1, e⟩
  have hx3 : 0 ≤ x3 ∧ x3 ≤ 2 := by rcases hI with q | q <;> omega
  have hx2 : -1 ≤ x2 ∧ x2 ≤ 1 := by
    rcases hI with q | ⟨-, q, -⟩
    · omega
    · rcases q with q | q <;> omega
  have h58 : (x3 = 2 ∨ x2 ≠ -1) → b_B_formMetOn_58 G t (zP V q0 : Int) X x2 σ1 := fun hend => by
    rcases hI with ⟨q1, q2, -⟩ | ⟨q1, q2, ⟨lo, hlo, ty⟩, F, g⟩
    · omega
    · have hT1 := zTV_add' hB.1 h.2.1.1 h.2.1.2.1 hq0 h0 (Or.inl ⟨rfl, hlo⟩) ty
      refine ⟨e03.1, s_T_put h.1.1 rfl hpl (by decide) hT1.1.2.1 hT1.1.2.2.1 (fun σ2 pu => ⟨rfl, ?_⟩)⟩
      have c2 := zTyt_end hB h hq0 h0 (Or.inl ⟨rfl, hlo⟩) ty (fun q q1 q2 q3 q4 => F q (by omega) q4) g (zLG_to h.2.2.2.1.2 (fun q q1 q2 => F q (by omega) (by omega))) pu
      refine hX σ2 x2 ?_ c2 (fun q q1 q2 => by rw [pu.1 q (by omega) (by omega), F q q1 q2])
      rcases q2 with ⟨a, b⟩ | a
      · exact Or.inr ⟨a, fun f hf => by rcases hf.2.1 with z | z <;> exact b f (by omega) hf⟩
      · exact Or.inl a
  refine ⟨by omega, fun q => h58 (by omega), fun q => ⟨by omega, fun q2 => h58 (Or.inr q2), fun q2 => ⟨e03.1, ?_⟩⟩⟩
  have hts : (∀ p, -1 ≤ σ1 (t + 2) p ∧ σ1 (t + 2) p < 60) ∧ ∀ i, -1 ≤ σ1 (t + 3) i ∧ σ1 (t + 3) i < 144 := by
    rcases hI with ⟨-, -, rfl⟩ | ⟨-, -, ⟨lo, hlo, ty⟩, -, -⟩
    · exact ⟨h.2.1.1.1.2.1, h.2.1.1.1.2.2.1⟩
    · have hT1 := zTV_add' hB.1 h.2.1.1 h.2.1.2.1 hq0 h0 (Or.inl ⟨rfl, hlo⟩) ty
      exact ⟨hT1.1.2.1, hT1.1.2.2.1⟩
  refine s_T_putTried h.1.1 rfl hpl hts.1 hts.2 (fun σ2 ty2 => ⟨rfl, ?_⟩)
  have hx01 : x3 = 0 ∨ x3 = 1 := by omega
  have tyt : zTyt σ σ2 t 2 x3 (zP V q0) := by
    rcases hI with ⟨-, -, rfl⟩ | ⟨-, -, ⟨lo, hlo, ty⟩, -, -⟩
    · exact zTyt_of ty2 hno
    · exact zTyt_again ty ty2
  have r21 : ∀ q, (q < t ∨ t + 12 < q) → σ2 q = σ1 q := fun q hq => ty2.1 q (by omega) (by omega) (by omega) (by omega) (by omega)
  have r2 : ∀ q, (q < 19 ∨ 23 < q) → (q < t ∨ t + 12 < q) → σ2 q = σ q := fun q h1 h2 => by
    rw [r21 q h2]
    rcases hI with ⟨-, -, rfl⟩ | ⟨-, -, -, F, -⟩
    · rfl
    · exact F q h1 h2
  have g1 : zLG σ1 19 := by
    rcases hI with ⟨-, -, rfl⟩ | ⟨-, -, -, -, g⟩
    · exact h.2.2.2.1.1
    · exact g
  have hlow : ∀ f, f < x3 → ¬ zMoP V D q0 f := by
    rcases hI with ⟨a, -, -⟩ | ⟨-, b, -⟩
    · intro f hf hm; rcases hm.2.1 with z | z <;> omega
    · rcases b with ⟨-, b⟩ | ⟨b, -⟩
      · exact b
      · omega
  clear hI
  have hVa := zVadd_d (s := 2) (f := x3) hB.1 hq0 h0 (Or.inl ⟨rfl, hx01⟩)
  have hT2 := zTV_add' hB.1 h.2.1.1 h.2.1.2.1 hq0 h0 (Or.inl ⟨rfl, hx01⟩) tyt
  refine ⟨by rw [r21 0 (by omega)]; exact e03.1, ?_⟩
  rw [r21 0 (by omega), e03.2, d1, d2]
  refine s_C_eyesInEnd h.1.1 (zLG_to g1 (fun q q1 q2 => r21 q (by omega))) hVa ((zVch_t hB.2.1).2.1 _ _ _) hT2 (by omega) (by rw [e0]; exact zOr_st hB) (fun σ3 g3 F3 => ⟨_, rfl, ?_⟩)
  have r3 : ∀ q, (q < 19 ∨ 23 < q) → σ3 q = σ2 q := fun q hq => F3 q (by omega) (by omega) (by omega) (by omega) (by omega)
  have hd3 : zDc σ3 V D := by
    have := h.2.2.2.2
    unfold zDc at *
    rw [r3 0 (by omega), r3 29 (by omega), r3 4 (by omega), r3 30 (by omega), r3 31 (by omega), r3 1 (by omega), r3 3 (by omega), r2 0 (by omega) (by omega), r2 29 (by omega) (by omega), r2 4 (by omega) (by omega), r2 30 (by omega) (by omega), r2 31 (by omega) (by omega), r2 1 (by omega) (by omega), r2 3 (by omega) (by omega)]
    exact this
  have tyt3 := zTyt_to tyt (σ2 := σ3) (fun q h1 h2 => r3 q (by omega))
  have f3 : ∀ q, (q < 19 ∨ 23 < q) → (q < t ∨ t + 12 < q) → σ3 q = σ q := fun q h1 h2 => by rw [r3 q h1, r2 q h1 h2]
  refine s_B_isAsWished hB.1 hd3 (zEd_r hVa _ _) (fun w => Or.inr ⟨rfl, ?_⟩) (fun w => Or.inl ⟨rfl, ?_⟩)
  · exact hK _ _ _ (Or.inr ⟨by omega, Or.inr ⟨hx01, ⟨⟨hq0, h0⟩, hx01, w⟩, hlow⟩, ⟨x3, hx01, tyt3⟩, f3, g3⟩) (by omega)
  · refine hK _ _ _ (Or.inr ⟨by omega, Or.inl ⟨q2, fun f hf hm => ?_⟩, ⟨x3, hx01, tyt3⟩, f3, g3⟩) (by omega)
    rcases (show f < x3 ∨ f = x3 by omega) with z | rfl
    · exact hlow f z hm
    · exact w hm.2.2
/-- what more() answers -/
def zMor (V D : zPH) (w x : Int) : Prop := ((0 ≤ w ∧ w ≤ 2) ∧ ((∃ q f, zMoP V D q f ∧ (∀ q' f', zMoP V D q' f' → q < q' ∨ (q = q' ∧ f ≤ f')) ∧ x = if w = 0 then ((q % 12 : Nat) : Int) else if w = 1 then ((q / 12 : Nat) : Int) else f) ∨ ((∀ q f, ¬ zMoP V D q f) ∧ x = -1))) ∨ (¬ (0 ≤ w ∧ w ≤ 2) ∧ x = -1)
theorem zMor_u {V D : zPH} {w x y : Int} (h : zMor V D w x) (h' : zMor V D w y) : x = y := by
  rcases h with ⟨h1, h2⟩ | ⟨h1, h2⟩ <;> rcases h' with ⟨h1', h2'⟩ | ⟨h1', h2'⟩
  · rcases h2 with ⟨q, f, a1, a2, a3⟩ | ⟨a1, a2⟩ <;> rcases h2' with ⟨q', f', b1, b2, b3⟩ | ⟨b1, b2⟩
    · have c1 := a2 q' f' b1
      have c2 := b2 q f a1
      have e1 : q = q' := by omega
      have e2 : f = f' := by omega
      rw [a3, b3, e1, e2]
    · exact absurd a1 (b1 q f)
    · exact absurd b1 (a1 q' f')
    · omega
  · exact absurd h1 h1'
  · exact absurd h1' h1
  · omega
theorem s_mark (hB : zBD V D) (h : zCI σ V D t u) (hX : ∀ σ', zCI σ' V D t u → (∀ q, q ≠ 2 → (q < 19 ∨ 23 < q) → σ' q = σ q) → (∀ q, zva V q → (σ' 2 (zP V q) = 0 ∨ σ' 2 (zP V q) = 1) ∧ (σ' 2 (zP V q) = 0 → ∀ k w, w < 4 → zLv V (D 0 0) (zOr V (D 0 0) (D 0 1) k) 255 7 (4 * q + w) = 0)) → X none σ') : MS G zm_C_mark 5 [zr G 14, zr G t, iZ (D 0 0), iZ (D 0 1), zr G 2] σ X := by
  have hr := hB.r
  refine s_C_mark h.1.1 h.2.2.2.1.1 hB.1 hB.2.1 h.2.1.1 (by omega) (zOr_st hB) (fun σ' g F m => hX σ' (h.to (fun q q1 q2 q3 => F q q1 (by omega)) g (zLG_to h.2.2.2.1.2 (fun q q1 q2 => F q (by omega) (by omega)))) F m)
theorem s_B_more (hB : zBD V D) (h : zCI σ V D t u) {w : Int} (hw : zI w) (hX : ∀ σ' x, zMor V D w x → zCI σ' V D t u → zfB σ σ' → X (some (iZ x)) σ') : MS G zm_B_more 7 [zr G 0, iZ w] σ X := by
  have hr := hB.r
  have ht : t = 32 ∨ t = 45 := h.1.1
  have hN := zpr_le hB.1
  refine k_B_more h.1.1 ⟨hw, fun q => hX σ _ (Or.inr ⟨by omega, rfl⟩) h zfB.rf, fun q => ⟨hw, fun q2 => ?_, fun q2 => hX σ _ (Or.inr ⟨by omega, rfl⟩) h zfB.rf⟩⟩
  rw [h.2.2.2.2.1.1]
  have key : ∀ (σ1 : zPH) (b : Int), (b = 0 ∨ b = 1) → (b = 1 ↔ zWs V D (zEd V (D 0 0) (D 0 1))) → zCI σ1 V D t u → zfB σ σ1 → (σ1 0 3 = ((t : Nat) : Int) ∧ MS G zm_C_mark 5 [zr G 14, zr G t, iZ (σ1 0 7), iZ (σ1 0 8), zr G 2] σ1 (fun v σ40 => v = none ∧ zLP2 (b_B_more_45 G t w X) b 0 σ40)) := by
    intro σ1 b hb hbw c1 f1
    refine ⟨c1.1.2.2.2.1, ?_⟩
    rw [c1.2.2.2.2.1.1, c1.2.2.2.2.1.2.1]
    refine s_mark hB c1 (fun σ2 c2 F2 hm => ⟨rfl, ?_⟩)
    refine zLP2_ind (fun x2 x3 σ3 => x2 = b ∧ ∃ p : Nat, x3 = (p : Int) ∧ (p : Int) ≤ V 0 0 * V 0 1 ∧ (∀ q f, zMoP V D q f → p ≤ zP V q) ∧ zCI σ3 V D t u ∧ σ3 2 = σ2 2 ∧ zfB σ2 σ3) (fun _ x3 _ => (144 - x3).toNat) ?_ ⟨rfl, 0, rfl, hN.1, fun _ _ _ => by omega, c2, rfl, zfB.rf⟩
    rintro K x2 x3 σ3 ⟨rfl, p, rfl, hp, hno, c3, e2, f3⟩ hK
    have hd := c3.2.1.1.2.1
    have f03 : zfB σ σ3 := f1.trans (zfB.trans (fun q hq => F2 q (by omega) (by omega)) f3)
    refine ⟨c3.1.2.2.2.1, k_T_squareCount c3.1.1 ?_⟩
    unfold w_T_squareCount
    rw [hd.1, hd.2.1]
    refine ⟨_, rfl, by omega, fun hge => hX σ3 _ (Or.inl ⟨⟨q, q2⟩, Or.inr ⟨fun q' f hm => ?_, rfl⟩⟩) c3 f03, fun hlt => ⟨c3.1.2.2.2.1, by omega, ?_⟩⟩
    · have h1 := hno q' f hm
      have h2 := (zP_lt hB.1 hm.1.1).1
      omega
    · obtain ⟨q0, v0, rfl, -⟩ := zP_sur hB.1 hlt
      obtain ⟨hq1, hq2⟩ := c3.2.1.1.2.2.2.1 q0 v0
      have hbb := c3.2.1.1.1.2.1 (zP V q0)
      rw [Int.toNat_natCast]
      have nx : (∀ f, ¬ zMoP V D q0 f) → ∀ q f, zMoP V D q f → zP V q0 + 1 ≤ zP V q := fun hn q f hm => by
        have h1 := hno q f hm
        rcases (show zP V q0 + 1 ≤ zP V q ∨ zP V q = zP V q0 by omega) with z | z
        · exact z
        · rw [zP_inj hm.1.1 v0 z] at hm; exact absurd hm (hn f)
      refine ⟨by omega, fun hne => hK _ _ _ ⟨rfl, zP V q0 + 1, by omega, by omega, nx (fun f hm => hne (hq1 hm.1.2)), c3, e2, f3⟩ (by omega), fun he => ⟨by omega, ?_⟩⟩
      have h0 : V 1 q0 = 0 := by
        apply Classical.byContradiction
        intro z; exact (hq2 z).1 he
      obtain ⟨m1, m2⟩ := hm q0 v0
      have h98 : ∀ (σ4 : zPH) (f : Int), zFm2 V D q0 f → zCI σ4 V D t u → σ4 2 = σ2 2 → zfB σ2 σ4 → b_B_more_98 G t w X K x2 (zP V q0 : Int) f σ4 := by
        intro σ4 f hf c4 e4 f4
        have f04 : zfB σ σ4 := f1.trans (zfB.trans (fun q hq => F2 q (by omega) (by omega)) f4)
        have hfr : -1 ≤ f ∧ f ≤ 1 := by rcases hf with a | a <;> omega
        refine ⟨by omega, fun z => hK _ _ _ ⟨rfl, zP V q0 + 1, by omega, by omega, nx (fun f' => ?_), c4, e4, f4⟩ (by omega), fun z => ?_⟩
        · rcases hf with ⟨a, -⟩ | ⟨-, a⟩
          · omega
          · exact a f'
        · have hmf : zMoP V D q0 f ∧ ∀ q' f', zMoP V D q' f' → q0 < q' ∨ (q0 = q' ∧ f ≤ f') := by
            rcases hf with ⟨a, b, c⟩ | ⟨a, -⟩
            · refine ⟨b, fun q' f' hm' => ?_⟩
              have h1 := zP_le v0 hm'.1.1 (hno q' f' hm')
              rcases (show q0 < q' ∨ q0 = q' by omega) with y | y
              · exact Or.inl y
              · refine Or.inr ⟨y, ?_⟩
                rw [← y] at hm'
                rcases (show f' < f ∨ f ≤ f' by omega) with y2 | y2
                · exact absurd hm' (c f' y2)
                · exact y2
            · omega
          have hx := fun x hx => hX σ4 x (Or.inl ⟨⟨q, q2⟩, Or.inl ⟨q0, f, hmf.1, hmf.2, hx⟩⟩) c4 f04
          refine ⟨hw, fun z2 => ⟨hw, fun z3 => ⟨c4.1.2.2.2.1, s_T_rowOf c4.1.1 hB.1 c4.2.1.1.2.1 v0 rfl ⟨_, rfl, hx _ ?_⟩⟩, fun z3 => ⟨c4.1.2.2.2.1, s_T_columnOf c4.1.1 hB.1 c4.2.1.1.2.1 v0 rfl ⟨_, rfl, hx _ ?_⟩⟩⟩, fun z2 => hx _ ?_⟩
          · rw [if_neg z3, if_pos (by omega)]
          · rw [if_pos z3]
          · rw [if_neg (by omega), if_neg (by omega)]
      rw [e2]
      refine ⟨by omega, fun hz => ⟨by omega, fun hbn => h98 σ3 0 ?_ c3 e2 f3, fun hbz => h98 σ3 (-1) ?_ c3 e2 f3⟩, fun hz => s_B_formMetOn hB c3 v0 h0 rfl (fun σ4 x hx c4 F4 => ⟨_, rfl, h98 σ4 x hx c4 (by rw [F4 2 (by omega) (by omega), e2]) (f3.trans (F4.fB c3.1.1))⟩)⟩
      · have hd0 := zdark_e (s := 2) (f := 0) (tu := D 0 0) (st := D 0 1) h0 (Or.inl rfl) (m2 hz)
        refine Or.inl ⟨Or.inl rfl, ⟨⟨v0, h0⟩, Or.inl rfl, ?_⟩, fun f hf hm => by rcases hm.2.1 with z | z <;> omega⟩
        rw [hd0]; exact hbw.mp (by omega)
      · refine Or.inr ⟨rfl, fun f hm => ?_⟩
        have hd0 := zdark_e (s := 2) (f := f) (tu := D 0 0) (st := D 0 1) h0 (Or.inl rfl) (m2 hz)
        have := hm.2.2
        rw [hd0] at this
        have := hbw.mpr this
        omega
  exact s_B_areMet hB h (by omega) (fun σ1 z c1 F1 => ⟨1, Or.inr rfl, rfl, key σ1 1 (Or.inr rfl) ⟨fun _ => z, fun _ => rfl⟩ c1 (zf19 F1)⟩) (fun σ1 z c1 F1 => ⟨0, Or.inl rfl, rfl, key σ1 0 (Or.inl rfl) ⟨fun y => by omega, fun y => absurd y z⟩ c1 (zf19 F1)⟩)
/-- what darkest() answers -/
def zDrk (V D : zPH) (w x : Int) : Prop := ((0 ≤ w ∧ w ≤ 2) ∧ ((∃ q, (zva V q ∧ V 1 q = 0) ∧ (∀ q', zva V q' → V 1 q' = 0 → zShv V D q' < zShv V D q ∨ (zShv V D q' = zShv V D q ∧ q ≤ q')) ∧ x = if w = 0 then ((q % 12 : Nat) : Int) else if w = 1 then ((q / 12 : Nat) : Int) else zShv V D q) ∨ ((∀ q, zva V q → V 1 q ≠ 0) ∧ x = -1))) ∨ (¬ (0 ≤ w ∧ w ≤ 2) ∧ x = -1)
theorem zDrk_u {V D : zPH} {w x y : Int} (h : zDrk V D w x) (h' : zDrk V D w y) : x = y := by
  rcases h with ⟨h1, h2⟩ | ⟨h1, h2⟩ <;> rcases h' with ⟨h1', h2'⟩ | ⟨h1', h2'⟩
  · rcases h2 with ⟨q, a1, a2, a3⟩ | ⟨a1, a2⟩ <;> rcases h2' with ⟨q', b1, b2, b3⟩ | ⟨b1, b2⟩
    · have c1 := a2 q' b1.1 b1.2
      have c2 := b2 q a1.1 a1.2
      have e1 : q = q' := by omega
      rw [a3, b3, e1]
    · exact absurd a1.2 (b1 q a1.1)
    · exact absurd b1.2 (a1 q' b1.1)
    · omega
  · exact absurd h1 h1'
  · exact absurd h1' h1
  · omega
theorem zShv_dark (hB : zBD V D) {q0 : Nat} (h0 : V 1 q0 = 0) (hd : ∀ k w, w < 4 → zLv V (D 0 0) (zOr V (D 0 0) (D 0 1) k) 255 7 (4 * q0 + w) = 0) : zShv V D q0 = 0 := by
  have e := zdark_e (s := 6) (f := -1) h0 (Or.inr rfl) hd
  unfold zShv
  rw [e]
  split
  · rfl
  · rename_i h
    have hr := zEd_r hB.1 (D 0 0) (D 0 1)
    have : zdif (zEd V (D 0 0) (D 0 1)) (zEd V (D 0 0) (D 0 1)) = 0 := (zdif_0 (by omega)).mpr (fun i hi => hi)
    rw [this]; rfl
theorem s_B_darkest (hB : zBD V D) (h : zCI σ V D t u) {w : Int} (hw : zI w) (hX : ∀ σ' x, zDrk V D w x → zCI σ' V D t u → zfB σ σ' → X (some (iZ x)) σ') : MS G zm_B_darkest 7 [zr G 0, iZ w] σ X := by
  have hr := hB.r
  have ht : t = 32 ∨ t = 45 := h.1.1
  have hN := zpr_le hB.1
  refine k_B_darkest h.1.1 ⟨hw, fun q => hX σ _ (Or.inr ⟨by omega, rfl⟩) h zfB.rf, fun q => ⟨hw, fun q2 => ⟨h.1.2.2.2.1, ?_⟩, fun q2 => hX σ _ (Or.inr ⟨by omega, rfl⟩) h zfB.rf⟩⟩
  rw [h.2.2.2.2.1.1, h.2.2.2.2.1.2.1]
  refine s_eyesInEnd hB h (by omega) (fun σ1 c1 F1 => ⟨_, rfl, c1.1.2.2.2.1, ?_⟩)
  rw [c1.2.2.2.2.1.1, c1.2.2.2.2.1.2.1]
  refine s_mark hB c1 (fun σ2 c2 F2 hm => ⟨rfl, ?_⟩)
  refine zLP4_ind (fun x2 x3 x4 x5 σ3 => x2 = zEd V (D 0 0) (D 0 1) ∧ ∃ p : Nat, x5 = (p : Int) ∧ (p : Int) ≤ V 0 0 * V 0 1 ∧ ((x3 = -1 ∧ x4 = -1 ∧ ∀ q, zva V q → V 1 q = 0 → p ≤ zP V q) ∨ (∃ q, (zva V q ∧ V 1 q = 0 ∧ zP V q < p) ∧ x3 = (zP V q : Int) ∧ x4 = zShv V D q ∧ ∀ q', zva V q' → V 1 q' = 0 → zP V q' < p → zShv V D q' < zShv V D q ∨ (zShv V D q' = zShv V D q ∧ q ≤ q'))) ∧ zCI σ3 V D t u ∧ σ3 2 = σ2 2 ∧ zfB σ2 σ3) (fun _ _ _ x5 _ => (144 - x5).toNat) ?_ ⟨rfl, 0, rfl, hN.1, Or.inl ⟨rfl, rfl, fun _ _ _ => by omega⟩, c2, rfl, zfB.rf⟩
  rintro K x2 x3 x4 x5 σ3 ⟨rfl, p, rfl, hp, hb, c3, e2, f3⟩ hK
  have hd := c3.2.1.1.2.1
  have f03 : zfB σ σ3 := (zf19 F1).trans (zfB.trans (fun q hq => F2 q (by omega) (by omega)) f3)
  have hx4 : -1 ≤ x4 ∧ x4 ≤ 8 := by
    rcases hb with a | ⟨q, -, -, a, -⟩
    · omega
    · have := zShv_r V D q; omega
  refine ⟨c3.1.2.2.2.1, k_T_squareCount c3.1.1 ?_⟩
  unfold w_T_squareCount
  rw [hd.1, hd.2.1]
  refine ⟨_, rfl, by omega, fun hge => ?_, fun hlt => ⟨c3.1.2.2.2.1, by omega, ?_⟩⟩
  · rcases hb with ⟨a1, a2, a3⟩ | ⟨q0, v0, a1, a2, a3⟩
    · have hnone : ∀ q, zva V q → V 1 q ≠ 0 := fun q hq h0 => by
        have h1 := a3 q hq h0
        have h2 := (zP_lt hB.1 hq).1
        omega
      have hx := hX σ3 (-1) (Or.inl ⟨⟨q, q2⟩, Or.inr ⟨hnone, rfl⟩⟩) c3 f03
      rw [a1, a2]
      exact ⟨hw, fun z2 => ⟨hw, fun z3 => ⟨c3.1.2.2.2.1, (s_T_noSquare c3.1.1 (X := fun v σ159 => ∃ z159 : Int, v = some (iZ z159) ∧ X (some (iZ z159)) σ159) ⟨_, rfl, hx⟩).2⟩, fun z3 => ⟨c3.1.2.2.2.1, (s_T_noSquare c3.1.1 (X := fun v σ148 => ∃ z148 : Int, v = some (iZ z148) ∧ X (some (iZ z148)) σ148) ⟨_, rfl, hx⟩).1⟩⟩, fun z2 => hx⟩
    · have hx := fun x hx => hX σ3 x (Or.inl ⟨⟨q, q2⟩, Or.inl ⟨q0, ⟨v0.1, v0.2.1⟩, fun q' h1 h2 => a3 q' h1 h2 (by have := (zP_lt hB.1 h1).1; omega), hx⟩⟩) c3 f03
      refine ⟨hw, fun z2 => ⟨hw, fun z3 => ⟨c3.1.2.2.2.1, s_T_rowOf c3.1.1 hB.1 hd v0.1 a1 ⟨_, rfl, hx _ ?_⟩⟩, fun z3 => ⟨c3.1.2.2.2.1, s_T_columnOf c3.1.1 hB.1 hd v0.1 a1 ⟨_, rfl, hx _ ?_⟩⟩⟩, fun z2 => hx _ ?_⟩
      · rw [if_neg z3, if_pos (by omega)]
      · rw [if_pos z3]
      · rw [if_neg (by omega), if_neg (by omega)]; exact a2
  · obtain ⟨q0, v0, rfl, -⟩ := zP_sur hB.1 hlt
    obtain ⟨hq1, hq2⟩ := c3.2.1.1.2.2.2.1 q0 v0
    have hbb := c3.2.1.1.1.2.1 (zP V q0)
    rw [Int.toNat_natCast]
    refine ⟨by omega, fun hne => hK _ _ _ _ _ ⟨rfl, zP V q0 + 1, by omega, by omega, ?_, c3, e2, f3⟩ (by omega), fun he => ⟨by omega, ?_⟩⟩
    · have hn0 : V 1 q0 ≠ 0 := fun z => hne (hq1 z)
      have hne' : ∀ q', zva V q' → V 1 q' = 0 → zP V q' ≠ zP V q0 := fun q' h1 h2 z => by
        rw [zP_inj h1 v0 z] at h2; exact hn0 h2
      rcases hb with ⟨a1, a2, a3⟩ | ⟨q', v', a1, a2, a3⟩
      · exact Or.inl ⟨a1, a2, fun q' h1 h2 => by have := a3 q' h1 h2; have := hne' q' h1 h2; omega⟩
      · exact Or.inr ⟨q', ⟨v'.1, v'.2.1, by omega⟩, a1, a2, fun q'' h1 h2 h3 => a3 q'' h1 h2 (by have := hne' q'' h1 h2; omega)⟩
    · have h0 : V 1 q0 = 0 := by
        apply Classical.byContradiction
        intro z; exact (hq2 z).1 he
      obtain ⟨m1, m2⟩ := hm q0 v0
      have h109 : ∀ (σ4 : zPH) (s : Int), s = zShv V D q0 → zCI σ4 V D t u → σ4 2 = σ2 2 → zfB σ2 σ4 → b_B_darkest_109 G t w X K (zEd V (D 0 0) (D 0 1)) x3 x4 (zP V q0 : Int) s σ4 := by
        rintro σ4 s rfl c4 e4 f4
        have hs := zShv_r V D q0
        refine ⟨by omega, fun z => hK _ _ _ _ _ ⟨rfl, zP V q0 + 1, by omega, by omega, ?_, c4, e4, f4⟩ (by omega), fun z => hK _ _ _ _ _ ⟨rfl, zP V q0 + 1, by omega, by omega, Or.inr ⟨q0, ⟨v0, h0, by omega⟩, rfl, rfl, fun q' h1 h2 h3 => ?_⟩, c4, e4, f4⟩ (by omega)⟩
        · rcases hb with ⟨a1, a2, a3⟩ | ⟨q', v', a1, a2, a3⟩
          · omega
          · refine Or.inr ⟨q', ⟨v'.1, v'.2.1, by omega⟩, a1, a2, fun q'' h1 h2 h3 => ?_⟩
            rcases (show zP V q'' < zP V q0 ∨ zP V q'' = zP V q0 by omega) with y | y
            · exact a3 q'' h1 h2 y
            · rw [zP_inj h1 v0 y]
              rcases (show zShv V D q0 < zShv V D q' ∨ zShv V D q0 = zShv V D q' by omega) with y2 | y2
              · exact Or.inl y2
              · refine Or.inr ⟨y2, ?_⟩
                rcases Nat.lt_or_ge q0 q' with y3 | y3
                · have hp' := zP_mono v0 v'.1 y3
                  have := v'.2.2
                  omega
                · exact y3
        · rcases (show zP V q' < zP V q0 ∨ zP V q' = zP V q0 by omega) with y | y
          · rcases hb with ⟨a1, a2, a3⟩ | ⟨q'', v'', a1, a2, a3⟩
            · have := a3 q' h1 h2; omega
            · have := a3 q' h1 h2 y; omega
          · rw [zP_inj h1 v0 y]; exact Or.inr ⟨rfl, Nat.le_refl _⟩
      clear hb
      rw [e2]
      refine ⟨by omega, fun hz => s_B_shadowOn hB c3 v0 h0 rfl rfl (fun σ4 c4 F4 => ⟨_, rfl, h109 σ4 _ rfl c4 (by rw [F4 2 (by omega) (by omega), e2]) (f3.trans (F4.fB c3.1.1))⟩), fun hz => h109 σ3 0 (zShv_dark hB h0 (m2 hz)).symm c3 e2 f3⟩
end CM
