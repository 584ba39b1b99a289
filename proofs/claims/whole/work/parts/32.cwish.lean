/-- the eyes lit are as wished -/
def zWs (V D : zPH) (r : Int) : Prop := r ≠ -1 ∧ ∀ e : Nat, (e : Int) < V 0 5 → (D 1 e = 1 → zbt r e) ∧ (D 1 e = 2 → ¬ zbt r e)
theorem zEd_r {V : zPH} (hV : zVd V) (tu st : Int) : -1 ≤ zEd V tu st ∧ zEd V tu st < 256 := by
  have h := hV.2.1
  have e1 := zpow_le (show (V 0 5).toNat ≤ 8 by omega)
  rw [show (2 : Int) ^ 8 = 256 from rfl] at e1
  unfold zEd; split
  · have := (zEy_b (V := V) (tu := tu) (st := zOr V tu st (zLd V tu st).1) (la := 255) (co := 7)).1; omega
  · omega
section CW
variable {G : zG} {σ V D : zPH} {X : zX} {t u : Nat}
theorem s_B_isAsWished (hV : zVd V) (hd : zDc σ V D) {r : Int} (hr : -1 ≤ r ∧ r < 256) (h1 : zWs V D r → X (some (iZ 1)) σ) (h0 : ¬ zWs V D r → X (some (iZ 0)) σ) : MS G zm_B_isAsWished 0 [zr G 0, iZ r] σ X := by
  obtain ⟨⟨w1, w2⟩, w3, w4⟩ := hd.2.1
  have c5 := hV.2.1.2.2.2.2.2.2
  have wl : σ 0 9 < 256 := by
    rw [show (256 : Int) = 2 ^ 8 from rfl]
    exact zlt_bt w1 (fun i hi => by have := ((w2 i).mp hi).1; omega)
  have wd : σ 0 10 < 256 := by
    rw [show (256 : Int) = 2 ^ 8 from rfl]
    exact zlt_bt w3 (fun i hi => by have := ((w4 i).mp hi).1; omega)
  have b1 := zand_nn r (σ 0 9)
  have b2 := zand_le' (x := r) w1
  have b3 := zand_nn r (σ 0 10)
  have b4 := zand_le' (x := r) w3
  have e1 : zand r (σ 0 9) = σ 0 9 ↔ ∀ e : Nat, (e : Int) < V 0 5 → D 1 e = 1 → zbt r e := by
    constructor
    · intro q e he hd
      have := (w2 e).mpr ⟨he, hd⟩
      rw [← q, zbt_and] at this; exact this.1
    · intro q
      refine zbt_ext b1 w1 (fun i => ?_)
      rw [zbt_and]
      exact ⟨fun z => z.2, fun z => ⟨q i ((w2 i).mp z).1 ((w2 i).mp z).2, z⟩⟩
  have e2 : zand r (σ 0 10) = 0 ↔ ∀ e : Nat, (e : Int) < V 0 5 → D 1 e = 2 → ¬ zbt r e := by
    constructor
    · intro q e he hd hb
      have : zbt (zand r (σ 0 10)) e := zbt_and.mpr ⟨hb, (w4 e).mpr ⟨he, hd⟩⟩
      rw [q] at this; exact zbt_0 this
    · intro q
      refine zbt_ext b3 (by decide) (fun i => ?_)
      rw [zbt_and]
      exact ⟨fun z => absurd z.1 (q i ((w4 i).mp z.2).1 ((w4 i).mp z.2).2), fun z => absurd z zbt_0⟩
  refine k_B_isAsWished ⟨by omega, fun q => h0 (fun z => z.1 q), fun q => ⟨⟨by omega, w1⟩, by omega, fun q2 => h0 (fun z => q2 (e1.mpr fun e he => (z.2 e he).1)), fun q2 => ⟨⟨by omega, w3⟩, by omega, fun q3 => h0 (fun z => q3 (e2.mpr fun e he => (z.2 e he).2)), fun q3 => h1 ⟨q, fun e he => ⟨e1.mp q2 e he, e2.mp q3 e he⟩⟩⟩⟩⟩
theorem s_eyesInEnd (hB : zBD V D) (h : zCI σ V D t u) {tu : Int} (htu : 0 ≤ tu ∧ tu < 2147483648) (hX : ∀ σ', zCI σ' V D t u → (∀ q, (q < 19 ∨ 23 < q) → σ' q = σ q) → X (some (iZ (zEd V tu (D 0 1)))) σ') : MS G zm_C_eyesInEnd 5 [zr G 14, zr G t, iZ tu, iZ (D 0 1)] σ X :=
  s_C_eyesInEnd h.1.1 h.2.2.2.1.1 hB.1 hB.2.1 h.2.1.1 htu (zOr_st hB) fun σ' g F => hX σ' (h.to (fun q q1 q2 _ => F q (by omega) (by omega) (by omega) (by omega) (by omega)) g (zLG_to h.2.2.2.1.2 (fun q q1 q2 => F q (by omega) (by omega) (by omega) (by omega) (by omega)))) (fun q hq => F q (by omega) (by omega) (by omega) (by omega) (by omega))
theorem s_B_areMet (hB : zBD V D) (h : zCI σ V D t u) {tu : Int} (htu : 0 ≤ tu ∧ tu < 2147483648) (h1 : ∀ σ', zWs V D (zEd V tu (D 0 1)) → zCI σ' V D t u → (∀ q, (q < 19 ∨ 23 < q) → σ' q = σ q) → X (some (iZ 1)) σ') (h0 : ∀ σ', ¬ zWs V D (zEd V tu (D 0 1)) → zCI σ' V D t u → (∀ q, (q < 19 ∨ 23 < q) → σ' q = σ q) → X (some (iZ 0)) σ') : MS G zm_B_areMet 6 [zr G 0, iZ tu] σ X := by
  refine k_B_areMet h.1.1 ⟨h.1.2.2.2.1, ?_⟩
  rw [h.2.2.2.2.1.2.1]
  refine s_eyesInEnd hB h htu (fun σ1 c1 F1 => ⟨_, rfl, ?_⟩)
  exact s_B_isAsWished hB.1 c1.2.2.2.2 (zEd_r hB.1 _ _) (fun q => ⟨1, Or.inr rfl, rfl, Or.inr rfl, h1 σ1 q c1 F1⟩) (fun q => ⟨0, Or.inl rfl, rfl, Or.inl rfl, h0 σ1 q c1 F1⟩)
theorem zf19 {σ σ' : zPH} (F : ∀ q, (q < 19 ∨ 23 < q) → σ' q = σ q) : zfB σ σ' := fun q hq => F q (by omega)
/-- what met() answers -/
def zMet (V D : zPH) (x : Int) : Prop := (zWs V D (zEd V (D 0 0) (D 0 1)) ∧ x = 1) ∨ (¬ zWs V D (zEd V (D 0 0) (D 0 1)) ∧ x = 0)
theorem s_B_met (hB : zBD V D) (h : zCI σ V D t u) (hX : ∀ σ' x, zMet V D x → zCI σ' V D t u → zfB σ σ' → X (some (iZ x)) σ') : MS G zm_B_met 7 [zr G 0] σ X := by
  have hr := hB.r
  refine k_B_met ?_
  unfold w_B_met
  rw [h.2.2.2.2.1.1]
  exact s_B_areMet hB h (by omega) (fun σ' q c F => Or.inr ⟨rfl, hX σ' _ (Or.inl ⟨q, rfl⟩) c (zf19 F)⟩) (fun σ' q c F => Or.inl ⟨rfl, hX σ' _ (Or.inr ⟨q, rfl⟩) c (zf19 F)⟩)
/-- a wish -/
def zWsh (V D : zPH) (e w x : Int) (D' : zPH) : Prop := (((0 ≤ e ∧ e < V 0 5) ∧ 0 ≤ w ∧ w ≤ 2) ∧ D' = zupd D 1 e.toNat w ∧ x = 1) ∨ (¬ ((0 ≤ e ∧ e < V 0 5) ∧ 0 ≤ w ∧ w ≤ 2) ∧ D' = D ∧ x = 0)
theorem zWsh_D {V D D' : zPH} {e w x : Int} (hB : zBD V D) (h : zWsh V D e w x D') : zBD V D' := by
  rcases h with ⟨⟨h1, h2⟩, rfl, -⟩ | ⟨-, rfl, -⟩
  · refine ⟨hB.1, hB.2.1, ?_⟩
    obtain ⟨a1, a2, a3, a4, a5, a6, a7, a8, a9⟩ := hB.2.2
    refine ⟨a1, a2, a3, a4, a5, a6, fun k => ?_, a8, a9⟩
    by_cases q : k = e.toNat
    · rw [q, zupd_same]; exact h2
    · rw [zupd_nk q]; exact a7 k
  · exact hB
theorem s_B_wish (hB : zBD V D) (h : zCI σ V D t u) {e w : Int} (he : zI e) (hw : zI w) (hX : ∀ σ' x D', zWsh V D e w x D' → zCI σ' V D' t u → (∀ q, q ≠ 0 → σ' q = σ q) → (∀ k, k ≠ 9 → k ≠ 10 → σ' 0 k = σ 0 k) → X (some (iZ x)) σ') : MS G zm_B_wish 1 [zr G 0, iZ e, iZ w] σ X := by
  obtain ⟨⟨w1, w2⟩, w3, w4⟩ := h.2.2.2.2.2.1
  have c5 := hB.1.2.1.2.2.2.2.2.2
  have wl : σ 0 9 < 4294967296 := Int.lt_trans (zlt_bt (n := 8) w1 (fun i hi => by have := ((w2 i).mp hi).1; omega)) (by decide)
  have wd : σ 0 10 < 4294967296 := Int.lt_trans (zlt_bt (n := 8) w3 (fun i hi => by have := ((w4 i).mp hi).1; omega)) (by decide)
  refine k_B_wish (s_B_isNumber hB h (g := 3) rfl (by decide) he (fun q1 q2 => Or.inr ⟨rfl, ?_⟩) (fun q => Or.inl ⟨rfl, hX σ _ _ (Or.inr ⟨fun z => q z.1, rfl, rfl⟩) h (fun _ _ => rfl) (fun _ _ _ => rfl)⟩))
  have q2' : e < V 0 5 := q2
  refine ⟨hw, fun q => hX σ _ _ (Or.inr ⟨fun z => by omega, rfl, rfl⟩) h (fun _ _ => rfl) (fun _ _ _ => rfl), fun q => ⟨hw, fun q3 => ⟨by omega, ?_⟩, fun q3 => hX σ _ _ (Or.inr ⟨fun z => by omega, rfl, rfl⟩) h (fun _ _ => rfl) (fun _ _ _ => rfl)⟩⟩
  simp only [Int.one_mul]
  have pn := zpow_nn e.toNat
  refine ⟨⟨w1, pn⟩, ?_⟩
  rintro σ31 e31
  refine ⟨by omega, ⟨by rw [e31, zupd_nk (by decide)]; exact w3, pn⟩, ?_⟩
  rintro σ45 e45
  have f9 : σ45 0 9 = zdif (σ 0 9) (2 ^ e.toNat) := by rw [e45, zupd_nk (by decide), e31, zupd_same]
  have f10 : σ45 0 10 = zdif (σ 0 10) (2 ^ e.toNat) := by rw [e45, zupd_same, e31, zupd_nk (by decide)]
  have fr : ∀ q, q ≠ 0 → σ45 q = σ q := fun q hq => by rw [e45, zupd_row hq, e31, zupd_row hq]
  have f0 : ∀ k, k ≠ 9 → k ≠ 10 → σ45 0 k = σ 0 k := fun k k1 k2 => by rw [e45, zupd_nk k2, e31, zupd_nk k1]
  have b9 : ∀ i, zbt (σ45 0 9) i ↔ ((i : Int) < V 0 5 ∧ D 1 i = 1) ∧ i ≠ e.toNat := fun i => by rw [f9, zbt_dif ⟨w1, wl⟩, w2, zbt_pow]
  have b10 : ∀ i, zbt (σ45 0 10) i ↔ ((i : Int) < V 0 5 ∧ D 1 i = 2) ∧ i ≠ e.toNat := fun i => by rw [f10, zbt_dif ⟨w3, wd⟩, w4, zbt_pow]
  have n9 : 0 ≤ σ45 0 9 := by rw [f9]; exact zdif_nn w1
  have n10 : 0 ≤ σ45 0 10 := by rw [f10]; exact zdif_nn w3
  have fin : ∀ σ2 : zPH, (∀ q, q ≠ 0 → σ2 q = σ q) → (∀ k, k ≠ 9 → k ≠ 10 → σ2 0 k = σ 0 k) → 0 ≤ σ2 0 9 → 0 ≤ σ2 0 10 → (∀ i, zbt (σ2 0 9) i ↔ zbt (σ45 0 9) i ∨ (i = e.toNat ∧ w = 1)) → (∀ i, zbt (σ2 0 10) i ↔ zbt (σ45 0 10) i ∨ (i = e.toNat ∧ w = 2)) → X (some (iZ 1)) σ2 := by
    intro σ2 r2 g2 m9 m10 hb9 hb10
    obtain ⟨⟨d1, d2, d3, d4, d5, d6, d7⟩, -, hpp, ht, hwr⟩ := h.2.2.2.2
    refine hX σ2 _ _ (Or.inl ⟨⟨⟨q1, q2'⟩, q, q3⟩, rfl, rfl⟩) (zCI_dyn h (fun q h1 h2 => r2 q (by omega)) (fun q h1 h2 => r2 q (by omega)) (g2 3 (by decide) (by decide)) (by rw [r2 4 (by decide)]) ⟨⟨by rw [g2 7 (by decide) (by decide)]; exact d1, by rw [g2 8 (by decide) (by decide)]; exact d2, by rw [r2 29 (by decide)]; exact d3, by rw [g2 1 (by decide) (by decide)]; exact d4, by rw [r2 4 (by decide)]; exact d5, by rw [r2 4 (by decide)]; exact d6, by rw [g2 13 (by decide) (by decide)]; exact d7⟩, ⟨⟨m9, fun i => ?_⟩, m10, fun i => ?_⟩, by rw [r2 30 (by decide), r2 31 (by decide)]; exact hpp, by rw [r2 1 (by decide)]; exact ht, by rw [r2 3 (by decide)]; exact hwr⟩) r2 g2
    · rw [hb9, b9]
      by_cases z : i = e.toNat
      · subst z; rw [zupd_same]; omega
      · rw [zupd_nk z]; omega
    · rw [hb10, b10]
      by_cases z : i = e.toNat
      · subst z; rw [zupd_same]; omega
      · rw [zupd_nk z]; omega
  refine ⟨hw, fun z1 => ⟨hw, fun z2 => fin σ45 fr f0 n9 n10 (fun i => ?_) (fun i => ?_), fun z2 => ⟨by omega, ⟨n10, pn⟩, ?_⟩⟩, fun z1 => ⟨by omega, ⟨n9, pn⟩, ?_⟩⟩
  · exact ⟨Or.inl, fun z => z.elim id (fun z => absurd z.2 z1)⟩
  · exact ⟨Or.inl, fun z => z.elim id (fun z => absurd z.2 z2)⟩
  · rintro σ82 e82
    refine fin σ82 (fun q hq => by rw [e82, zupd_row hq, fr q hq]) (fun k k1 k2 => by rw [e82, zupd_nk k2, f0 k k1 k2]) (by rw [e82, zupd_nk (by decide)]; exact n9) (by rw [e82, zupd_same]; exact zor_nn _ _) (fun i => ?_) (fun i => ?_)
    · rw [e82, zupd_nk (by decide)]; exact ⟨Or.inl, fun z => z.elim id (fun z => absurd z.2 z1)⟩
    · rw [e82, zupd_same, zbt_or, zbt_pow]; exact ⟨fun z => z.elim Or.inl (fun z => Or.inr ⟨z, z2⟩), fun z => z.elim Or.inl (fun z => Or.inr z.1)⟩
  · rintro σ62 e62
    refine fin σ62 (fun q hq => by rw [e62, zupd_row hq, fr q hq]) (fun k k1 k2 => by rw [e62, zupd_nk k1, f0 k k1 k2]) (by rw [e62, zupd_same]; exact zor_nn _ _) (by rw [e62, zupd_nk (by decide)]; exact n10) (fun i => ?_) (fun i => ?_)
    · rw [e62, zupd_same, zbt_or, zbt_pow]; exact ⟨fun z => z.elim Or.inl (fun z => Or.inr ⟨z, z1⟩), fun z => z.elim Or.inl (fun z => Or.inr z.1)⟩
    · rw [e62, zupd_nk (by decide)]; exact ⟨Or.inl, fun z => z.elim id (fun z => by omega)⟩
/-- sets of mirrors to be turned -/
def zFwP (V D : zPH) (k : Int) : Prop := (0 ≤ k ∧ k < 2 ^ (V 0 3).toNat) ∧ zWs V D (zEd V (zxor (D 0 0) k) (D 0 1))
/-- what fewest() answers -/
def zFew (V D : zPH) (w x : Int) : Prop := (∃ k, (zFwP V D k ∧ ∀ k', zFwP V D k' → zpp k < zpp k' ∨ (zpp k = zpp k' ∧ k ≤ k')) ∧ x = if w = 0 then zpp k else k) ∨ ((∀ k, ¬ zFwP V D k) ∧ x = -1)
theorem zFew_u {V D : zPH} {w x y : Int} (h : zFew V D w x) (h' : zFew V D w y) : x = y := by
  rcases h with ⟨k, ⟨h1, h2⟩, h3⟩ | ⟨h1, h2⟩ <;> rcases h' with ⟨k', ⟨h1', h2'⟩, h3'⟩ | ⟨h1', h2'⟩
  · have a := h2 k' h1'
    have b := h2' k h1
    have : k = k' := by omega
    rw [h3, h3', this]
  · exact absurd h1 (h1' k)
  · exact absurd h1' (h1 k')
  · omega
theorem zxor_lt' {a b : Int} {n : Nat} (ha : 0 ≤ a ∧ a < 2 ^ n) (hb : 0 ≤ b ∧ b < 2 ^ n) : 0 ≤ zxor a b ∧ zxor a b < 2 ^ n := by
  refine ⟨zxor_nn _ _, ?_⟩
  rw [zpow_c] at ha hb ⊢
  exact zxor_lt n ha.2 hb.2
theorem s_B_fewest (hB : zBD V D) (h : zCI σ V D t u) {w : Int} (hw : zI w) (hX : ∀ σ' x, zFew V D w x → zCI σ' V D t u → zfB σ σ' → X (some (iZ x)) σ') : MS G zm_B_fewest 7 [zr G 0, iZ w] σ X := by
  have hr := hB.r
  have hV3 := hB.1.2.1
  have h256 := zpow_le (show (V 0 3).toNat ≤ 8 by omega)
  rw [show (2 : Int) ^ 8 = 256 from rfl] at h256
  have hnn := zpow_nn (V 0 3).toNat
  have e8 : σ (t + 8) 1 = V 0 3 := h.2.1.1.2.1.2.2.2.1
  refine k_B_fewest h.1.1 ⟨h.1.2.2.2.1, by omega, ?_⟩
  rintro y ey
  rw [e8, Int.one_mul] at ey
  refine zLP2_ind (fun y x3 σ1 => y = 2 ^ (V 0 3).toNat ∧ ∃ i : Nat, x3 = (i : Int) ∧ (i : Int) ≤ V 0 3 + 1 ∧ (∀ k, zFwP V D k → (i : Int) ≤ zpp k) ∧ zCI σ1 V D t u ∧ zfB σ σ1) (fun _ x3 _ => (V 0 3 + 1 - x3).toNat) ?_ ⟨ey, 0, rfl, by omega, fun k _ => (zpp_r k).1, h, zfB.rf⟩
  rintro K y x3 σ1 ⟨rfl, i, rfl, hi, hlo, c1, f1⟩ hK
  have e8' : σ1 (t + 8) 1 = V 0 3 := c1.2.1.1.2.1.2.2.2.1
  refine ⟨c1.1.2.2.2.1, by omega, fun hgt => hX σ1 _ (Or.inr ⟨fun k hk => ?_, rfl⟩) c1 f1, fun hle => ?_⟩
  · have h1 := hlo k hk
    obtain ⟨⟨a, b⟩, -⟩ := hk
    -- no number of so few bits has more
    have : zpp k ≤ V 0 3 := by
      obtain ⟨n, hn⟩ := Int.eq_ofNat_of_zero_le (show 0 ≤ V 0 3 by omega)
      rw [hn, Int.toNat_natCast] at b
      have hn8 : n ≤ 8 := by omega
      rw [hn]
      unfold zpp
      rcases (show n = 0 ∨ n = 1 ∨ n = 2 ∨ n = 3 ∨ n = 4 ∨ n = 5 ∨ n = 6 ∨ n = 7 ∨ n = 8 by omega) with rfl | rfl | rfl | rfl | rfl | rfl | rfl | rfl | rfl <;> simp at b ⊢ <;> omega
    omega
  · refine zLP3_ind (fun y x3 x4 σ2 => y = 2 ^ (V 0 3).toNat ∧ x3 = (i : Int) ∧ (0 ≤ x4 ∧ x4 ≤ 2 ^ (V 0 3).toNat) ∧ (∀ k, zFwP V D k → k < x4 → (i : Int) < zpp k) ∧ zCI σ2 V D t u ∧ zfB σ σ2) (fun _ _ x4 _ => (256 - x4).toNat) ?_ ⟨rfl, rfl, ⟨by omega, hnn⟩, fun k hk hk2 => by have := hk.1; omega, c1, f1⟩
    rintro K2 y x3 x4 σ2 ⟨rfl, rfl, hx4, hlt, c2, f2⟩ hK2
    refine ⟨by omega, fun hge => hK _ _ _ ⟨rfl, i + 1, by omega, by omega, fun k hk => ?_, c2, f2⟩ (by omega), fun hlt4 => ?_⟩
    · have := hlt k hk (by have := hk.1; omega); omega
    · have hpr := zpp_r x4
      refine s_bitCount (by omega) ⟨_, rfl, by omega, fun hne => ?_, fun heq => ?_⟩
      · refine hK2 _ _ _ _ ⟨rfl, rfl, by omega, fun k hk hk2 => ?_, c2, f2⟩ (by omega)
        rcases (show k < x4 ∨ k = x4 by omega) with q | rfl
        · exact hlt k hk q
        · have := hlo k hk; omega
      · rw [c2.2.2.2.2.1.1]
        have hx := zxor_lt' hB.2.2.1 (show 0 ≤ x4 ∧ x4 < 2 ^ (V 0 3).toNat by omega)
        refine ⟨⟨hr.1.1, hx4.1⟩, s_B_areMet hB c2 (by omega) (fun σ' q c F => Or.inr ⟨rfl, hw, fun hz => ?_, fun hz => ?_⟩) (fun σ' q c F => Or.inl ⟨rfl, hK2 _ _ _ _ ⟨rfl, rfl, by omega, fun k hk hk2 => ?_, c, f2.trans (zf19 F)⟩ (by omega)⟩)⟩
        · refine hX σ' _ (Or.inl ⟨x4, ⟨⟨⟨hx4.1, hlt4⟩, q⟩, fun k' hk' => ?_⟩, by rw [if_pos hz]; exact heq.symm⟩) c (f2.trans (zf19 F))
          have := hlo k' hk'
          rcases (show k' < x4 ∨ x4 ≤ k' by omega) with z | z
          · have := hlt k' hk' z; omega
          · omega
        · refine hX σ' _ (Or.inl ⟨x4, ⟨⟨⟨hx4.1, hlt4⟩, q⟩, fun k' hk' => ?_⟩, by rw [if_neg hz]⟩) c (f2.trans (zf19 F))
          have := hlo k' hk'
          rcases (show k' < x4 ∨ x4 ≤ k' by omega) with z | z
          · have := hlt k' hk' z; omega
          · omega
        · rcases (show k < x4 ∨ k = x4 by omega) with z | rfl
          · exact hlt k hk z
          · exact absurd hk.2 q
/-- states near -/
def zNrP (V D : zPH) (s : Int) : Prop := (0 ≤ s ∧ s < 2 ^ (V 0 4).toNat) ∧ zWs V D (zEd V (D 0 0) s)
/-- what near() answers -/
def zNea (V D : zPH) (x : Int) : Prop := (zNrP V D x ∧ ∀ k', zNrP V D k' → zpp (zxor x (D 0 1)) < zpp (zxor k' (D 0 1)) ∨ (zpp (zxor x (D 0 1)) = zpp (zxor k' (D 0 1)) ∧ x ≤ k')) ∨ ((∀ k, ¬ zNrP V D k) ∧ x = -1)
theorem zNea_u {V D : zPH} {x y : Int} (h : zNea V D x) (h' : zNea V D y) : x = y := by
  rcases h with ⟨h1, h2⟩ | ⟨h1, h2⟩ <;> rcases h' with ⟨h1', h2'⟩ | ⟨h1', h2'⟩
  · have a := h2 y h1'
    have b := h2' x h1
    omega
  · exact absurd h1 (h1' x)
  · exact absurd h1' (h1 y)
  · omega
/-- the best so far among the first n -/
def zNeb (V D : zPH) (n x m : Int) : Prop := (x = -1 ∧ m = 7 ∧ ∀ k, zNrP V D k → ¬ k < n) ∨ ((zNrP V D x ∧ x < n) ∧ m = zpp (zxor x (D 0 1)) ∧ ∀ k, zNrP V D k → k < n → m < zpp (zxor k (D 0 1)) ∨ (m = zpp (zxor k (D 0 1)) ∧ x ≤ k))
theorem zNeb_e {V D : zPH} {n x m : Int} (h : zNeb V D n x m) (hn : 2 ^ (V 0 4).toNat ≤ n) : zNea V D x := by
  rcases h with ⟨h1, -, h2⟩ | ⟨⟨h1, -⟩, h2, h3⟩
  · exact Or.inr ⟨fun k hk => h2 k hk (by have := hk.1; omega), h1⟩
  · exact Or.inl ⟨h1, fun k hk => by have := h3 k hk (by have := hk.1; omega); omega⟩
theorem zpp6 {x : Int} (h : 0 ≤ x ∧ x < 64) : zpp x ≤ 6 := by unfold zpp; omega
theorem zEd_ea {V : zPH} {tu st r : Int} (h1 : (zLd V tu st).2 = (zLd V tu st).1 + 1) (h : zEa V tu st r) : r = zEd V tu st := by
  unfold zEd
  rw [if_pos h1]
  refine zbt_ext h.1 zEy_b.1.1 (fun e => ?_)
  rw [h.2]
  constructor
  · intro q; exact q _ (by omega) (by omega)
  · intro q j j1 j2
    rw [show j = (zLd V tu st).1 by omega]; exact q
theorem s_B_near (hB : zBD V D) (h : zCI σ V D t u) (hX : ∀ σ' x, zNea V D x → zCI σ' V D t u → zfB σ σ' → X (some (iZ x)) σ') : MS G zm_B_near 7 [zr G 0] σ X := by
  have hr := hB.r
  have h64 := (zNx_r hB.1 (tu := 0) (st := 0)).2.2
  have hnn := zpow_nn (V 0 4).toNat
  refine k_B_near h.1.1 (s_forget h (fun σ1 c1 M1 f1 => ⟨rfl, ?_⟩))
  refine zLP3_ind (fun x1 x2 x3 σ2 => (0 ≤ x3 ∧ x3 ≤ 2 ^ (V 0 4).toNat) ∧ zNeb V D x3 x1 x2 ∧ zCI σ2 V D t u ∧ zMm σ2 V (D 0 0) ∧ zfB σ σ2) (fun _ _ x3 _ => (64 - x3).toNat) ?_ ⟨⟨by omega, hnn⟩, Or.inl ⟨rfl, rfl, fun k hk => by have := hk.1; omega⟩, c1, M1 _, f1⟩
  rintro K x1 x2 x3 σ2 ⟨h3, hb, c2, M2, f2⟩ hK
  have hx2 : 0 ≤ x2 ∧ x2 ≤ 8 := by
    rcases hb with ⟨-, q, -⟩ | ⟨-, q, -⟩
    · omega
    · have := zpp_r (zxor x1 (D 0 1)); omega
  refine s_B_stateCount hB c2 ⟨_, rfl, by omega, fun hge => hX σ2 _ (zNeb_e hb hge) c2 f2, fun hlt => ?_⟩
  rw [c2.2.2.2.2.1.2.1]
  have hxx := zxor_lt' (show 0 ≤ x3 ∧ x3 < 2 ^ (V 0 4).toNat by omega) (zOr_st hB)
  have hpr := zpp_r (zxor x3 (D 0 1))
  refine ⟨⟨h3.1, hr.2.1⟩, s_bitCount (by omega) ⟨_, rfl, by omega, fun hle => ?_, fun hl => ⟨c2.1.2.2.2.1, ?_⟩⟩⟩
  · refine hK _ _ _ _ ⟨by omega, ?_, c2, M2, f2⟩ (by omega)
    rcases hb with ⟨q1, q2, q3⟩ | ⟨q1, q2, q3⟩
    · have := zpp6 (show 0 ≤ zxor x3 (D 0 1) ∧ zxor x3 (D 0 1) < 64 by omega)
      omega
    · refine Or.inr ⟨⟨q1.1, by omega⟩, q2, fun k hk hk2 => ?_⟩
      rcases (show k < x3 ∨ k = x3 by omega) with z | rfl
      · exact q3 k hk z
      · omega
  · rw [c2.2.2.2.2.1.1]
    have bad : ¬ zNrP V D x3 → zNeb V D (x3 + 1) x1 x2 := fun hno => by
      rcases hb with ⟨q1, q2, q3⟩ | ⟨q1, q2, q3⟩
      · refine Or.inl ⟨q1, q2, fun k hk hk2 => ?_⟩
        rcases (show k < x3 ∨ k = x3 by omega) with z | rfl
        · exact q3 k hk z
        · exact hno hk
      · refine Or.inr ⟨⟨q1.1, by omega⟩, q2, fun k hk hk2 => ?_⟩
        rcases (show k < x3 ∨ k = x3 by omega) with z | rfl
        · exact q3 k hk z
        · exact absurd hk hno
    refine s_walk hB c2 (by omega) ⟨h3.1, hlt⟩ M2 (fun σ3 c3 M3 f3 W => ⟨rfl, ?_⟩)
    have hln : zI (((zLd V (D 0 0) x3).2 : Int) - ((zLd V (D 0 0) x3).1 : Int)) := by
      obtain ⟨A, N, hq, hN, -⟩ := id W
      rw [(zLd_of hq).1, (zLd_of hq).2]
      have := hq.1
      omega
    refine s_C_roundLength W ⟨_, rfl, hln, fun hne => ?_, fun he => ?_⟩
    · refine hK _ _ _ _ ⟨by omega, bad (fun hk => ?_), c3, M3, f2.trans f3⟩ (by omega)
      have := hk.2.1
      unfold zEd at this
      rw [if_neg (by omega)] at this
      exact this rfl
    · refine s_C_eyesOfRound hB.1 ⟨h3.1, hlt⟩ W (by decide) (fun r hra => ⟨_, rfl, ?_⟩)
      rw [if_neg (by decide)] at hra
      have her := zEd_ea (by omega) hra
      refine s_B_isAsWished hB.1 c3.2.2.2.2 (by rw [her]; exact zEd_r hB.1 _ _) (fun q => Or.inr ⟨rfl, ?_⟩) (fun q => Or.inl ⟨rfl, ?_⟩)
      · rw [her] at q
        refine hK _ _ _ _ ⟨by omega, Or.inr ⟨⟨⟨⟨h3.1, hlt⟩, q⟩, by omega⟩, rfl, fun k hk hk2 => ?_⟩, c3, M3, f2.trans f3⟩ (by omega)
        rcases (show k < x3 ∨ k = x3 by omega) with z | rfl
        · rcases hb with ⟨q1, q2, q3⟩ | ⟨q1, q2, q3⟩
          · exact absurd z (q3 k hk)
          · have := q3 k hk z; omega
        · omega
      · rw [her] at q
        exact hK _ _ _ _ ⟨by omega, bad (fun hk => q hk.2), c3, M3, f2.trans f3⟩ (by omega)
end CW
