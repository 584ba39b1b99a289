/-- one part of a test's code, which begins at f: it finds what it takes, and the stack keeps under 16 -/
def yrj (W : zPH) (f j : Nat) : Prop := (0 ≤ W 9 (f + j) ∧ W 9 (f + j) ≤ 4) ∧ (W 9 (f + j) = 1 → (1 ≤ W 10 (f + j) ∧ W 10 (f + j) ≤ 7) ∧ (0 ≤ W 13 (f + j) ∧ W 13 (f + j) < 387420489) ∧ 0 ≤ W 14 (f + j) ∧ W 14 (f + j) ≤ 1600) ∧ (W 9 (f + j) = 4 → 1 ≤ zdp W f j) ∧ (W 9 (f + j) = 2 ∨ W 9 (f + j) = 3 → 2 ≤ zdp W f j) ∧ zdp W f (j + 1) ≤ 15
def yrq (f : Nat) (W W' : zPH) : Prop := ∀ j : Nat, (W 0 7).toNat - f ≤ j → j < (W' 0 7).toNat - f → yrj W' f j
theorem zdp_c {W W' : zPH} {f : Nat} : ∀ {m : Nat}, (∀ j, j < m → W' 9 (f + j) = W 9 (f + j)) → zdp W' f m = zdp W f m := by
  intro m
  induction m with
  | zero => intro _; rfl
  | succ m ih => intro h; unfold zdp; rw [ih (fun j hj => h j (by omega)), h m (by omega)]
theorem yrj_c {W W' : zPH} {f j : Nat} (h : ∀ r k, (r = 9 ∨ r = 10 ∨ r = 13 ∨ r = 14) → k ≤ f + j → W' r k = W r k) (hj : yrj W f j) : yrj W' f j := by
  unfold yrj at *
  rw [h 9 (f + j) (by omega) (by omega), h 10 (f + j) (by omega) (by omega), h 13 (f + j) (by omega) (by omega), h 14 (f + j) (by omega) (by omega), zdp_c (W := W) (W' := W') (m := j) (fun i hi => h 9 _ (by omega) (by omega)), zdp_c (W := W) (W' := W') (m := j + 1) (fun i hi => h 9 _ (by omega) (by omega))]
  exact hj
theorem yrq.trans {f : Nat} {W W1 W2 : zPH} {x y : Int} (h : yrq f W W1) (h2 : yrq f W1 W2) (c : zyc W1 W2 x y) : yrq f W W2 := by
  intro j a b
  by_cases q : j < (W1 0 7).toNat - f
  · have := c.2.2.1
    exact yrj_c (fun r k hr hk => c.2.2.2.2.2 r k (by omega) (by omega)) (h j a q)
  · exact h2 j (by omega) b
/-- depth so far, f the start -/
def ydp (f : Nat) (W : zPH) : Int := zdp W f ((W 0 7).toNat - f)
theorem yadd_dp {W : zPH} {f : Nat} {s c : Int} (h0 : (f : Int) ≤ W 0 7) : ydp f (yadd W s c) = ydp f W + (if s = 0 ∨ s = 1 then 1 else if s = 4 then 0 else -1) := by
  obtain ⟨v1, v2, v3, v4, v5, v6⟩ := yadd_v W s c
  unfold ydp
  rw [v1, show (W 0 7 + 1).toNat - f = ((W 0 7).toNat - f) + 1 by omega]
  conv => lhs; unfold zdp
  have e9 : yadd W s c 9 (f + ((W 0 7).toNat - f)) = s := by rw [v3, if_pos (show f + ((W 0 7).toNat - f) = (W 0 7).toNat by omega)]
  rw [e9, zdp_c (W := W) (fun j hj => by rw [v3, if_neg (by omega)])]
theorem yadd_rq {W : zPH} {f : Nat} {s c : Int} (h0 : (f : Int) ≤ W 0 7) (hs : 0 ≤ s ∧ s ≤ 4) (h1 : s = 1 → (1 ≤ c ∧ c ≤ 7) ∧ (0 ≤ W 13 (W 0 7).toNat ∧ W 13 (W 0 7).toNat < 387420489) ∧ 0 ≤ W 14 (W 0 7).toNat ∧ W 14 (W 0 7).toNat ≤ 1600) (h4 : s = 4 → 1 ≤ ydp f W) (h2 : s = 2 ∨ s = 3 → 2 ≤ ydp f W) (hd : ydp f (yadd W s c) ≤ 15) : yrq f W (yadd W s c) := by
  obtain ⟨v1, v2, v3, v4, v5, v6⟩ := yadd_v W s c
  intro j a b
  rw [v1] at b
  have hj : j = (W 0 7).toNat - f := by omega
  subst hj
  have hfj : f + ((W 0 7).toNat - f) = (W 0 7).toNat := by omega
  have hz : zdp (yadd W s c) f ((W 0 7).toNat - f) = ydp f W := zdp_c (fun i hi => by rw [v3, if_neg (by omega)])
  have hz1 : zdp (yadd W s c) f ((W 0 7).toNat - f + 1) = ydp f (yadd W s c) := by unfold ydp; rw [v1, show (W 0 7 + 1).toNat - f = (W 0 7).toNat - f + 1 by omega]
  unfold yrj
  rw [hfj, hz, hz1, v3, if_pos rfl, v4, if_pos rfl, v6 13 (by decide) (by decide) (by decide) (by decide), v6 14 (by decide) (by decide) (by decide) (by decide)]
  exact ⟨hs, h1, h4, h2, hd⟩
theorem zyc.dp {f : Nat} {W W1 : zPH} {x y : Int} (c : zyc W W1 x y) (h0 : (f : Int) ≤ W 0 7) : (f : Int) ≤ W1 0 7 := by have := c.2.2.1; omega
/-- a spec function's code: from depth D to D + 1, h more than D at most -/
def yDp (T : Nat → Int) (n : Nat) (g : zPH → Nat → zPR) (h : Int) : Prop := ∀ (f : Nat) W p W' p' D, (f : Int) ≤ W 0 7 → p ≤ n → ydp f W = D → 0 ≤ D → D + h ≤ 15 → g W p = .inl (W', p') → yrq f W W' ∧ ydp f W' = D + 1
theorem yAnds_s (T : Nat → Int) (n : Nat) {fact : zPH → Nat → zPR} {h : Int} (hb : yBd T n fact) (hd : yDp T n fact h) (h1 : 1 ≤ h) : ∀ fu k (f : Nat) W p W' p' D, 0 < fu → (f : Int) ≤ W 0 7 → p ≤ n → n < p + fu → ydp f W = D + (if k then 1 else 0) → 0 ≤ D → D + (h + 1) ≤ 15 → yAnds T n fact fu k W p = .inl (W', p') → yrq f W W' ∧ ydp f W' = D + 1 := by
  intro fu
  induction fu with
  | zero => intro k f W p W' p' D hf0; omega
  | succ fu ih =>
    intro k f W p W' p' D _ h0 hp hfu hD hD0 hh e
    have hbb := yAnds_b T n hb (fu + 1) k W p W' p' (by omega) (by omega) hp hfu e
    unfold yAnds at e
    obtain ⟨W1, p1, e1, e2⟩ := ybn_i e
    obtain ⟨g1, g2⟩ := hb W p W1 p1 (by omega) hp e1
    have f1 := g2.dp h0
    obtain ⟨r1, d1⟩ := hd f W p W1 p1 _ h0 hp hD (by split <;> omega) (by split <;> omega) e1
    have hw : ∃ x y, zyc W1 (if k then yadd W1 2 0 else W1) x y ∧ yrq f W1 (if k then yadd W1 2 0 else W1) ∧ ydp f (if k then yadd W1 2 0 else W1) = D + 1 := by
      cases k
      · refine ⟨0, 0, zyc.rf (by omega), fun j a b => ?_, ?_⟩
        · simp at b; omega
        · simp at d1 ⊢; omega
      · have dd := yadd_dp (W := W1) (f := f) (s := 2) (c := 0) f1
        rw [if_neg (by decide), if_neg (by decide)] at dd
        simp at d1
        refine ⟨3, 0, yadd_c (by omega) (by decide), yadd_rq f1 (by decide) (fun z => absurd z (by decide)) (fun z => absurd z (by decide)) (fun _ => by omega) ?_, ?_⟩
        · rw [dd]; omega
        · simp only [if_pos]; rw [dd]; omega
    obtain ⟨x, y, c2, r2, d2⟩ := hw
    split at e2
    · rename_i q
      have b0 := ztw_n g1.2 q.1
      have b1 := b0.2.1 (by omega)
      have b2 := (ztE_s (T := T) g1.2).2.1
      have b3 := (ztS_s (T := T) g1.2).1.1
      have h2 := c2.dp f1
      obtain ⟨r3, d3⟩ := ih true f _ _ _ _ D (by omega) h2 b2 (by omega) (by rw [if_pos rfl]; exact d2) hD0 hh e2
      have c3 := (yAnds_b T n hb fu true _ _ _ _ (by omega) (by omega) b2 (by omega) e2).2
      exact ⟨(r1.trans r2 c2).trans r3 c3, d3⟩
    · simp only [Sum.inl.injEq, Prod.mk.injEq] at e2
      obtain ⟨e3, e4⟩ := e2
      subst e3
      exact ⟨r1.trans r2 c2, d2⟩
theorem yOrs_s (T : Nat → Int) (n : Nat) {both : zPH → Nat → zPR} {h : Int} (hb : ∀ W p W' p', 0 ≤ W 0 7 → 0 < p → p ≤ n → both W p = .inl (W', p') → (p ≤ p' ∧ p' ≤ n) ∧ zyc W W' ((p' : Int) - p - ywe T p) ((p' : Int) - p - ywe T p)) (hd : ∀ (f : Nat) W p W' p' D, (f : Int) ≤ W 0 7 → 0 < p → p ≤ n → ydp f W = D → 0 ≤ D → D + h ≤ 15 → both W p = .inl (W', p') → yrq f W W' ∧ ydp f W' = D + 1) (h1 : 1 ≤ h) : ∀ fu k (f : Nat) W p W' p' D, 0 < fu → (f : Int) ≤ W 0 7 → 0 < p → p ≤ n → n < p + fu → ydp f W = D + (if k then 1 else 0) → 0 ≤ D → D + (h + 1) ≤ 15 → yOrs T n both fu k W p = .inl (W', p') → yrq f W W' ∧ ydp f W' = D + 1 := by
  intro fu
  induction fu with
  | zero => intro k f W p W' p' D hf0; omega
  | succ fu ih =>
    intro k f W p W' p' D _ h0 hp0 hp hfu hD hD0 hh e
    unfold yOrs at e
    obtain ⟨W1, p1, e1, e2⟩ := ybn_i e
    obtain ⟨g1, g2⟩ := hb W p W1 p1 (by omega) hp0 hp e1
    have f1 := g2.dp h0
    obtain ⟨r1, d1⟩ := hd f W p W1 p1 _ h0 hp0 hp hD (by split <;> omega) (by split <;> omega) e1
    have hw : ∃ x y, zyc W1 (if k then yadd W1 3 0 else W1) x y ∧ yrq f W1 (if k then yadd W1 3 0 else W1) ∧ ydp f (if k then yadd W1 3 0 else W1) = D + 1 := by
      cases k
      · refine ⟨0, 0, zyc.rf (by omega), fun j a b => ?_, ?_⟩
        · simp at b; omega
        · simp at d1 ⊢; omega
      · have dd := yadd_dp (W := W1) (f := f) (s := 3) (c := 0) f1
        rw [if_neg (by decide), if_neg (by decide)] at dd
        simp at d1
        refine ⟨3, 0, yadd_c (by omega) (by decide), yadd_rq f1 (by decide) (fun z => absurd z (by decide)) (fun z => absurd z (by decide)) (fun _ => by omega) ?_, ?_⟩
        · rw [dd]; omega
        · simp only [if_pos]; rw [dd]; omega
    obtain ⟨x, y, c2, r2, d2⟩ := hw
    split at e2
    · rename_i q
      have b1 := (ztw_n g1.2 q.1).1
      have b2 := (ztE_s (T := T) g1.2).2.1
      have b3 := (ztS_s (T := T) g1.2).1.1
      have h2 := c2.dp f1
      obtain ⟨r3, d3⟩ := ih true f _ _ _ _ D (by omega) h2 (by omega) b2 (by omega) (by rw [if_pos rfl]; exact d2) hD0 hh e2
      have c3 := (yOrs_b T n hb fu true _ _ _ _ (by omega) (by omega) (by omega) b2 (by omega) e2).2
      exact ⟨(r1.trans r2 c2).trans r3 c3, d3⟩
    · simp only [Sum.inl.injEq, Prod.mk.injEq] at e2
      obtain ⟨e3, e4⟩ := e2
      subst e3
      exact ⟨r1.trans r2 c2, d2⟩
theorem yTest_s (T : Nat → Int) {n : Nat} (hn : n ≤ 1600) {fact : zPH → Nat → zPR} {h : Int} (hb : yBd T n fact) (hd : yDp T n fact h) (h1 : 1 ≤ h) {f : Nat} {W W' : zPH} {p p' : Nat} {D : Int} (h0 : (f : Int) ≤ W 0 7) (hp0 : 0 < p) (hp : p ≤ n) (hD : ydp f W = D) (hD0 : 0 ≤ D) (hh : D + (h + 2) ≤ 15) (e : yTest T n fact W p = .inl (W', p')) : yrq f W W' ∧ ydp f W' = D + 1 :=
  yOrs_s T n (h := h + 1) (fun W p W' p' a b c d => by
    obtain ⟨x, y⟩ := yAnds_b T n hb 1600 false W p W' p' (by decide) a c (by omega) d
    exact ⟨x, y.le (by simp) (Int.le_refl _)⟩) (fun f W p W' p' D a b c d1 d2 d3 d4 => yAnds_s T n hb hd h1 1600 false f W p W' p' D (by decide) a c (by omega) (by simpa using d1) d2 d3 d4) (by omega) 1600 false f W p W' p' D (by decide) h0 hp0 hp (by omega) (by simpa using hD) hD0 (by omega) e
theorem yco_r {x : Int} (h : 0 ≤ x ∧ x ≤ 3) : 1 ≤ yco x ∧ yco x ≤ 7 := by
  have : x = 0 ∨ x = 1 ∨ x = 2 ∨ x = 3 := by omega
  rcases this with rfl | rfl | rfl | rfl <;> decide
theorem yFact_s (T : Nat → Int) {n : Nat} (hn : n ≤ 1600) : ∀ d : Nat, yDp T n (yFact T n d) (1 + 2 * d) := by
  have all : ∀ (f : Nat) W p W' p' D, (f : Int) ≤ W 0 7 → ydp f W = D → D + 1 ≤ 15 → ybn (yEx T n 0 25 W p) (fun W p => .inl (yadd W 0 0, p)) = .inl (W', p') → yrq f W W' ∧ ydp f W' = D + 1 := by
    intro f W p W' p' D h0 hD hh e
    obtain ⟨W1, p1, e1, e2⟩ := ybn_i e
    obtain ⟨a, b, c⟩ := yEx_i e1
    simp only [Sum.inl.injEq, Prod.mk.injEq] at e2
    obtain ⟨e3, e4⟩ := e2
    subst e3 b
    have dd := yadd_dp (W := W1) (f := f) (s := 0) (c := 0) h0
    rw [if_pos (by decide)] at dd
    exact ⟨yadd_rq h0 (by decide) (fun z => absurd z (by decide)) (fun z => absurd z (by decide)) (fun z => absurd z (by decide)) (by omega), by omega⟩
  have sees : ∀ (f : Nat) W p W' p' D, (f : Int) ≤ W 0 7 → p ≤ n → ydp f W = D → D + 1 ≤ 15 → ySees T n W p = .inl (W', p') → yrq f W W' ∧ ydp f W' = D + 1 := by
    intro f W p W' p' D h0 hp hD hh h
    unfold ySees at h
    split at h
    · exact absurd h (by unfold yNo; exact fun z => nomatch z)
    · rename_i q
      unfold yCh at h
      split at h
      · rename_i g
        simp only [Sum.inl.injEq, Prod.mk.injEq] at h
        obtain ⟨e1, e2⟩ := h
        subst e1
        have k9 : ∀ r, r ≠ 13 → r ≠ 14 → yask W (ztV T n p) (ztS T n p) r = W r := fun r a b => by unfold yask; rw [zupd_row b, zupd_row a]
        have k07 : yask W (ztV T n p) (ztS T n p) 0 7 = W 0 7 := by rw [k9 0 (by decide) (by decide)]
        have kd : ydp f (yask W (ztV T n p) (ztS T n p)) = D := by
          unfold ydp at hD ⊢
          rw [k07, zdp_c (W := W) (fun j _ => by rw [k9 9 (by decide) (by decide)])]; exact hD
        have dd := yadd_dp (W := yask W (ztV T n p) (ztS T n p)) (f := f) (s := 1) (c := yco (ztV T n (ztE T n p) - 12)) (by omega)
        rw [if_pos (by decide)] at dd
        have r := yadd_rq (W := yask W (ztV T n p) (ztS T n p)) (f := f) (s := 1) (c := yco (ztV T n (ztE T n p) - 12)) (by omega) (by decide) (fun _ => ⟨yco_r (by omega), by rw [k07]; unfold yask; rw [zupd_row (by decide), zupd_same]; exact ztV_n hp (by omega), by rw [k07]; unfold yask; rw [zupd_same]; have := (ztS_s (T := T) hp).1; omega⟩) (fun z => absurd z (by decide)) (fun z => absurd z (by decide)) (by omega)
        refine ⟨fun j a b => r j (by rw [k07]; exact a) b, by omega⟩
      · exact absurd h (by unfold yNo; exact fun z => nomatch z)
  intro d
  induction d with
  | zero =>
    intro f W p W' p' D h0 hp hD hD0 hh h
    unfold yFact at h
    split at h
    · exact nomatch h
    · split at h
      · exact sees f W _ W' p' D h0 (ztE_s (T := T) hp).2.1 hD (by omega) h
      · exact all f W p W' p' D h0 hD (by omega) h
  | succ d ih =>
    intro f W p W' p' D h0 hp hD hD0 hh h
    unfold yFact at h
    have b2 := (ztE_s (T := T) hp).2.1
    split at h
    · rename_i q
      obtain ⟨W1, p1, e1, e2⟩ := ybn_i h
      obtain ⟨r1, d1⟩ := ih f W (ztE T n p) W1 p1 D h0 b2 hD hD0 (by omega) e1
      have c1 := (yFact_b T hn d W (ztE T n p) W1 p1 (by omega) b2 e1).2
      simp only [Sum.inl.injEq, Prod.mk.injEq] at e2
      obtain ⟨e3, e4⟩ := e2
      subst e3
      have f1 := c1.dp h0
      have dd := yadd_dp (W := W1) (f := f) (s := 4) (c := 0) f1
      rw [if_neg (by decide), if_pos rfl] at dd
      exact ⟨r1.trans (yadd_rq f1 (by decide) (fun z => absurd z (by decide)) (fun _ => by omega) (fun z => absurd z (by decide)) (by omega)) (yadd_c (by omega) (by decide)), by omega⟩
    · split at h
      · rename_i q
        obtain ⟨W1, p1, e1, e2⟩ := ybn_i h
        obtain ⟨a, b, c⟩ := yEx_i e2
        subst b
        have hq := ztE_p hp (show ztK T n p ≠ 4 by have := q.1; omega)
        exact yTest_s T hn (yFact_b T hn d) ih (by omega) h0 (by omega) b2 hD hD0 (by omega) e1
      · split at h
        · exact sees f W _ W' p' D h0 b2 hD (by omega) h
        · exact all f W p W' p' D h0 hD (by omega) h
