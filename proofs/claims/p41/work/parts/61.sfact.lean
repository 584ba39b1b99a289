theorem ztE_p {T : Nat → Int} {n p : Nat} (hp : p ≤ n) (h : ztK T n p ≠ 4) : p < ztE T n p ∧ ztS T n p < ztE T n p ∧ ztS T n p < n := by
  have a := ztS_s (T := T) hp
  have b := ztE_s (T := T) hp
  have c : ztS T n p < n := by
    by_cases q : n ≤ ztS T n p
    · exfalso; apply h; unfold ztK; rw [if_pos q]
    · omega
  have := b.2.2 c
  exact ⟨by omega, by omega, c⟩
theorem ztw_l {T : Nat → Int} {n p : Nat} (hp : p ≤ n) (h : ztK T n p = 0 ∨ ztK T n p = 1) : ztS T n p < n ∧ ¬ ztM T (ztS T n p) = true ∧ (∀ k, ztS T n p ≤ k → k < ztE T n p → 97 ≤ T k ∧ T k ≤ 122) ∧ (ztK T n p = 0 → zow (zpkw T (ztS T n p) (ztE T n p - ztS T n p)) = ztV T n p ∧ ztV T n p ≠ -1) ∧ (ztK T n p = 1 → ztE T n p - ztS T n p ≤ 6) := by
  have hc := (ztE_p (T := T) hp (by omega)).2.2
  have hl : zleB (T (ztS T n p)) = true := by
    cases q : zleB (T (ztS T n p)) with
    | true => rfl
    | false =>
      exfalso
      unfold ztK at h
      rw [if_neg (by omega), q] at h
      simp only [if_neg (show ¬ (false = true) by decide)] at h
      split at h
      · split at h
        · omega
        · split at h <;> omega
      · omega
  have hE : ztE T n p = zrE zleB T n (ztS T n p) := by unfold ztE; rw [if_neg (by omega), if_pos hl]
  have hr := (zrE_s (P := zleB) (T := T) (n := n) (i := ztS T n p) (by omega)).2.1
  have hK : ztK T n p = (if ztM T (ztS T n p) = true then 5 else if zow (zpkw T (ztS T n p) (ztE T n p - ztS T n p)) ≠ -1 then 0 else if 6 < ztE T n p - ztS T n p then 5 else 1) := by
    conv => lhs; unfold ztK
    rw [if_neg (by omega), if_pos hl]
  have hm : ¬ ztM T (ztS T n p) = true := fun z => by rw [if_pos z] at hK; omega
  rw [if_neg hm] at hK
  refine ⟨hc, hm, fun k a b => zleB_t.mp (hr k a (by omega)), fun k0 => ?_, fun k1 => ?_⟩
  · by_cases q : zow (zpkw T (ztS T n p) (ztE T n p - ztS T n p)) ≠ -1
    · have : ztV T n p = zow (zpkw T (ztS T n p) (ztE T n p - ztS T n p)) := by unfold ztV; rw [if_pos k0]
      exact ⟨this.symm, by rw [this]; exact q⟩
    · rw [if_neg q] at hK
      split at hK <;> omega
  · by_cases q : 6 < ztE T n p - ztS T n p
    · split at hK
      · omega
      · omega
    · omega
theorem zoc_big : ∀ i : Fin 27, 24948 ≤ zoc ((i.val : Nat) : Int) ∧ ((i.val ≠ 10 ∧ i.val ≠ 16 ∧ i.val ≠ 22) → 65536 ≤ zoc ((i.val : Nat) : Int)) ∧ (i.val = 26 → 16777216 ≤ zoc ((i.val : Nat) : Int)) := by decide
theorem zow_big {w : Int} (h : zow w ≠ -1) : 24948 ≤ w ∧ ((zow w ≠ 10 ∧ zow w ≠ 16 ∧ zow w ≠ 22) → 65536 ≤ w) ∧ (zow w = 26 → 16777216 ≤ w) := by
  have r := zow_r w
  have e := zoc_s h
  have b := zoc_big ⟨(zow w).toNat, by omega⟩
  have hh : (((zow w).toNat : Nat) : Int) = zow w := by omega
  simp only [hh, e] at b
  exact ⟨b.1, fun q => b.2.1 (by omega), fun q => b.2.2 (by omega)⟩
theorem ztw_n {T : Nat → Int} {n p : Nat} (hp : p ≤ n) (h : ztK T n p = 0) : ztS T n p + 2 ≤ ztE T n p ∧ ((ztV T n p ≠ 10 ∧ ztV T n p ≠ 16 ∧ ztV T n p ≠ 22) → ztS T n p + 3 ≤ ztE T n p) ∧ (ztV T n p = 26 → ztS T n p + 4 ≤ ztE T n p) := by
  obtain ⟨a, b, c, d, -⟩ := ztw_l hp (Or.inl h)
  obtain ⟨e, f⟩ := d h
  have hs := (ztE_p (T := T) hp (by omega)).2.1
  obtain ⟨g1, g2, g3⟩ := zow_big (w := zpkw T (ztS T n p) (ztE T n p - ztS T n p)) (by rw [e]; exact f)
  have hr := (zpkw_r (T := T) (s := ztS T n p) (k := ztE T n p - ztS T n p) (fun j hj => c _ (by omega) (by omega))).2
  rw [e] at g2 g3
  generalize hL : ztE T n p - ztS T n p = L at *
  have hL1 : L ≠ 1 := fun z => by rw [z] at hr g1; omega
  refine ⟨by omega, fun q => ?_, fun q => ?_⟩
  · have := g2 q
    have hL2 : L ≠ 2 := fun z => by rw [z] at hr this; omega
    omega
  · have := g3 q
    have hL2 : L ≠ 2 := fun z => by rw [z] at hr this; omega
    have hL3 : L ≠ 3 := fun z => by rw [z] at hr this; omega
    omega
theorem ztM_w {T : Nat → Int} {n p : Nat} (hp : p ≤ n) (h : ztK T n p = 0 ∨ ztK T n p = 1) : ztM T (ztE T n p) = true := by
  have hs := (ztE_p (T := T) hp (by omega)).2.1
  have := (ztw_l hp h).2.2.1 (ztE T n p - 1) (by omega) (by omega)
  unfold ztM
  rw [zleB_t.mpr this, decide_eq_true (show 0 < ztE T n p by omega)]; rfl
theorem ztS_w {T : Nat → Int} {n p : Nat} (hp : p ≤ n) (h : ztK T n p = 0 ∨ ztK T n p = 1) (hm : ztM T p = true) : p < ztS T n p := by
  have a := (ztS_s (T := T) hp).1.1
  have b := (ztw_l hp h).2.1
  by_cases q : p = ztS T n p
  · exfalso; apply b; rw [← q]; exact hm
  · omega
/-- one when a word's end stands before -/
def ywe (T : Nat → Int) (p : Nat) : Int := if ztM T p = true then 1 else 0
theorem yeS {T : Nat → Int} {n p : Nat} (hp : p ≤ n) (h : ztK T n p = 0 ∨ ztK T n p = 1) : (p : Int) + ywe T p ≤ ztS T n p := by
  unfold ywe
  split
  · have := ztS_w hp h (by assumption); omega
  · have := (ztS_s (T := T) hp).1.1; omega
theorem yeE {T : Nat → Int} {n p : Nat} (hp : p ≤ n) (h : ztK T n p = 0 ∨ ztK T n p = 1) : ywe T (ztE T n p) = 1 := by
  unfold ywe; rw [if_pos (ztM_w hp h)]
/-- parts of the code that are sees -/
def ysn (W : zPH) : Nat → Nat
  | 0 => 0
  | k + 1 => ysn W k + if W 9 k = 1 then 1 else 0
theorem ysn_s (W : zPH) (k : Nat) : ysn W (k + 1) = ysn W k + if W 9 k = 1 then 1 else 0 := rfl
theorem ysn_c {W W' : zPH} {m : Nat} (h : ∀ k, k < m → W' 9 k = W 9 k) : ysn W' m = ysn W m := by
  induction m with
  | zero => rfl
  | succ m ih => unfold ysn; rw [ih (fun k hk => h k (by omega)), h m (by omega)]
/-- only code has come, x and y bound it -/
def zyc (W W' : zPH) (x y : Int) : Prop := (∀ r, r ≠ 0 → r ≠ 9 → r ≠ 10 → r ≠ 11 → r ≠ 13 → r ≠ 14 → W' r = W r) ∧ (∀ k, k ≠ 7 → W' 0 k = W 0 k) ∧ (0 ≤ W 0 7 ∧ W 0 7 ≤ W' 0 7) ∧ 3 * (W' 0 7 - W 0 7) ≤ x ∧ 10 * ((ysn W' (W' 0 7).toNat : Int) - ysn W (W 0 7).toNat) ≤ y ∧ ∀ r k : Nat, (r = 9 ∨ r = 10 ∨ r = 11 ∨ r = 13 ∨ r = 14) → (k : Int) < W 0 7 → W' r k = W r k
theorem zyc.trans {W W1 W2 : zPH} {x y x1 y1 x2 y2 : Int} (h : zyc W W1 x1 y1) (h2 : zyc W1 W2 x2 y2) (hx : x1 + x2 ≤ x) (hy : y1 + y2 ≤ y) : zyc W W2 x y := by
  obtain ⟨a1, a2, a3, a4, a5, a6⟩ := h
  obtain ⟨b1, b2, b3, b4, b5, b6⟩ := h2
  exact ⟨fun r h0 h9 h10 h11 h13 h14 => by rw [b1 r h0 h9 h10 h11 h13 h14, a1 r h0 h9 h10 h11 h13 h14], fun k hk => by rw [b2 k hk, a2 k hk], by omega, by omega, by omega, fun r k hr hk => by rw [b6 r k hr (by omega), a6 r k hr hk]⟩
theorem zyc.rf {W : zPH} (h : 0 ≤ W 0 7) : zyc W W 0 0 := ⟨fun _ _ _ _ _ _ _ => rfl, fun _ _ => rfl, ⟨h, by omega⟩, by omega, by omega, fun _ _ _ _ => rfl⟩
theorem zyc.le {W W' : zPH} {x y x1 y1 : Int} (h : zyc W W' x1 y1) (hx : x1 ≤ x) (hy : y1 ≤ y) : zyc W W' x y := by
  obtain ⟨a1, a2, a3, a4, a5, a6⟩ := h
  exact ⟨a1, a2, a3, by omega, by omega, a6⟩
theorem yadd_sn {W : zPH} {s c : Int} (h : 0 ≤ W 0 7) : ysn (yadd W s c) (yadd W s c 0 7).toNat = ysn W (W 0 7).toNat + if s = 1 then 1 else 0 := by
  obtain ⟨v1, v2, v3, v4, v5, v6⟩ := yadd_v W s c
  rw [v1, show (W 0 7 + 1).toNat = (W 0 7).toNat + 1 by omega]
  rw [ysn_s, ysn_c (W := W) (fun k hk => by rw [v3, if_neg (by omega)]), v3, if_pos rfl]
theorem yadd_c {W : zPH} {s c : Int} (h : 0 ≤ W 0 7) (hs : s ≠ 1) : zyc W (yadd W s c) 3 0 := by
  obtain ⟨v1, v2, v3, v4, v5, v6⟩ := yadd_v W s c
  have sn := yadd_sn (s := s) (c := c) h
  rw [if_neg hs] at sn
  refine ⟨fun r h0 h9 h10 h11 _ _ => v6 r h0 h9 h10 h11, v2, by omega, by omega, by rw [sn]; omega, fun r k hr hk => ?_⟩
  rcases hr with rfl | rfl | rfl | rfl | rfl
  · rw [v3, if_neg (by omega)]
  · rw [v4, if_neg (by omega)]
  · rw [v5, if_neg (by omega)]
  · rw [v6 13 (by decide) (by decide) (by decide) (by decide)]
  · rw [v6 14 (by decide) (by decide) (by decide) (by decide)]
theorem yask_c {W : zPH} {e a c : Int} (h : 0 ≤ W 0 7) : zyc W (yadd (yask W e a) 1 c) 3 10 := by
  have k9 : ∀ r, r ≠ 13 → r ≠ 14 → yask W e a r = W r := fun r a b => by unfold yask; rw [zupd_row b, zupd_row a]
  have k07 : yask W e a 0 7 = W 0 7 := by rw [k9 0 (by decide) (by decide)]
  obtain ⟨v1, v2, v3, v4, v5, v6⟩ := yadd_v (yask W e a) 1 c
  have sn := yadd_sn (W := yask W e a) (s := 1) (c := c) (by omega)
  have es : ysn (yask W e a) (W 0 7).toNat = ysn W (W 0 7).toNat := ysn_c (fun k _ => by rw [k9 9 (by decide) (by decide)])
  rw [if_pos rfl, k07, es] at sn
  rw [k07] at v1 v3 v4 v5
  refine ⟨fun r h0 h9 h10 h11 h13 h14 => by rw [v6 r h0 h9 h10 h11, k9 r h13 h14], fun k hk => by rw [v2 k hk, k9 0 (by decide) (by decide)], by omega, by omega, by rw [sn]; omega, fun r k hr hk => ?_⟩
  rcases hr with rfl | rfl | rfl | rfl | rfl
  · rw [v3, if_neg (by omega), k9 9 (by decide) (by decide)]
  · rw [v4, if_neg (by omega), k9 10 (by decide) (by decide)]
  · rw [v5, if_neg (by omega), k9 11 (by decide) (by decide)]
  · rw [v6 13 (by decide) (by decide) (by decide) (by decide)]
    unfold yask; rw [zupd_row (by decide), zupd_nk (by omega)]
  · rw [v6 14 (by decide) (by decide) (by decide) (by decide)]
    unfold yask; rw [zupd_nk (by omega), zupd_row (by decide)]
/-- a spec function's bound -/
def yBd (T : Nat → Int) (n : Nat) (f : zPH → Nat → zPR) : Prop := ∀ W p W' p', 0 ≤ W 0 7 → p ≤ n → f W p = .inl (W', p') → (p ≤ p' ∧ p' ≤ n) ∧ zyc W W' ((p' : Int) - p - ywe T p) ((p' : Int) - p - ywe T p)
theorem ywe_r (T : Nat → Int) (p : Nat) : 0 ≤ ywe T p ∧ ywe T p ≤ 1 := by unfold ywe; split <;> decide
theorem ySees_b (T : Nat → Int) (n : Nat) {W W' : zPH} {p p' : Nat} (h0 : 0 ≤ W 0 7) (hp : p ≤ n) (h : ySees T n W p = .inl (W', p')) : (p ≤ p' ∧ p' ≤ n) ∧ (p : Int) + 4 + ywe T p ≤ p' - 1 ∧ zyc W W' 3 10 := by
  unfold ySees at h
  split at h
  · exact absurd h (by unfold yNo; exact fun z => nomatch z)
  · rename_i q
    have q1 : ztK T n p = 1 := by omega
    have a1 := ztE_p (T := T) hp (by omega)
    have a2 := (ztE_s (T := T) hp).2.1
    have a3 := yeS hp (Or.inr q1)
    have a4 := yeE hp (Or.inr q1)
    unfold yCh at h
    split at h
    · rename_i g
      have b1 := ztE_p a2 (show ztK T n (ztE T n p) ≠ 4 by omega)
      have b2 := (ztE_s (T := T) a2).2.1
      have b3 := yeS a2 (Or.inl g.1)
      have b4 := (ztw_n a2 g.1).2.1 (by omega)
      rw [a4] at b3
      simp only [Sum.inl.injEq, Prod.mk.injEq] at h
      obtain ⟨e1, e2⟩ := h
      subst e1
      refine ⟨by omega, by omega, yask_c h0⟩
    · exact absurd h (by unfold yNo; exact fun z => nomatch z)
theorem yEx_i {T : Nat → Int} {n p p' : Nat} {k v : Int} {W W' : zPH} (h : yEx T n k v W p = .inl (W', p')) : yIs T n p k v ∧ W' = W ∧ p' = ztE T n p := by
  unfold yEx at h
  split at h
  · simp only [Sum.inl.injEq, Prod.mk.injEq] at h
    exact ⟨by assumption, h.1.symm, h.2.symm⟩
  · exact absurd h (by unfold yNo; exact fun z => nomatch z)
theorem ybn_i {r : zPR} {f : zPH → Nat → zPR} {x : zPH × Nat} (h : ybn r f = .inl x) : ∃ W p, r = .inl (W, p) ∧ f W p = .inl x := by
  cases r with
  | inl y => obtain ⟨W, p⟩ := y; exact ⟨W, p, rfl, h⟩
  | inr e => exact nomatch h
theorem yAnds_b (T : Nat → Int) (n : Nat) {fact : zPH → Nat → zPR} (hf : yBd T n fact) : ∀ f k W p W' p', 0 < f → 0 ≤ W 0 7 → p ≤ n → n < p + f → yAnds T n fact f k W p = .inl (W', p') → (p ≤ p' ∧ p' ≤ n) ∧ zyc W W' ((p' : Int) - p - ywe T p + if k then 3 else 0) ((p' : Int) - p - ywe T p) := by
  intro f
  induction f with
  | zero => intro k W p W' p' hf0; omega
  | succ f ih =>
    intro k W p W' p' _ h0 hp hfu h
    unfold yAnds at h
    obtain ⟨W1, p1, e1, e2⟩ := ybn_i h
    obtain ⟨g1, g2⟩ := hf W p W1 p1 h0 hp e1
    have h1 : 0 ≤ W1 0 7 := by have := g2.2.2.1; omega
    have hw : zyc W1 (if k then yadd W1 2 0 else W1) (if k then 3 else 0) 0 := by
      cases k
      · exact zyc.rf h1
      · exact yadd_c h1 (by decide)
    split at e2
    · rename_i q
      have b0 := ztw_n g1.2 q.1
      have b1 := b0.2.1 (by omega)
      have b2 := (ztE_s (T := T) g1.2).2.1
      have b3 := (ztS_s (T := T) g1.2).1.1
      have h2 : 0 ≤ (if k then yadd W1 2 0 else W1) 0 7 := by have := hw.2.2.1; omega
      obtain ⟨c1, c2⟩ := ih true _ _ _ _ (by omega) h2 b2 (by omega) e2
      rw [yeE g1.2 (Or.inl q.1), if_pos rfl] at c2
      exact ⟨by omega, (g2.trans hw (Int.le_refl _) (Int.le_refl _)).trans c2 (by omega) (by omega)⟩
    · simp only [Sum.inl.injEq, Prod.mk.injEq] at e2
      obtain ⟨e3, e4⟩ := e2
      subst e3 e4
      exact ⟨g1, g2.trans hw (by omega) (by omega)⟩
theorem yOrs_b (T : Nat → Int) (n : Nat) {both : zPH → Nat → zPR} (hf : ∀ W p W' p', 0 ≤ W 0 7 → 0 < p → p ≤ n → both W p = .inl (W', p') → (p ≤ p' ∧ p' ≤ n) ∧ zyc W W' ((p' : Int) - p - ywe T p) ((p' : Int) - p - ywe T p)) : ∀ f k W p W' p', 0 < f → 0 ≤ W 0 7 → 0 < p → p ≤ n → n < p + f → yOrs T n both f k W p = .inl (W', p') → (p ≤ p' ∧ p' ≤ n) ∧ zyc W W' ((p' : Int) - p - ywe T p + if k then 3 else 0) ((p' : Int) - p - ywe T p) := by
  intro f
  induction f with
  | zero => intro k W p W' p' hf0; omega
  | succ f ih =>
    intro k W p W' p' _ h0 hp0 hp hfu h
    unfold yOrs at h
    obtain ⟨W1, p1, e1, e2⟩ := ybn_i h
    obtain ⟨g1, g2⟩ := hf W p W1 p1 h0 hp0 hp e1
    have h1 : 0 ≤ W1 0 7 := by have := g2.2.2.1; omega
    have hw : zyc W1 (if k then yadd W1 3 0 else W1) (if k then 3 else 0) 0 := by
      cases k
      · exact zyc.rf h1
      · exact yadd_c h1 (by decide)
    split at e2
    · rename_i q
      have b1 := (ztw_n g1.2 q.1).1
      have b2 := (ztE_s (T := T) g1.2).2.1
      have b3 := (ztS_s (T := T) g1.2).1.1
      have h2 : 0 ≤ (if k then yadd W1 3 0 else W1) 0 7 := by have := hw.2.2.1; omega
      obtain ⟨c1, c2⟩ := ih true _ _ _ _ (by omega) h2 (by omega) b2 (by omega) e2
      rw [yeE g1.2 (Or.inl q.1), if_pos rfl] at c2
      exact ⟨by omega, (g2.trans hw (Int.le_refl _) (Int.le_refl _)).trans c2 (by omega) (by omega)⟩
    · simp only [Sum.inl.injEq, Prod.mk.injEq] at e2
      obtain ⟨e3, e4⟩ := e2
      subst e3 e4
      exact ⟨g1, g2.trans hw (by omega) (by omega)⟩
theorem yTest_b (T : Nat → Int) {n : Nat} (hn : n ≤ 1600) {fact : zPH → Nat → zPR} (hf : yBd T n fact) {W W' : zPH} {p p' : Nat} (h0 : 0 ≤ W 0 7) (hp0 : 0 < p) (hp : p ≤ n) (h : yTest T n fact W p = .inl (W', p')) : (p ≤ p' ∧ p' ≤ n) ∧ zyc W W' ((p' : Int) - p - ywe T p) ((p' : Int) - p - ywe T p) := by
  obtain ⟨a, b⟩ := yOrs_b T n (fun W p W' p' a b c d => by
    obtain ⟨x, y⟩ := yAnds_b T n hf 1600 false W p W' p' (by decide) a c (by omega) d
    exact ⟨x, y.le (by simp) (Int.le_refl _)⟩) 1600 false W p W' p' (by decide) h0 hp0 hp (by omega) h
  exact ⟨a, b.le (by simp) (Int.le_refl _)⟩
theorem yFact_b (T : Nat → Int) {n : Nat} (hn : n ≤ 1600) : ∀ d, yBd T n (yFact T n d) := by
  have all : ∀ W p W' p', 0 ≤ W 0 7 → p ≤ n → ybn (yEx T n 0 25 W p) (fun W p => .inl (yadd W 0 0, p)) = .inl (W', p') → (p ≤ p' ∧ p' ≤ n) ∧ zyc W W' ((p' : Int) - p - ywe T p) ((p' : Int) - p - ywe T p) := by
    intro W p W' p' h0 hp h
    obtain ⟨W1, p1, e1, e2⟩ := ybn_i h
    obtain ⟨a, b, c⟩ := yEx_i e1
    simp only [Sum.inl.injEq, Prod.mk.injEq] at e2
    obtain ⟨e3, e4⟩ := e2
    subst e3 e4 b c
    have b1 := (ztw_n hp a.1).2.1 (by omega)
    have b2 := (ztE_s (T := T) hp).2.1
    have b3 := yeS hp (Or.inl a.1)
    have b4 := ywe_r T p
    exact ⟨by omega, (yadd_c h0 (by decide)).le (by omega) (by omega)⟩
  have sees : ∀ W p W' p', 0 ≤ W 0 7 → p ≤ n → yIs T n p 0 26 → ySees T n W (ztE T n p) = .inl (W', p') → (p ≤ p' ∧ p' ≤ n) ∧ zyc W W' ((p' : Int) - p - ywe T p) ((p' : Int) - p - ywe T p) := by
    intro W p W' p' h0 hp q h
    have b1 := (ztw_n hp q.1).2.2 q.2
    have b2 := (ztE_s (T := T) hp).2.1
    have b3 := yeS hp (Or.inl q.1)
    have b4 := ywe_r T p
    obtain ⟨c1, c2, c3⟩ := ySees_b T n h0 b2 h
    rw [yeE hp (Or.inl q.1)] at c2
    exact ⟨by omega, c3.le (by omega) (by omega)⟩
  intro d
  induction d with
  | zero =>
    intro W p W' p' h0 hp h
    unfold yFact at h
    split at h
    · exact nomatch h
    · split at h
      · exact sees W p W' p' h0 hp (by assumption) h
      · exact all W p W' p' h0 hp h
  | succ d ih =>
    intro W p W' p' h0 hp h
    unfold yFact at h
    split at h
    · rename_i q
      obtain ⟨W1, p1, e1, e2⟩ := ybn_i h
      have b1 := (ztw_n hp q.1).2.1 (by omega)
      have b2 := (ztE_s (T := T) hp).2.1
      have b3 := yeS hp (Or.inl q.1)
      have b4 := ywe_r T p
      obtain ⟨c1, c2⟩ := ih W (ztE T n p) W1 p1 h0 b2 e1
      rw [yeE hp (Or.inl q.1)] at c2
      simp only [Sum.inl.injEq, Prod.mk.injEq] at e2
      obtain ⟨e3, e4⟩ := e2
      subst e3 e4
      have h1 : 0 ≤ W1 0 7 := by have := c2.2.2.1; omega
      exact ⟨by omega, c2.trans (yadd_c h1 (by decide)) (by omega) (by omega)⟩
    · split at h
      · rename_i q
        obtain ⟨W1, p1, e1, e2⟩ := ybn_i h
        obtain ⟨a, b, c⟩ := yEx_i e2
        have b1 := ztE_p hp (show ztK T n p ≠ 4 by have := q.1; omega)
        have b2 := (ztE_s (T := T) hp).2.1
        have b4 := ywe_r T p
        obtain ⟨c1, c2⟩ := yTest_b T hn ih h0 (by omega) b2 e1
        have b5 := ztE_p c1.2 (show ztK T n p1 ≠ 4 by have := a.1; omega)
        have b6 := (ztE_s (T := T) c1.2).2.1
        have b7 := ywe_r T (ztE T n p)
        subst b c
        exact ⟨by omega, c2.le (by omega) (by omega)⟩
      · split at h
        · exact sees W p W' p' h0 hp (by assumption) h
        · exact all W p W' p' h0 hp h
