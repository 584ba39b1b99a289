section YA
variable {T : Nat → Int} {n : Nat}
theorem ySize_e {W : zPH} {p : Nat} : ySize T n W p = if ¬ yIs T n p 0 0 then yNo T n p else yNum T n 2 12 (fun c => yNum T n 2 12 (fun r W p => .inl (zupd (zupd W 0 0 c) 0 1 r, p))) W (ztE T n p) := by
  unfold ySize
  by_cases q : yIs T n p 0 0
  · rw [yEx_y q, if_neg (fun z => z q)]; rfl
  · rw [yEx_n q, if_pos q]; rfl
theorem yOk_0 {c r : Int} (hc : 2 ≤ c ∧ c ≤ 12) (hr : 2 ≤ r ∧ r ≤ 12) : yOk (zupd (zupd yW0 0 0 c) 0 1 r) ∧ (∀ p, yBp (zupd (zupd yW0 0 0 c) 0 1 r) p) ∧ zupd (zupd yW0 0 0 c) 0 1 r 0 6 = 0 := by
  have e00 : zupd (zupd yW0 0 0 c) 0 1 r 0 0 = c := by rw [zupd_nk (by decide), zupd_same]
  have e01 : zupd (zupd yW0 0 0 c) 0 1 r 0 1 = r := by rw [zupd_same]
  have e0 : ∀ k, k ≠ 0 → k ≠ 1 → zupd (zupd yW0 0 0 c) 0 1 r 0 k = 0 := fun k a b => by rw [zupd_nk b, zupd_nk a]; rfl
  have er : ∀ q, q ≠ 0 → zupd (zupd yW0 0 0 c) 0 1 r q = fun _ => 0 := fun q a => by rw [zupd_row a, zupd_row a]; rfl
  generalize zupd (zupd yW0 0 0 c) 0 1 r = W at *
  have e2 := e0 2 (by decide) (by decide)
  have e3 := e0 3 (by decide) (by decide)
  have e4 := e0 4 (by decide) (by decide)
  have e5 := e0 5 (by decide) (by decide)
  have e6 := e0 6 (by decide) (by decide)
  have e7 := e0 7 (by decide) (by decide)
  have f1 : ∀ q, W 1 q = 0 := fun q => by rw [er 1 (by decide)]
  refine ⟨⟨⟨⟨by omega, by omega, fun q _ => ?_, fun e he => by omega, fun e he => by omega, fun e he => by omega⟩, ⟨by omega, by omega, fun q => by rw [f1]; decide⟩, fun q _ => f1 q, fun q hq => by rw [f1] at hq; omega, ⟨fun e he => by omega, fun e he => by omega, fun e he => by omega⟩, fun e he => by omega⟩, fun m hm => by omega, by rw [e7]; unfold yTl; rw [if_pos e4], ⟨by omega, fun k hk => by omega⟩⟩, fun p => ⟨by omega, ?_⟩, e6⟩
  · rw [f1]
    exact ⟨by decide, fun z => absurd z (by decide), fun z => by omega, fun z => absurd z (by decide), fun z => by omega, fun z => absurd z (by decide), fun z => by omega, fun z => absurd z (by decide)⟩
  · rw [e7]
    show 10 * ((ysn W 0 : Nat) : Int) ≤ p
    have : ysn W 0 = 0 := rfl
    rw [this]; omega
theorem ySize_ok {W : zPH} {p : Nat} (e : ybn (ySize T n yW0 0) (yEx T n 3 59) = .inl (W, p)) : yOk W ∧ yBp W p ∧ (0 < p ∧ p ≤ n) ∧ W 0 6 = 0 := by
  obtain ⟨W1, p1, e1, e2⟩ := ybn_i e
  obtain ⟨a, b, c⟩ := yEx_i e2
  rw [ySize_e] at e1
  split at e1
  · exact absurd e1 (by unfold yNo; exact fun z => nomatch z)
  have h0 : (0 : Nat) ≤ n := by omega
  have h1 := (ztE_s (T := T) h0).2.1
  unfold yNum at e1
  split at e1
  · exact absurd e1 (by unfold yNo; exact fun z => nomatch z)
  split at e1
  · exact nomatch e1
  dsimp only at e1
  have h2 := (ztE_s (T := T) h1).2.1
  split at e1
  · exact absurd e1 (by unfold yNo; exact fun z => nomatch z)
  split at e1
  · exact nomatch e1
  have h3 := (ztE_s (T := T) h2).2.1
  simp only [Sum.inl.injEq, Prod.mk.injEq] at e1
  obtain ⟨e3, e4⟩ := e1
  have h4 := (ztE_s (T := T) h3).2.1
  have h5 := ztE_p h3 (show ztK T n (ztE T n (ztE T n (ztE T n 0))) ≠ 4 by rw [e4]; have := a.1; omega)
  subst b c e4
  have := yOk_0 (c := ztV T n (ztE T n 0)) (r := ztV T n (ztE T n (ztE T n 0))) (by omega) (by omega)
  rw [e3] at this
  exact ⟨this.1, this.2.1 _, by omega, this.2.2⟩
theorem yMore_e {f k : Nat} {W : zPH} {p : Nat} : yMore T n (f + 1) k W p = if ztK T n p = 4 then .inl (W, p, k) else if k = 60 then .inr (5, (ztS T n p : Int)) else match ybn (yPiece T n W p) (yEx T n 3 59) with | .inl (W, p) => yMore T n f (k + 1) W p | .inr e => .inr e := rfl
theorem yStep_ok (hn : n ≤ 1600) {W W' : zPH} {p p' : Nat} (h : yOk W) (hb : yBp W p) (hp : p ≤ n) (e : ybn (yPiece T n W p) (yEx T n 3 59) = .inl (W', p')) : yAft T n W p W' p' := by
  obtain ⟨W1, p1, e1, e2⟩ := ybn_i e
  obtain ⟨a, b, c⟩ := yEx_i e2
  obtain ⟨x, y, z, w⟩ := yPiece_ok hn h hb hp e1
  have h1 := ztE_p z.2 (show ztK T n p1 ≠ 4 by have := a.1; omega)
  have h2 := (ztE_s (T := T) z.2).2.1
  subst b c
  exact ⟨x, y.le (by omega), by omega, w⟩
theorem yMore_ok (hn : n ≤ 1600) : ∀ (f k : Nat) (W : zPH) (p : Nat) (W' : zPH) (p' k' : Nat), yOk W → yBp W p → p ≤ n → 1 ≤ k → k ≤ 60 → W 0 6 = (k : Int) - 1 → yMore T n f k W p = .inl (W', p', k') → (yOk W' ∧ yBp W' p' ∧ p' ≤ n) ∧ (1 ≤ k' ∧ k' ≤ 60) ∧ W' 0 6 = (k' : Int) - 1 := by
  intro f
  induction f with
  | zero => intro k W p W' p' k' _ _ _ _ _ _ e; exact nomatch e
  | succ f ih =>
    intro k W p W' p' k' h hb hp hk1 hk2 h6 e
    rw [yMore_e] at e
    split at e
    · simp only [Sum.inl.injEq, Prod.mk.injEq] at e
      obtain ⟨rfl, rfl, rfl⟩ := e
      exact ⟨⟨h, hb, hp⟩, ⟨hk1, hk2⟩, h6⟩
    split at e
    · exact nomatch e
    rename_i q1 q2
    cases hr : ybn (yPiece T n W p) (yEx T n 3 59) with
    | inr x => rw [hr] at e; exact nomatch e
    | inl x =>
      obtain ⟨W1, p1⟩ := x
      rw [hr] at e
      obtain ⟨a, b, c, d⟩ := yStep_ok hn h hb hp hr
      exact ih (k + 1) W1 p1 W' p' k' a b c.2 (by omega) (by omega) (by omega) e
theorem yEyes_s {W : zPH} : ∀ (m : Nat) (W' : zPH), yEyes W m = .inl W' → (∀ r, r ≠ 11 → W' r = W r) ∧ ∀ k, k < m → W 9 k = 1 → W' 11 k = yeN W (W 13 k) (W 0 5).toNat ∧ W' 11 k ≠ -1 := by
  intro m
  induction m with
  | zero =>
    intro W' e
    simp only [yEyes, Sum.inl.injEq] at e
    subst e
    exact ⟨fun _ _ => rfl, fun k hk => by omega⟩
  | succ m ih =>
    intro W' e
    unfold yEyes at e
    cases hr : yEyes W m with
    | inr x => rw [hr] at e; exact nomatch e
    | inl W1 =>
      rw [hr] at e
      obtain ⟨a, b⟩ := ih W1 hr
      dsimp only at e
      split at e
      · rename_i q
        simp only [Sum.inl.injEq] at e
        subst e
        exact ⟨a, fun k hk hk1 => b k (by
          by_cases y : k = m
          · rw [y] at hk1; exact absurd hk1 q
          · omega) hk1⟩
      split at e
      · exact nomatch e
      rename_i q1 q2
      simp only [Sum.inl.injEq] at e
      subst e
      refine ⟨fun r hr => by rw [zupd_row hr, a r hr], fun k hk hk1 => ?_⟩
      by_cases y : k = m
      · rw [y, zupd_same]; exact ⟨rfl, q2⟩
      · rw [zupd_nk y]; exact b k (by omega) hk1
theorem yEyes_f {W : zPH} {e : Int × Int} : ∀ (m m' : Nat), m ≤ m' → yEyes W m = .inr e → yEyes W m' = .inr e := by
  intro m m'
  induction m' with
  | zero => intro h he; have : m = 0 := by omega
            subst this; exact he
  | succ m' ih =>
    intro h he
    by_cases y : m = m' + 1
    · rw [← y]; exact he
    · unfold yEyes; rw [ih (by omega) he]
end YA
