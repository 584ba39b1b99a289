/-- a fault in its range -/
def ye (e : Int × Int) : Prop := (1 ≤ e.1 ∧ e.1 ≤ 6) ∧ 0 ≤ e.2 ∧ e.2 ≤ 2000
/-- a good result -/
def yGp (n : Nat) : zPR → Prop
  | .inl (W, p) => 0 ≤ W 0 7 ∧ p ≤ n
  | .inr e => ye e
def yGd (n : Nat) (f : zPH → Nat → zPR) : Prop := ∀ W p, 0 ≤ W 0 7 → p ≤ n → yGp n (f W p)
section YG
variable {T : Nat → Int} {n : Nat}
theorem yGp_ite {c : Prop} [Decidable c] {a b : zPR} (ha : yGp n a) (hb : yGp n b) : yGp n (if c then a else b) := by split <;> assumption
theorem ztF_r (hn : n ≤ 1600) {p : Nat} (hp : p ≤ n) : (ztF T n p : Int) ≤ 2000 ∧ (ztS T n p : Int) ≤ 2000 := by
  have := (ztS_s (T := T) hp).1
  refine ⟨?_, by omega⟩
  unfold ztF; split
  · split <;> omega
  · omega
theorem yGd_no (hn : n ≤ 1600) {p : Nat} (hp : p ≤ n) : yGp n (yNo T n p) := by
  have := ztF_r (T := T) hn hp
  exact ⟨⟨by omega, by omega⟩, Int.natCast_nonneg _, this.1⟩
theorem yGd_S (hn : n ≤ 1600) {p : Nat} {k : Int} (hk : 1 ≤ k ∧ k ≤ 6) (hp : p ≤ n) : yGp n (.inr (k, (ztS T n p : Int))) := by
  have := ztF_r (T := T) hn hp
  exact ⟨hk, Int.natCast_nonneg _, this.2⟩
theorem yGd_bn {g f : zPH → Nat → zPR} (hg : yGd n g) (hf : yGd n f) : yGd n (fun W p => ybn (g W p) f) := by
  intro W p h hp
  have a := hg W p h hp
  show yGp n (ybn (g W p) f)
  cases hr : g W p with
  | inl x =>
    obtain ⟨W1, p1⟩ := x
    rw [hr] at a
    exact hf W1 p1 a.1 a.2
  | inr e => rw [hr] at a; exact a
theorem yGd_ex (hn : n ≤ 1600) {k v : Int} : yGd n (yEx T n k v) := fun W p h hp => by
  unfold yEx
  exact yGp_ite ⟨h, (ztE_s (T := T) hp).2.1⟩ (yGd_no hn hp)
theorem yGd_ch (hn : n ≤ 1600) {a b : Int} {f : Int → zPH → Nat → zPR} (hf : ∀ c, yGd n (f c)) : yGd n (yCh T n a b f) := fun W p h hp => by
  unfold yCh
  exact yGp_ite (hf _ W _ h (ztE_s (T := T) hp).2.1) (yGd_no hn hp)
theorem yGd_num (hn : n ≤ 1600) {a b : Int} {f : Int → zPH → Nat → zPR} (hf : ∀ c, yGd n (f c)) : yGd n (yNum T n a b f) := fun W p h hp => by
  unfold yNum
  exact yGp_ite (yGd_no hn hp) (yGp_ite (yGd_S hn (by decide) hp) (hf _ W _ h (ztE_s (T := T) hp).2.1))
theorem yGd_sq (hn : n ≤ 1600) {f : Nat → zPH → Nat → zPR} (hf : ∀ c, yGd n (f c)) : yGd n (ySq T n f) := fun W p h hp => by
  unfold ySq
  refine yGd_bn (g := yEx T n 0 10) (yGd_ex hn) (fun W p1 h1 hp1 => ?_) W p h hp
  refine yGd_num hn (fun c W2 p2 h2 hp2 => ?_) W p1 h1 hp1
  exact yGp_ite (yGd_no hn hp2) (yGp_ite (yGd_S hn (by decide) hp2) (yGp_ite (yGd_S hn (by decide) hp1) (hf _ W2 _ h2 (ztE_s (T := T) hp2).2.1)))
theorem yadd_7 {W : zPH} {s c : Int} (h : 0 ≤ W 0 7) : 0 ≤ yadd W s c 0 7 := by rw [(yadd_v W s c).1]; omega
theorem yGd_add {s c : Int} : yGd n (fun W p => .inl (yadd W s c, p)) := fun _ _ h hp => ⟨yadd_7 h, hp⟩
theorem yGd_sees (hn : n ≤ 1600) : yGd n (ySees T n) := fun W p h hp => by
  unfold ySees
  exact yGp_ite (yGd_no hn hp) (yGd_ch hn (fun c => yGd_add) _ _ (by unfold yask; rw [zupd_row (by decide), zupd_row (by decide)]; exact h) (ztE_s (T := T) hp).2.1)
theorem yGd_ands (hn : n ≤ 1600) {fact : zPH → Nat → zPR} (hf : yGd n fact) : ∀ f k, yGd n (yAnds T n fact f k) := by
  intro f
  induction f with
  | zero => intro k W p h hp; exact ⟨h, hp⟩
  | succ f ih =>
    intro k W p h hp
    unfold yAnds
    refine yGd_bn hf (fun W1 p1 h1 hp1 => ?_) W p h hp
    have h2 : 0 ≤ (if k then yadd W1 2 0 else W1) 0 7 := by split; exact yadd_7 h1; exact h1
    exact yGp_ite (ih true _ _ h2 (ztE_s (T := T) hp1).2.1) ⟨h2, hp1⟩
theorem yGd_ors (hn : n ≤ 1600) {both : zPH → Nat → zPR} (hf : yGd n both) : ∀ f k, yGd n (yOrs T n both f k) := by
  intro f
  induction f with
  | zero => intro k W p h hp; exact ⟨h, hp⟩
  | succ f ih =>
    intro k W p h hp
    unfold yOrs
    refine yGd_bn hf (fun W1 p1 h1 hp1 => ?_) W p h hp
    have h2 : 0 ≤ (if k then yadd W1 3 0 else W1) 0 7 := by split; exact yadd_7 h1; exact h1
    exact yGp_ite (ih true _ _ h2 (ztE_s (T := T) hp1).2.1) ⟨h2, hp1⟩
theorem yGd_test (hn : n ≤ 1600) {fact : zPH → Nat → zPR} (hf : yGd n fact) : yGd n (yTest T n fact) := fun W p h hp => yGd_ors hn (yGd_ands hn hf 1600 false) 1600 false W p h hp
theorem yGd_fact (hn : n ≤ 1600) : ∀ d, yGd n (yFact T n d) := by
  have all : yGd n (fun W p => ybn (yEx T n 0 25 W p) (fun W p => .inl (yadd W 0 0, p))) := yGd_bn (yGd_ex hn) yGd_add
  intro d
  induction d with
  | zero =>
    intro W p h hp
    unfold yFact
    exact yGp_ite (yGd_S hn (by decide) hp) (yGp_ite (yGd_sees hn W _ h (ztE_s (T := T) hp).2.1) (all W p h hp))
  | succ d ih =>
    intro W p h hp
    have hE := (ztE_s (T := T) hp).2.1
    unfold yFact
    exact yGp_ite (yGd_bn ih yGd_add W _ h hE) (yGp_ite (yGd_bn (yGd_test hn ih) (yGd_ex hn) W _ h hE) (yGp_ite (yGd_sees hn W _ h hE) (all W p h hp)))
theorem yGd_put {s f w : Int} {q : Nat} : yGd n (fun W p => .inl (yput W s f w q, p)) := fun W p h hp => by
  refine ⟨?_, hp⟩
  have : yput W s f w q 0 7 = W 0 7 := by
    rw [yput_0, if_neg (by decide), if_neg]
    unfold ygr; split
    · decide
    · split
      · decide
      · split
        · decide
        · split <;> decide
  rw [this]; exact h
theorem yGd_name (hn : n ≤ 1600) : yGd n (yName T n) := fun W p h hp => by
  unfold yName
  exact yGp_ite (yGd_no hn hp) (yGp_ite (yGd_S hn (by decide) hp) ⟨by rw [zupd_row (by decide)]; exact h, (ztE_s (T := T) hp).2.1⟩)
theorem yGd_piece (hn : n ≤ 1600) : yGd n (yPiece T n) := by
  have mv : ∀ s f : Int, yGd n (fun W p => ybn (yEx T n 0 11 W p) (fun W p => ybn (yTest T n (yFact T n 6) (yfrom W) p) (ySq T n (fun q W p => .inl (yput W s f (-1) q, p))))) := fun s f =>
    yGd_bn (yGd_ex hn) (fun W p h hp => yGd_bn (g := fun W p => yTest T n (yFact T n 6) (yfrom W) p) (fun W p h hp => yGd_test hn (yGd_fact hn 6) _ p (by rw [yfrom_r W (by decide)]; exact h) hp) (yGd_sq hn (fun _ => yGd_put)) W p h hp)
  intro W p h hp
  have hE := (ztE_s (T := T) hp).2.1
  unfold yPiece
  refine yGp_ite (yGd_no hn hp) (yGp_ite (yGd_S hn (by decide) hp) (yGp_ite ?_ (yGp_ite ?_ (yGp_ite ?_ (yGp_ite ?_ (yGp_ite ?_ (yGp_ite ?_ ?_)))))))
  · exact yGd_ch hn (fun c => yGd_ch hn (fun w => yGd_sq hn (fun q => yGd_put))) W _ h hE
  · exact yGd_ch hn (fun c => yGd_sq hn (fun q => yGd_put)) W _ h hE
  · exact yGd_ch hn (fun c => yGd_sq hn (fun q => yGd_put)) W _ h hE
  · exact yGd_sq hn (fun q => yGd_put) W _ h hE
  · exact yGd_bn (yGd_name hn) (yGd_sq hn (fun q => yGd_put)) W _ h hE
  · exact mv 8 0 W _ h hE
  · exact yGd_ch hn (fun c => mv 9 c) W _ h hE
theorem yGd_more (hn : n ≤ 1600) : ∀ f k W p, 0 ≤ W 0 7 → p ≤ n → ∀ e, yMore T n f k W p = .inr e → ye e := by
  intro f
  induction f with
  | zero => intro k W p h hp e he; simp only [yMore, Sum.inr.injEq] at he; rw [← he]; exact yGd_S (T := T) hn (k := 5) (by decide) hp
  | succ f ih =>
    intro k W p h hp e he
    rw [yMore_e] at he
    split at he
    · exact nomatch he
    split at he
    · simp only [Sum.inr.injEq] at he; rw [← he]; exact yGd_S (T := T) hn (k := 5) (by decide) hp
    have a := yGd_bn (yGd_piece (T := T) hn) (yGd_ex (T := T) (k := 3) (v := 59) hn) W p h hp
    dsimp only at a
    cases hr : ybn (yPiece T n W p) (yEx T n 3 59) with
    | inr x =>
      rw [hr] at he a
      simp only [Sum.inr.injEq] at he
      rw [← he]; exact a
    | inl x =>
      obtain ⟨W1, p1⟩ := x
      rw [hr] at he a
      obtain ⟨c, d⟩ := a
      exact ih (k + 1) W1 p1 c d e he
theorem yEyes_g {W : zPH} (h : yCs W) : ∀ m : Nat, (m : Int) ≤ W 0 7 → ∀ e, yEyes W m = .inr e → ye e := by
  intro m
  induction m with
  | zero => intro _ e he; exact nomatch he
  | succ m ih =>
    intro hm e he
    unfold yEyes at he
    cases hr : yEyes W m with
    | inr x =>
      rw [hr] at he
      simp only [Sum.inr.injEq] at he
      rw [← he]; exact ih (by omega) x hr
    | inl W1 =>
      rw [hr] at he
      dsimp only at he
      split at he
      · exact nomatch he
      split at he
      · rename_i q _
        simp only [Sum.inr.injEq] at he
        have := ((h.2 m (by omega)).2 (Decidable.not_not.mp q)).2.2
        rw [← he]
        exact ⟨⟨(by decide : (1 : Int) ≤ 6), (by decide : (6 : Int) ≤ 6)⟩, this.1, by have := this.2; show W 14 m ≤ 2000; omega⟩
      · exact nomatch he
theorem yGd_size (hn : n ≤ 1600) : yGd n (ySize T n) := fun W p h hp => by
  rw [ySize_e]
  exact yGp_ite (yGd_no hn hp) (yGd_num (f := fun c => yNum T n 2 12 (fun r W p => .inl (zupd (zupd W 0 0 c) 0 1 r, p))) hn (fun c => yGd_num (f := fun r W p => .inl (zupd (zupd W 0 0 c) 0 1 r, p)) hn (fun r W p h hp => ⟨by rw [zupd_nk (by decide), zupd_nk (by decide)]; exact h, hp⟩)) W _ h (ztE_s (T := T) hp).2.1)
/-- the whole text: a sound board, or a fault in its range -/
theorem yAll_s (hn : n ≤ 1600) : (∀ e, yAll T n = .inr e → ye e) ∧ ∀ W' k', yAll T n = .inl (W', k') → ∃ W, yOk W ∧ yEyes W (W 0 7).toNat = .inl W' ∧ 3 * W 0 7 ≤ 1600 ∧ (1 ≤ k' ∧ k' ≤ 60) ∧ W 0 6 = (k' : Int) - 1 := by
  have a := yGd_bn (yGd_size (T := T) hn) (yGd_ex (T := T) (k := 3) (v := 59) hn) yW0 0 (by decide) (Nat.zero_le _)
  dsimp only at a
  unfold yAll
  cases hr : ybn (ySize T n yW0 0) (yEx T n 3 59) with
  | inr x => rw [hr] at a; exact ⟨fun e he => by simp only [Sum.inr.injEq] at he; rw [← he]; exact a, fun W' k' he => nomatch he⟩
  | inl x =>
    obtain ⟨W1, p1⟩ := x
    obtain ⟨s1, s2, s3, s4⟩ := ySize_ok hr
    rw [hr] at a
    obtain ⟨c, d⟩ := a
    dsimp only
    cases hm : yMore T n 61 1 W1 p1 with
    | inr x => exact ⟨fun e he => by simp only [Sum.inr.injEq] at he; rw [← he]; exact yGd_more hn 61 1 W1 p1 c d x hm, fun W' k' he => nomatch he⟩
    | inl x =>
      obtain ⟨W2, p2, k2⟩ := x
      obtain ⟨⟨m1, m2, m3⟩, m4, m5⟩ := yMore_ok hn 61 1 W1 p1 W2 p2 k2 s1 s2 s3.2 (by decide) (by decide) (by omega) hm
      dsimp only
      cases hy : yEyes W2 (W2 0 7).toNat with
      | inr x => exact ⟨fun e he => by simp only [Sum.inr.injEq] at he; rw [← he]; exact yEyes_g m1.2.2.2 _ (by have := m1.2.2.2.1; omega) x hy, fun W' k' he => nomatch he⟩
      | inl W3 =>
        refine ⟨fun e he => (nomatch he), fun W' k' he => ?_⟩
        simp only [Sum.inl.injEq, Prod.mk.injEq] at he
        obtain ⟨h1, h2⟩ := he
        subst h1 h2
        exact ⟨W2, m1, hy, by have := m2.1; omega, m4, m5⟩
end YG
