/-- ends of tokens -/
def zch (T : Nat → Int) (n : Nat) : Nat → Nat
  | 0 => 0
  | k + 1 => ztE T n (zch T n k)
/-- entry k of the class's tokens -/
def zke (σ : zPH) (T : Nat → Int) (n k : Nat) : Prop := σ 9 k = ztK T n (zch T n k) ∧ σ 10 k = ztV T n (zch T n k) ∧ σ 11 k = (ztS T n (zch T n k) : Int) ∧ σ 12 k = (ztF T n (zch T n k) : Int)
theorem zke.to {σ σ' : zPH} {T : Nat → Int} {n k : Nat} (h : zke σ T n k) (r : ∀ q, 9 ≤ q → q ≤ 12 → σ' q k = σ q k) : zke σ' T n k := by
  unfold zke at *
  rw [r 9 (by omega) (by omega), r 10 (by omega) (by omega), r 11 (by omega) (by omega), r 12 (by omega) (by omega)]; exact h
/-- what split changes -/
def zfK (σ σ' : zPH) : Prop := (∀ q, (q < 8 ∨ 12 < q) → σ' q = σ q) ∧ ∀ k, k ≠ 4 → σ' 8 k = σ 8 k
theorem zfK.rf {σ : zPH} : zfK σ σ := ⟨fun _ _ => rfl, fun _ _ => rfl⟩
theorem zfK.trans {σ σ1 σ2 : zPH} (h : zfK σ σ1) (h2 : zfK σ1 σ2) : zfK σ σ2 := ⟨fun q a => by rw [h2.1 q a, h.1 q a], fun k a => by rw [h2.2 k a, h.2 k a]⟩
theorem ztS_b {T : Nat → Int} {n p x : Nat} (hp : p ≤ x) (hx : x ≤ n) (hb : ∀ k, p ≤ k → k < x → T k = 32 ∨ T k = 10) (he : x < n → ¬ (T x = 32 ∨ T x = 10)) : ztS T n p = x :=
  zrE_u ⟨hp, hx⟩ (fun k a b => zblB_t.mpr (hb k a b)) (fun a b => he a (zblB_t.mp b))
section KT
variable {G : zG} {σ : zPH} {X : zX} {T : Nat → Int} {n : Nat}
theorem s_K_isLetter {c : Int} (hc : zI c) (h1 : zleB c = true → X (some (iZ 1)) σ) (h0 : ¬ zleB c = true → X (some (iZ 0)) σ) : MS G zm_K_isLetter 0 [iZ c] σ X := by
  refine k_K_isLetter ⟨hc, fun z => h0 (fun y => by have := zleB_t.mp y; omega), fun z => ⟨hc, fun y => h0 (fun w => by have := zleB_t.mp w; omega), fun y => h1 (zleB_t.mpr ⟨z, y⟩)⟩⟩
theorem s_K_isDigit {c : Int} (hc : zI c) (h1 : zdiB c = true → X (some (iZ 1)) σ) (h0 : ¬ zdiB c = true → X (some (iZ 0)) σ) : MS G zm_K_isDigit 0 [iZ c] σ X := by
  refine k_K_isDigit ⟨hc, fun z => h0 (fun y => by have := zdiB_t.mp y; omega), fun z => ⟨hc, fun y => h0 (fun w => by have := zdiB_t.mp w; omega), fun y => h1 (zdiB_t.mpr ⟨z, y⟩)⟩⟩
theorem s_K_put {a b c d : Int} {k : Nat} (h4 : σ 8 4 = (k : Int)) (hk : k < 1601) (hX : ∀ σ', σ' 9 k = a → σ' 10 k = b → σ' 11 k = c → σ' 12 k = d → (∀ q j, 9 ≤ q → q ≤ 12 → j ≠ k → σ' q j = σ q j) → σ' 8 4 = ((k + 1 : Nat) : Int) → zfK σ σ' → X none σ') : MS G zm_K_put 0 [zr G 8, iZ a, iZ b, iZ c, iZ d] σ X := by
  refine k_K_put ?_
  unfold w_K_put
  rw [h4, Int.toNat_natCast]
  refine ⟨by omega, fun z => by omega, fun _ => ⟨by omega, ?_⟩⟩
  rintro σ1 e1
  have k1 : σ1 8 4 = (k : Int) := by rw [e1, zupd_row (by decide), h4]
  rw [k1, Int.toNat_natCast]
  refine ⟨by omega, ?_⟩
  rintro σ2 e2
  have k2 : σ2 8 4 = (k : Int) := by rw [e2, zupd_row (by decide), k1]
  rw [k2, Int.toNat_natCast]
  refine ⟨by omega, ?_⟩
  rintro σ3 e3
  have k3 : σ3 8 4 = (k : Int) := by rw [e3, zupd_row (by decide), k2]
  rw [k3, Int.toNat_natCast]
  refine ⟨by omega, ?_⟩
  rintro σ4 e4
  have k4 : σ4 8 4 = (k : Int) := by rw [e4, zupd_row (by decide), k3]
  rw [k4]
  rintro σ5 e5
  refine hX σ5 ?_ ?_ ?_ ?_ (fun q j hq hq2 hj => ?_) (by rw [e5, zupd_same]; rfl) ⟨fun q hq => by rw [e5, zupd_row (by omega), e4, zupd_row (by omega), e3, zupd_row (by omega), e2, zupd_row (by omega), e1, zupd_row (by omega)], fun j hj => by rw [e5, zupd_nk hj, e4, zupd_row (by decide), e3, zupd_row (by decide), e2, zupd_row (by decide), e1, zupd_row (by decide)]⟩
  · rw [e5, zupd_row (by decide), e4, zupd_row (by decide), e3, zupd_row (by decide), e2, zupd_row (by decide), e1, zupd_same]
  · rw [e5, zupd_row (by decide), e4, zupd_row (by decide), e3, zupd_row (by decide), e2, zupd_same]
  · rw [e5, zupd_row (by decide), e4, zupd_row (by decide), e3, zupd_same]
  · rw [e5, zupd_row (by decide), e4, zupd_same]
  · rw [e5, zupd_row (by omega), e4]
    have nk : ∀ (σ : zPH) (r : Nat) (x : Int), zupd σ r k x q j = σ q j := fun σ r x => by
      by_cases y : q = r
      · rw [← y, zupd_nk hj]
      · rw [zupd_row y]
    rw [nk, e3, nk, e2, nk, e1, nk]
/-- digits so far, base b, zero z -/
def zpkb (T : Nat → Int) (s : Nat) (b z : Int) : Nat → Int
  | 0 => 0
  | k + 1 => zpkb T s b z k * b + T (s + k) - z
theorem zpkb_n (T : Nat → Int) (s : Nat) : ∀ k, zpkb T s 27 96 k = zpkn T s k := by
  intro k
  induction k with
  | zero => rfl
  | succ k ih => unfold zpkb zpkn; rw [ih]; omega
theorem zpkb_d (T : Nat → Int) (s : Nat) : ∀ k, zpkb T s 10 48 k = zpkd T s k := by
  intro k
  induction k with
  | zero => rfl
  | succ k ih => unfold zpkb zpkd; rw [ih]; omega
theorem s_K_packed {s m : Nat} {b z : Int} (ht : zkT σ T n) (h8 : σ 8 5 = ((1 : Nat) : Int)) (hs : s + m ≤ n) (hX : X (some (iZ (zpkb T s b z m))) σ) : MS G zm_K_packed 0 [zr G 8, iZ (s : Int), iZ (m : Int), iZ b, iZ z] σ X := by
  have hn := ht.2.1
  refine k_K_packed ?_
  refine zLP2_ind (fun x5 x6 s' => s' = σ ∧ ∃ k : Nat, k ≤ m ∧ x6 = ((s + k : Nat) : Int) ∧ x5 = zpkb T s b z k) (fun _ x6 _ => (2000 - x6).toNat) ?_ ⟨rfl, 0, by omega, rfl, rfl⟩
  rintro K x5 x6 s' ⟨rfl, k, hk, rfl, rfl⟩ hK
  refine ⟨by omega, fun y => ?_, fun y => ⟨h8, by omega, ?_⟩⟩
  · have : k = m := by omega
    subst this; exact hX
  · rintro x e
    rw [Int.toNat_natCast, ht.1 (s + k) (by omega)] at e
    exact hK _ _ _ ⟨rfl, k + 1, by omega, by omega, e⟩ (by omega)
/-- an entry comes -/
theorem s_K_addWordOrNumber {k p x m : Nat} (ht : zkT σ T n) (h8 : σ 8 5 = ((1 : Nat) : Int)) (h4 : σ 8 4 = (k : Int)) (hk : k < 1601) (hp : p ≤ n) (hS : ztS T n p = x) (hx : x < n) (hc : (zleB (T x) = true ∧ x + m = zrE zleB T n x) ∨ (¬ zleB (T x) = true ∧ zdiB (T x) = true ∧ x + m = zrE zdiB T n x)) (hX : ∀ σ', (σ' 9 k = ztK T n p ∧ σ' 10 k = ztV T n p ∧ σ' 11 k = (ztS T n p : Int) ∧ σ' 12 k = (ztF T n p : Int)) → (∀ q j, 9 ≤ q → q ≤ 12 → j ≠ k → σ' q j = σ q j) → σ' 8 4 = ((k + 1 : Nat) : Int) → zfK σ σ' → X none σ') : MS G zm_K_addWordOrNumber 7 [zr G 8, iZ (x : Int), iZ (m : Int)] σ X := by
  have hn := ht.2.1
  have hTx := ht.2.2 x
  have hE : ztE T n p = x + m := by
    unfold ztE
    rw [hS, if_neg (by omega)]
    rcases hc with ⟨a, b⟩ | ⟨a, b, c⟩
    · rw [if_pos a, b]
    · rw [if_neg a, if_pos b, c]
  have hEn := (ztE_s (T := T) hp).2.1
  have hmp : 0 < m := by
    have := (ztE_s (T := T) hp).2.2 (by omega); omega
  have pt : ∀ a b c d : Int, a = ztK T n p → b = ztV T n p → c = (ztS T n p : Int) → d = (ztF T n p : Int) → MS G zm_K_put 0 [zr G 8, iZ a, iZ b, iZ c, iZ d] σ (fun v σ' => v = none ∧ X none σ') := fun a b c d ea eb ec ed =>
    s_K_put h4 hk (fun σ' p1 p2 p3 p4 p5 p6 p7 => ⟨rfl, hX σ' ⟨by rw [p1, ea], by rw [p2, eb], by rw [p3, ec], by rw [p4, ed]⟩ p5 p6 p7⟩)
  have hm1 : ztM T x = decide (0 < x ∧ (zleB (T (x - 1)) || zdiB (T (x - 1))) = true) := by
    unfold ztM; by_cases y : 0 < x <;> simp [y]
  -- what the token is
  have fin : ∀ (l o : Int) (z : Int), (l = 6 ∧ zleB (T x) = true ∧ o = zow (zpkw T x m) ∧ z = 1) ∨ (l = 4 ∧ ¬ zleB (T x) = true ∧ zdiB (T x) = true ∧ o = -1 ∧ z = 0) → b_K_addWordOrNumber_36 G (x : Int) (m : Int) X z l o σ := by
    intro l o z hlo
    have hKM : ztM T x = true → ztK T n p = 5 := fun y => by
      unfold ztK; rw [hS, if_neg (by omega)]
      rcases hlo with ⟨-, a, -⟩ | ⟨-, a, b, -⟩
      · rw [if_pos a, if_pos y]
      · rw [if_neg a, if_pos b, if_pos y]
    have hK : ¬ ztM T x = true → ztK T n p = (if z = 1 then (if o ≠ -1 then 0 else if 6 < m then 5 else 1) else if 4 < m then 5 else 2) := fun y => by
      unfold ztK; rw [hS, hE, if_neg (by omega), show x + m - x = m by omega]
      rcases hlo with ⟨-, a, b, c⟩ | ⟨-, a, b, -, c⟩
      · rw [if_pos a, if_neg y, ← b, c, if_pos rfl]
      · rw [if_neg a, if_pos b, if_neg y, c, if_neg (show ¬ ((0 : Int) = 1) by decide)]
    have oI : zI o := by rcases hlo with ⟨-, -, c, -⟩ | ⟨-, -, -, c, -⟩ <;> (have := zow_r (zpkw T x m); omega)
    have hV : ztV T n p = if ztK T n p = 0 then zow (zpkw T x m) else if ztK T n p = 1 then zpkn T x m else if ztK T n p = 2 then zpkd T x m else if ztK T n p = 3 then T x else -1 := by
      unfold ztV; rw [hS, hE, show x + m - x = m by omega]
    have hF : ztF T n p = if ztK T n p = 5 ∧ ¬ ztM T x = true then (if zleB (T x) = true then x + 6 else x + 4) else x := by
      unfold ztF; rw [hS]
    have b70 : ztM T x = true → b_K_addWordOrNumber_70 G (x : Int) (m : Int) X z l o σ := fun y => by
      have k5 := hKM y
      refine ⟨by decide, fun u => absurd u (by decide), fun _ => pt _ _ _ _ k5.symm ?_ (by rw [hS]) ?_⟩
      · rw [hV, k5, if_neg (by decide), if_neg (by decide), if_neg (by decide), if_neg (by decide)]
      · rw [hF, if_neg (fun u => u.2 y)]
    have b74 : ¬ ztM T x = true → b_K_addWordOrNumber_74 G (x : Int) (m : Int) X z l o σ := fun y => by
      have kk := hK y
      refine ⟨by decide, fun _ => ⟨oI, fun u => ⟨by omega, fun w => ⟨by omega, fun v => ?_, fun v => ?_⟩, fun w => ?_⟩, fun u => ?_⟩, fun u => absurd rfl u⟩
      · have h10 : ¬ zleB (T x) = true := by rcases hlo with ⟨-, -, -, c⟩ | ⟨-, a, -⟩; omega; exact a
        have hl4 : l = 4 := by rcases hlo with ⟨-, -, -, c⟩ | ⟨a, -⟩; omega; exact a
        rw [if_neg (by omega), if_neg (by omega)] at kk
        refine s_K_packed ht h8 (by omega) ⟨_, rfl, pt _ _ _ _ kk.symm ?_ (by rw [hS]) ?_⟩
        · rw [hV, kk, if_neg (by decide), if_neg (by decide), if_pos rfl, zpkb_d]
        · rw [hF, if_neg (fun u => by have := u.1; omega)]
      · have hl6 : l = 6 := by rcases hlo with ⟨a, -⟩ | ⟨-, -, -, -, c⟩; exact a; omega
        have hz1 : z = 1 := by rcases hlo with ⟨-, -, -, c⟩ | ⟨-, -, -, -, c⟩; exact c; omega
        rw [if_pos hz1, if_neg (fun q => q u), if_neg (by omega)] at kk
        refine s_K_packed ht h8 (by omega) ⟨_, rfl, pt _ _ _ _ kk.symm ?_ (by rw [hS]) ?_⟩
        · rw [hV, kk, if_neg (by decide), if_pos rfl, zpkb_n]
        · rw [hF, if_neg (fun u => by have := u.1; omega)]
      · have k5 : ztK T n p = 5 := by
          rcases hlo with ⟨a, -, -, c⟩ | ⟨a, -, -, -, c⟩
          · rw [if_pos c, if_neg (fun q => q u), if_pos (by omega)] at kk; exact kk
          · rw [if_neg (by omega), if_pos (by omega)] at kk; exact kk
        refine pt _ _ _ _ k5.symm ?_ (by rw [hS]) ?_
        · rw [hV, k5, if_neg (by decide), if_neg (by decide), if_neg (by decide), if_neg (by decide)]
        · rw [hF, if_pos ⟨k5, y⟩]
          rcases hlo with ⟨a, b, -⟩ | ⟨a, b, -⟩
          · rw [if_pos b, a]; omega
          · rw [if_neg b, a]; omega
      · have hz1 : z = 1 ∧ o = zow (zpkw T x m) := by rcases hlo with ⟨-, -, b, c⟩ | ⟨-, -, -, c, -⟩; exact ⟨c, b⟩; exact absurd c u
        rw [if_pos hz1.1, if_pos u] at kk
        refine pt _ _ _ _ kk.symm ?_ (by rw [hS]) ?_
        · rw [hV, kk, if_pos rfl, hz1.2]
        · rw [hF, if_neg (fun w => by have := w.1; omega)]
    refine ⟨by omega, fun y => b74 (fun u => ?_), fun y => ⟨h8, by omega, ?_⟩⟩
    · rw [hm1] at u
      have := (of_decide_eq_true u).1
      omega
    · have hx1 : ((x : Int) - 1).toNat = x - 1 := by omega
      have hr := ht.2.2 (x - 1)
      rw [hx1, ht.1 (x - 1) (by omega)]
      refine s_K_isLetter (by omega) (fun u => Or.inr ⟨rfl, b70 ?_⟩) (fun u => Or.inl ⟨rfl, h8, by omega, ?_⟩)
      · rw [hm1]; exact decide_eq_true ⟨by omega, by rw [u]; rfl⟩
      · rw [ht.1 (x - 1) (by omega)]
        refine s_K_isDigit (by omega) (fun w => Or.inr ⟨rfl, b70 ?_⟩) (fun w => Or.inl ⟨rfl, b74 (fun v => ?_)⟩)
        · rw [hm1]; exact decide_eq_true ⟨by omega, by rw [w]; simp⟩
        · rw [hm1] at v
          have := (of_decide_eq_true v).2
          rw [Bool.or_eq_true] at this
          exact this.elim u w
  refine k_K_addWordOrNumber ⟨h8, by omega, ?_⟩
  rw [Int.toNat_natCast, ht.1 x hx]
  refine s_K_isLetter (by omega) (fun u => ⟨1, Or.inr rfl, rfl, by decide, fun z => absurd z (by decide), fun _ => ⟨by decide, fun z => absurd z (by decide), fun _ => ?_⟩⟩) (fun u => ⟨0, Or.inl rfl, rfl, by decide, fun _ => ⟨by decide, fun _ => ?_, fun z => absurd rfl z⟩, fun z => absurd rfl z⟩)
  · refine s_K_ownWord ht h8 hmp (by omega) (fun j hj => ?_) ⟨_, rfl, fin 6 _ 1 (Or.inl ⟨rfl, u, rfl, rfl⟩)⟩
    rcases hc with ⟨a, b⟩ | ⟨a, -⟩
    · exact zleB_t.mp ((zrE_s (P := zleB) (T := T) (n := n) (i := x) (by omega)).2.1 (x + j) (by omega) (by omega))
    · exact absurd u a
  · rcases hc with ⟨a, -⟩ | ⟨a, b, -⟩
    · exact absurd a u
    · exact fin 4 _ 0 (Or.inr ⟨rfl, a, b, rfl, rfl⟩)
end KT
