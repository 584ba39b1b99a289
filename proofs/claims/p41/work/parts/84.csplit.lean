/-- the class's tokens are there: c entries -/
def zkv (σ : zPH) (T : Nat → Int) (n c : Nat) : Prop := σ 8 4 = (c : Int) ∧ (1 ≤ c ∧ c ≤ 1601) ∧ (∀ k, k < c → zke σ T n k) ∧ (∀ k, k + 1 < c → ztK T n (zch T n k) ≠ 4) ∧ ztK T n (zch T n (c - 1)) = 4 ∧ ∀ k, k < c → zch T n k ≤ n
section KS
variable {G : zG} {σ : zPH} {X : zX} {T : Nat → Int} {n : Nat}
theorem s_K_isLikeFirst {x y : Nat} (ht : zkT σ T n) (h8 : σ 8 5 = ((1 : Nat) : Int)) (hx : x < n) (hy : y < n) {P : Int → Bool} (hP : (P = zleB ∧ zleB (T x) = true) ∨ (P = zdiB ∧ ¬ zleB (T x) = true)) (h1 : P (T y) = true → X (some (iZ 1)) σ) (h0 : ¬ P (T y) = true → X (some (iZ 0)) σ) : MS G zm_K_isLikeFirst 1 [zr G 8, iZ (x : Int), iZ (y : Int)] σ X := by
  have hn := ht.2.1
  have a := ht.2.2 x
  have b := ht.2.2 y
  refine k_K_isLikeFirst ⟨h8, by omega, ?_⟩
  rw [Int.toNat_natCast, Int.toNat_natCast, ht.1 x hx]
  refine s_K_isLetter (by omega) (fun u => Or.inr ⟨rfl, h8, by omega, ?_⟩) (fun u => Or.inl ⟨rfl, h8, by omega, ?_⟩)
  · rcases hP with ⟨rfl, -⟩ | ⟨-, v⟩
    · rw [ht.1 y hy]
      exact s_K_isLetter (by omega) (fun w => ⟨1, Or.inr rfl, rfl, Or.inr rfl, h1 w⟩) (fun w => ⟨0, Or.inl rfl, rfl, Or.inl rfl, h0 w⟩)
    · exact absurd u v
  · rcases hP with ⟨-, v⟩ | ⟨rfl, -⟩
    · exact absurd v u
    · rw [ht.1 y hy]
      exact s_K_isDigit (by omega) (fun w => ⟨1, Or.inr rfl, rfl, Or.inr rfl, h1 w⟩) (fun w => ⟨0, Or.inl rfl, rfl, Or.inl rfl, h0 w⟩)
theorem zkT.to {σ' : zPH} (h : zkT σ T n) (r : σ' 1 = σ 1) : zkT σ' T n := by unfold zkT at *; rw [r]; exact h
theorem s_K_split (ht : zkT σ T n) (hX : ∀ σ' c, zkv σ' T n c → (∀ q, (q < 8 ∨ 12 < q) → σ' q = σ q) → X none σ') : MS G zm_K_split 8 [zr G 8, zr G 1, iZ (n : Int)] σ X := by
  have hn := ht.2.1
  refine k_K_split ?_
  rintro σ1 e1 σ2 e2
  have f2 : ∀ q, (q < 8 ∨ 12 < q) → σ2 q = σ q := fun q a => by rw [e2, zupd_row (by omega), e1, zupd_row (by omega)]
  refine zLP1_ind (fun x s => ∃ k xx : Nat, x = (xx : Int) ∧ xx ≤ n ∧ zch T n k ≤ xx ∧ (∀ j, zch T n k ≤ j → j < xx → T j = 32 ∨ T j = 10) ∧ k ≤ zch T n k ∧ (∀ j, j < k → zke s T n j) ∧ (∀ j, j < k → ztK T n (zch T n j) ≠ 4 ∧ zch T n j ≤ n) ∧ s 8 4 = (k : Int) ∧ s 8 5 = ((1 : Nat) : Int) ∧ ∀ q, (q < 8 ∨ 12 < q) → s q = σ q) (fun x _ => (4000 - x).toNat) ?_ ⟨0, 0, rfl, Nat.zero_le _, Nat.le_refl _, fun j a b => by omega, Nat.le_refl _, fun j hj => by omega, fun j hj => by omega, by rw [e2, zupd_same]; rfl, by rw [e2, zupd_nk (by decide), e1, zupd_same], f2⟩
  rintro K x s ⟨k, xx, rfl, hxn, hzx, hbl, hkz, hent, hk4, s84, s85, hf⟩ hK
  have hts : zkT s T n := ht.to (hf 1 (by omega))
  have hTx := ht.2.2 xx
  have stepK : ∀ (m : Nat) (s' : zPH), 0 < m → (∀ q, (q < 8 ∨ 12 < q) → s' q = s q) → s' 8 5 = s 8 5 → ((s' 8 4 = (k : Int) ∧ (∀ q j, 9 ≤ q → q ≤ 12 → s' q j = s q j) ∧ m = 1 ∧ xx < n ∧ (T xx = 32 ∨ T xx = 10)) ∨ (s' 8 4 = ((k + 1 : Nat) : Int) ∧ (zke s' T n k) ∧ (∀ q j, 9 ≤ q → q ≤ 12 → j ≠ k → s' q j = s q j) ∧ ztE T n (zch T n k) = xx + m ∧ ztK T n (zch T n k) ≠ 4 ∧ xx + m ≤ n)) → ∀ (K4 : zX), K ((xx : Int) + (m : Int)) s' := by
    intro m s' hm h1 h2 h3 _
    rcases h3 with ⟨a, b, c, d, e⟩ | ⟨a, b, c, d, e, f⟩
    · subst c
      refine hK _ _ ⟨k, xx + 1, by omega, by omega, by omega, fun j j1 j2 => ?_, hkz, fun j hj => (hent j hj).to (fun q q1 q2 => b q j q1 q2), hk4, a, by rw [h2]; exact s85, fun q hq => by rw [h1 q hq]; exact hf q hq⟩ (by omega)
      by_cases y : j = xx
      · rw [y]; exact e
      · exact hbl j j1 (by omega)
    · refine hK _ _ ⟨k + 1, xx + m, by omega, by omega, by show ztE T n (zch T n k) ≤ xx + m; omega, fun j j1 j2 => ?_, by show k + 1 ≤ ztE T n (zch T n k); omega, fun j hj => ?_, fun j hj => ?_, a, by rw [h2]; exact s85, fun q hq => by rw [h1 q hq]; exact hf q hq⟩ (by omega)
      · have : ztE T n (zch T n k) ≤ j := j1
        omega
      · by_cases y : j = k
        · rw [y]; exact b
        · exact (hent j (by omega)).to (fun q q1 q2 => c q j q1 q2 y)
      · by_cases y : j = k
        · rw [y]; exact ⟨e, by omega⟩
        · exact hk4 j (by omega)
  refine ⟨by omega, fun y => ?_, fun y => ⟨s85, by omega, ?_⟩⟩
  · have hxe : xx = n := by omega
    subst hxe
    have hS : ztS T xx (zch T xx k) = xx := ztS_b hzx (Nat.le_refl _) hbl (fun a => by omega)
    have hK4 : ztK T xx (zch T xx k) = 4 := by unfold ztK; rw [hS, if_pos (Nat.le_refl _)]
    refine s_K_put s84 (by omega) (fun s' p1 p2 p3 p4 p5 p6 p7 => ⟨rfl, hX s' (k + 1) ⟨p6, by omega, fun j hj => ?_, fun j hj => (hk4 j (by omega)).1, by rw [Nat.add_sub_cancel]; exact hK4, fun j hj => ?_⟩ (fun q hq => by rw [p7.1 q hq]; exact hf q hq)⟩)
    · by_cases y : j = k
      · rw [y]
        refine ⟨by rw [p1, hK4], ?_, by rw [p3, hS], ?_⟩
        · rw [p2]; unfold ztV; rw [hK4, if_neg (by decide), if_neg (by decide), if_neg (by decide), if_neg (by decide)]
        · rw [p4]; unfold ztF; rw [hK4, if_neg (fun z => by have := z.1; omega), hS]
      · exact (hent j (by omega)).to (fun q q1 q2 => p5 q j q1 q2 y)
    · by_cases y : j = k
      · rw [y]; omega
      · exact (hk4 j (by omega)).2
  have hxlt : xx < n := by omega
  have hzn : zch T n k ≤ n := by omega
  rw [Int.toNat_natCast, hts.1 xx hxlt]
  -- a word or a number
  have word : ∀ (P : Int → Bool), ((P = zleB ∧ zleB (T xx) = true) ∨ (P = zdiB ∧ ¬ zleB (T xx) = true ∧ zdiB (T xx) = true)) → zLP2 (b_K_split_44 G (n : Int) X K) (xx : Int) 1 s := by
    intro P hP
    have hPx : P (T xx) = true := by rcases hP with ⟨rfl, a⟩ | ⟨rfl, -, a⟩ <;> exact a
    have hS : ztS T n (zch T n k) = xx := ztS_b hzx hxn hbl (fun _ z => by
      rcases hP with ⟨-, a⟩ | ⟨-, -, a⟩
      · have := zleB_t.mp a; omega
      · have := zdiB_t.mp a; omega)
    refine zLP2_ind (fun y0 y1 s' => s' = s ∧ y0 = (xx : Int) ∧ ∃ m : Nat, y1 = (m : Int) ∧ 0 < m ∧ xx + m ≤ n ∧ ∀ j, xx ≤ j → j < xx + m → P (T j) = true) (fun _ y1 _ => (4000 - y1).toNat) ?_ ⟨rfl, rfl, 1, rfl, by decide, by omega, fun j a b => by rw [show j = xx by omega]; exact hPx⟩
    rintro K2 y0 y1 s' ⟨rfl, rfl, m, rfl, hm, hmn, hall⟩ hK2
    have close : (xx + m < n → ¬ P (T (xx + m)) = true) → b_K_split_70 G (n : Int) X K (xx : Int) (m : Int) s' := fun hnot => by
      have hr : xx + m = zrE P T n xx := (zrE_u ⟨by omega, hmn⟩ hall hnot).symm
      have hE : ztE T n (zch T n k) = xx + m := by
        unfold ztE; rw [hS, if_neg (by omega)]
        rcases hP with ⟨rfl, a⟩ | ⟨rfl, a, b⟩
        · rw [if_pos a, hr]
        · rw [if_neg a, if_pos b, hr]
      refine s_K_addWordOrNumber (k := k) (p := zch T n k) hts s85 s84 (by omega) hzn hS hxlt (by
        rcases hP with ⟨rfl, a⟩ | ⟨rfl, a, b⟩
        · exact Or.inl ⟨a, hr⟩
        · exact Or.inr ⟨a, b, hr⟩) (fun s2 p1 p2 p3 p4 => ⟨rfl, ?_⟩)
      rintro x3 e3
      rw [e3]
      refine stepK m s2 hm p4.1 (p4.2 5 (by decide)) (Or.inr ⟨p3, p1, p2, hE, ?_, hmn⟩) X
      unfold ztK; rw [hS, if_neg (by omega)]
      rcases hP with ⟨-, a⟩ | ⟨-, a, b⟩
      · rw [if_pos a]; split
        · decide
        · split
          · decide
          · split <;> decide
      · rw [if_neg a, if_pos b]; split
        · decide
        · split <;> decide
    refine ⟨by omega, fun u => close (fun v => by omega), fun u => ?_⟩
    rw [show (xx : Int) + (m : Int) = ((xx + m : Nat) : Int) by omega]
    refine s_K_isLikeFirst (P := P) hts s85 hxlt (by omega) (by
      rcases hP with ⟨a, b⟩ | ⟨a, b, -⟩
      · exact Or.inl ⟨a, b⟩
      · exact Or.inr ⟨a, b⟩) (fun v => Or.inr ⟨rfl, hK2 _ _ _ ⟨rfl, rfl, m + 1, by omega, by omega, by omega, fun j a b => ?_⟩ (by omega)⟩) (fun v => Or.inl ⟨rfl, close (fun _ => v)⟩)
    by_cases w : j = xx + m
    · rw [w]; exact v
    · exact hall j a (by omega)
  refine s_K_isLetter (by omega) (fun u => Or.inr ⟨rfl, word zleB (Or.inl ⟨rfl, u⟩)⟩) (fun u => Or.inl ⟨rfl, s85, by omega, ?_⟩)
  rw [hts.1 xx hxlt]
  refine s_K_isDigit (by omega) (fun v => Or.inr ⟨rfl, word zdiB (Or.inr ⟨rfl, u, v⟩)⟩) (fun v => Or.inl ⟨rfl, s85, by omega, ?_⟩)
  have hsx := hts.1 xx hxlt
  rw [hsx]
  refine ⟨by omega, fun w => ?_, fun w => ⟨s85, by omega, by omega, fun w2 => ?_, fun w2 => ⟨s85, by omega, ?_⟩⟩⟩
  · rintro x3 e3
    rw [e3]
    exact stepK 1 s (by decide) (fun _ _ => rfl) rfl (Or.inl ⟨s84, fun _ _ _ _ => rfl, rfl, hxlt, Or.inl w⟩) X
  · rintro x3 e3
    rw [e3]
    exact stepK 1 s (by decide) (fun _ _ => rfl) rfl (Or.inl ⟨s84, fun _ _ _ _ => rfl, rfl, hxlt, Or.inr w2⟩) X
  · have hS : ztS T n (zch T n k) = xx := ztS_b hzx hxn hbl (fun _ z => z.elim w w2)
    have hK3 : ztK T n (zch T n k) = 3 := by unfold ztK; rw [hS, if_neg (by omega), if_neg u, if_neg v]
    refine s_K_put s84 (by omega) (fun s2 p1 p2 p3 p4 p5 p6 p7 => ⟨rfl, ?_⟩)
    rintro x3 e3
    rw [e3]
    refine stepK 1 s2 (by decide) p7.1 (p7.2 5 (by decide)) (Or.inr ⟨p6, ⟨by rw [p1, hK3], ?_, by rw [p3, hS], ?_⟩, p5, ?_, by rw [hK3]; decide, by omega⟩) X
    · rw [p2]; unfold ztV; rw [hK3, if_neg (by decide), if_neg (by decide), if_neg (by decide), if_pos rfl, hS]
    · rw [p4]; unfold ztF; rw [hK3, if_neg (fun z => by have := z.1; omega), hS]
    · unfold ztE; rw [hS, if_neg (by omega), if_neg u, if_neg v]
end KS
