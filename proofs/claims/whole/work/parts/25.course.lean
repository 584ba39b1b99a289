theorem s_JA_fill {G : zG} {σ : zPH} {X : zX} {q n : Nat} {v : Int} (hs : zsh G.2.2.2 q = .inr (0, n)) (hn : n < 2147483648) (hq : q < 93) (hX : ∀ σ', (∀ q', q' ≠ q → σ' q' = σ q') → (∀ k, k < n → σ' q k = v) → (∀ k, n ≤ k → σ' q k = σ q k) → X none σ') : MS G zm_JA_fill 0 [zr G q, iZ v] σ X := by
  refine k_JA_fill hs (by omega) hq ?_
  rintro x3 rfl
  refine zLP2_ind (fun x y σ1 => y = (n : Int) ∧ ∃ i : Nat, x = (i : Int) ∧ i ≤ n ∧ (∀ q', q' ≠ q → σ1 q' = σ q') ∧ (∀ k, k < i → σ1 q k = v) ∧ ∀ k, i ≤ k → σ1 q k = σ q k) (fun x _ _ => ((n : Int) - x).toNat) ?_ ⟨rfl, 0, rfl, by omega, fun _ _ => rfl, fun k hk => by omega, fun _ _ => rfl⟩
  rintro K x y σ1 ⟨rfl, i, rfl, hi, h1, h2, h3⟩ hK
  refine ⟨by omega, fun h => hX σ1 h1 (fun k hk => h2 k (by omega)) (fun k hk => h3 k (by omega)), fun h => ⟨by omega, ?_⟩⟩
  rintro σ2 e
  rw [Int.toNat_natCast] at e
  refine hK _ _ _ ⟨rfl, i + 1, by omega, by omega, fun q' hq' => by rw [e, zupd_row hq', h1 q' hq'], fun k hk => ?_, fun k hk => by rw [e, zupd_nk (by omega), h3 k (by omega)]⟩ (by omega)
  rw [e]
  rcases (show k < i ∨ k = i by omega) with q1 | rfl
  · rw [zupd_nk (by omega), h2 k q1]
  · rw [zupd_same]
/-! steps -/
def zOp (V : zPH) (see : Nat → Int) (st : Int) (m : Nat) : Prop := (V 6 m = -1 ∧ st / 2 ^ m % 2 = 1) ∨ (V 6 m ≠ -1 ∧ zHo V see m = true)
noncomputable def zSt (V : zPH) (see : Nat → Int) (st : Int) : Nat → Int
  | 0 => 0
  | m + 1 => zSt V see st m + 2 ^ m * zbI (zOp V see st m)
/-- the state a step later -/
noncomputable def zNx (V : zPH) (tu st : Int) : Int := zSt V (zSe V tu st 255 7) st (V 0 4).toNat
theorem zSt_b {V : zPH} {see : Nat → Int} {st : Int} (n : Nat) : (0 ≤ zSt V see st n ∧ zSt V see st n < 2 ^ n) ∧ ∀ i, zbt (zSt V see st n) i ↔ i < n ∧ zOp V see st i :=
  zsum_b (f := zSt V see st) (P := zOp V see st) rfl (fun n => ⟨fun h => by simp only [zSt]; rw [zbI_t h]; omega, fun h => by simp only [zSt]; rw [zbI_f h]; omega⟩) n
theorem zpow_le {k n : Nat} (h : k ≤ n) : (2 : Int) ^ k ≤ 2 ^ n := by
  rw [zpow_c, zpow_c]
  have := Nat.pow_le_pow_right (n := 2) (by decide) h
  omega
theorem zNx_r {V : zPH} (hV : zVd V) {tu st : Int} : 0 ≤ zNx V tu st ∧ zNx V tu st < 2 ^ (V 0 4).toNat ∧ (2 : Int) ^ (V 0 4).toNat ≤ 64 := by
  obtain ⟨⟨a, b⟩, -⟩ := zSt_b (V := V) (see := zSe V tu st 255 7) (st := st) (V 0 4).toNat
  have := hV.2.1
  have h := zpow_le (show (V 0 4).toNat ≤ 6 by omega)
  exact ⟨a, b, h⟩
theorem zadd_or {x : Int} {n : Nat} (hx : 0 ≤ x ∧ x < 2 ^ n) : zor x (2 ^ n) = x + 2 ^ n := by
  have h := zpow_nn n
  rw [zpow_c] at hx h ⊢
  have := Nat.two_pow_add_eq_or_of_lt (show x.toNat < 2 ^ n by omega) 1
  rw [Nat.mul_one] at this
  unfold zor
  rw [Int.toNat_natCast, Nat.or_comm, ← this]
  push_cast
  omega
set_option maxHeartbeats 4000000 in
theorem s_C_stepFrom {G : zG} {σ : zPH} {X : zX} {t : Nat} {V : zPH} (ht : zisT t) (hL : zLG σ 19) (hV : zVd V) (hVt : zVt V) (hT : zTV σ t V) {tu st : Int} (htu : 0 ≤ tu ∧ tu < 2147483648) (hst : 0 ≤ st ∧ st < 2147483648)
    (hX : ∀ σ', zLG σ' 19 → zFs σ σ' 19 → zLi σ' 19 V tu st 255 7 → X (some (iZ (zNx V tu st))) σ') : MS G zm_C_stepFrom 4 [zr G 14, zr G t, iZ tu, iZ st] σ X := by
  refine k_C_stepFrom ht ?_
  refine s_shine_v (Or.inl rfl) ht hL hV hT htu hst (by decide) (by decide) (fun σ1 g1 F1 li => ⟨rfl, ?_⟩)
  have tb : ∀ q, t ≤ q → q ≤ t + 12 → σ1 q = σ q := fun q h1 h2 => F1.tab (Or.inl rfl) ht h1 h2
  have hT1 := hT.to tb
  have hm6 := hV.2.1.2.2.2.2.2.1
  have hm0 := hV.2.1.2.2.2.2.1
  refine zLP2_ind (fun x4 x5 σ2 => σ2 = σ1 ∧ ∃ i : Nat, x5 = (i : Int) ∧ (i : Int) ≤ V 0 4 ∧ x4 = zSt V (zSe V tu st 255 7) st i) (fun _ x5 _ => (6 - x5).toNat) ?_ ⟨rfl, 0, rfl, hm0, rfl⟩
  rintro K x4 x5 σ2 ⟨rfl, i, rfl, hi, rfl⟩ hK
  have e8 : σ2 (t + 8) 2 = V 0 4 := hT1.2.1.2.2.2.2.1
  refine ⟨by rw [e8]; omega, fun h => ?_, fun h => ?_⟩
  · rw [e8] at h
    have hie : i = (V 0 4).toNat := by omega
    subst hie
    exact hX σ2 g1 F1 li
  · rw [e8] at h
    have sb := zSt_b (V := V) (see := zSe V tu st 255 7) (st := st) i
    have hp6 := zpow_le (show i ≤ 6 by omega)
    have h86 : ∀ s0 : Int, s0 = zbI (zOp V (zSe V tu st 255 7) st i) → b_C_stepFrom_86 G t tu st X K (zSt V (zSe V tu st 255 7) st i) (i : Int) s0 σ2 := by
      rintro s0 rfl
      have h01 := zbI_01 (zOp V (zSe V tu st 255 7) st i)
      refine ⟨by omega, fun h0 => ?_, fun h0 => ⟨by omega, ⟨sb.1.1, by rw [Int.one_mul]; exact zpow_nn _⟩, ?_⟩⟩
      · refine hK _ _ _ ⟨rfl, i + 1, by omega, by omega, ?_⟩ (by omega)
        simp only [zSt]; rw [h0]; omega
      · rintro y rfl
        refine hK _ _ _ ⟨rfl, i + 1, by omega, by omega, ?_⟩ (by omega)
        rw [Int.toNat_natCast, Int.one_mul, zadd_or sb.1]
        simp only [zSt]
        rw [show zbI (zOp V (zSe V tu st 255 7) st i) = 1 by omega]; omega
    refine s_T_squareOf ht hT1.1 (by decide) (by omega) ⟨_, rfl, ?_⟩
    rw [show (2 * 8 + (i : Int)).toNat = 16 + i by omega]
    have hz := hT1.1.2.2.1 (σ2 (t + 9) (16 + i)).toNat
    have haw : σ2 (t + 3) (σ2 (t + 9) (16 + i)).toNat = -1 ↔ V 6 i = -1 := by
      refine ⟨fun q => ?_, fun q => hT1.2.2.2.2.2.1.2.2 i h q⟩
      rcases hV.2.2.2.2.1 i h with q0 | ⟨q1, q2, q3, q4⟩
      · exact q0
      · exfalso
        have hm := (hT1.2.2.2.2.1 _ q2).2.2 q3
        rw [q4, Int.toNat_natCast] at hm
        rw [← hm, ((hT1.2.2.2.1 _ q2).2 (by omega)).2.2.2.2.2] at q
        omega
    refine ⟨by omega, fun hne => ?_, fun he => ?_⟩
    · have h6 : V 6 i ≠ -1 := fun q => hne (haw.mpr q)
      refine ⟨by decide, fun _ => ?_, fun q => absurd rfl q⟩
      refine s_T_holds ht hV hVt hT1 (see := zSe V tu st 255 7) (fun e he => ⟨li.2.2.1 e he, zSe_8⟩) h ?_
      refine ⟨_, by split <;> simp, rfl, h86 _ ?_⟩
      split
      · rename_i hh; exact (zbI_t (show zOp V (zSe V tu st 255 7) st i from Or.inr ⟨h6, hh⟩)).symm
      · rename_i hh; rw [zbI_f]; rintro (⟨q, -⟩ | ⟨-, q⟩)
        · exact h6 q
        · exact hh q
    · have h6 : V 6 i = -1 := haw.mp he
      refine ⟨by decide, fun q => absurd q (by decide), fun _ => ⟨by omega, by rw [Int.toNat_natCast]; omega, fun h1 => h86 _ ?_, fun h1 => h86 _ ?_⟩⟩
      · rw [Int.toNat_natCast] at h1
        rw [zbI_f]; rintro (⟨-, q⟩ | ⟨q, -⟩)
        · exact h1 q
        · exact q h6
      · rw [Int.toNat_natCast] at h1
        exact (zbI_t (show zOp V (zSe V tu st 255 7) st i from Or.inl ⟨h6, h1⟩)).symm
/-- from state to state -/
noncomputable def zOr (V : zPH) (tu st : Int) : Nat → Int
  | 0 => st
  | k + 1 => zNx V tu (zOr V tu st k)
theorem zOr_r {V : zPH} (hV : zVd V) {tu st : Int} (hst : 0 ≤ st ∧ st < 2 ^ (V 0 4).toNat) (k : Nat) : 0 ≤ zOr V tu st k ∧ zOr V tu st k < 2 ^ (V 0 4).toNat ∧ zOr V tu st k < 64 := by
  have h64 := (zNx_r hV (tu := tu) (st := st)).2.2
  cases k with
  | zero => simp only [zOr]; omega
  | succ k => simp only [zOr]; have := zNx_r hV (tu := tu) (st := zOr V tu st k); omega
theorem zpig : ∀ (n N : Nat) (f : Nat → Int), (∀ i, i < N → 0 ≤ f i ∧ f i < (n : Int)) → (∀ i j, i < j → j < N → f i ≠ f j) → N ≤ n := by
  intro n
  induction n with
  | zero =>
    intro N f h _
    rcases Nat.eq_zero_or_pos N with q | q
    · omega
    · have := h 0 q; omega
  | succ n ih =>
    intro N f h hj
    by_cases hq : ∃ i, i < N ∧ f i = (n : Int)
    · obtain ⟨i0, h0, h1⟩ := hq
      have := ih (N - 1) (fun j => if j < i0 then f j else f (j + 1)) (fun j hj' => by
        show 0 ≤ (if j < i0 then f j else f (j + 1)) ∧ (if j < i0 then f j else f (j + 1)) < (n : Int)
        split
        · have a := h j (by omega); have b := hj j i0 (by omega) h0; omega
        · have a := h (j + 1) (by omega); have b := hj i0 (j + 1) (by omega) (by omega); omega) (fun i j hij hjN => by
        show (if i < i0 then f i else f (i + 1)) ≠ (if j < i0 then f j else f (j + 1))
        split <;> split
        · exact hj i j hij (by omega)
        · exact hj i (j + 1) (by omega) (by omega)
        · omega
        · exact hj (i + 1) (j + 1) (by omega) (by omega))
      omega
    · have := ih N f (fun i hi => by
        have a := h i hi
        have b : f i ≠ (n : Int) := fun q => hq ⟨i, hi, q⟩
        omega) hj
      omega
/-- A steps ahead of the round, which comes back after N -/
def zQr (V : zPH) (tu st : Int) (A N : Nat) : Prop := A < N ∧ zOr V tu st N = zOr V tu st A ∧ ∀ i j, i < j → j < N → zOr V tu st i ≠ zOr V tu st j
theorem zQr_u {V : zPH} {tu st : Int} {A N A' N' : Nat} (h : zQr V tu st A N) (h' : zQr V tu st A' N') : A = A' ∧ N = N' := by
  obtain ⟨a, b, c⟩ := h
  obtain ⟨a', b', c'⟩ := h'
  have hN : N = N' := by
    rcases Nat.lt_trichotomy N N' with q | q | q
    · exact absurd b.symm (c' A N a q)
    · exact q
    · exact absurd b'.symm (c A' N' a' q)
  subst hN
  refine ⟨?_, rfl⟩
  rcases Nat.lt_trichotomy A A' with q | q | q
  · exact absurd (b.symm.trans b') (c A A' q a')
  · exact q
  · exact absurd (b'.symm.trans b) (c A' A q a)
noncomputable def zLd (V : zPH) (tu st : Int) : Nat × Nat := @Classical.epsilon (Nat × Nat) ⟨(0, 0)⟩ (fun p => zQr V tu st p.1 p.2)
theorem zLd_of {V : zPH} {tu st : Int} {A N : Nat} (h : zQr V tu st A N) : (zLd V tu st).1 = A ∧ (zLd V tu st).2 = N :=
  zQr_u (@Classical.epsilon_spec (Nat × Nat) (fun p => zQr V tu st p.1 p.2) ⟨(A, N), h⟩) h
/-- the eyes lit in the end, -1 without an end -/
noncomputable def zEd (V : zPH) (tu st : Int) : Int := if (zLd V tu st).2 = (zLd V tu st).1 + 1 then zEy V tu (zOr V tu st (zLd V tu st).1) 255 7 else -1
theorem zOr_cyc {V : zPH} {tu st : Int} {i j : Nat} (hj : j < i) (h : zOr V tu st i = zOr V tu st j) : ∀ k, ∃ l, l < i ∧ zOr V tu st k = zOr V tu st l := by
  intro k
  induction k with
  | zero => exact ⟨0, by omega, rfl⟩
  | succ k ih =>
    obtain ⟨l, l1, l2⟩ := ih
    by_cases q : l + 1 < i
    · exact ⟨l + 1, q, by simp only [zOr]; rw [l2]⟩
    · refine ⟨j, hj, ?_⟩
      rw [← h, show i = l + 1 by omega]
      simp only [zOr]; rw [l2]
theorem zsx_bit {x : Int} {s : Nat} (hs : s < 64) : zsx x / 2 ^ s % 2 = x / 2 ^ s % 2 := by
  have h1 : ∃ c : Int, zsx x = x + 2 ^ 64 * c := by
    obtain ⟨c, hc⟩ := Int.dvd_bmod_sub_self (x := x) (m := Int64.size)
    refine ⟨c, ?_⟩
    unfold zsx
    rw [Int64.toInt_ofInt]
    rw [show ((Int64.size : Nat) : Int) = 2 ^ 64 from rfl] at hc
    omega
  obtain ⟨c, hc⟩ := h1
  have e : (2 : Int) ^ 64 = 2 ^ s * (2 * 2 ^ (63 - s)) := by
    rw [← Int.mul_assoc, Int.mul_comm (2 ^ s) 2, Int.mul_assoc, ← Int.pow_add, show s + (63 - s) = 63 by omega]
    rfl
  have h0 : (2 : Int) ^ s ≠ 0 := by have : (0 : Int) < 2 ^ s := Int.pow_pos (by decide); omega
  rw [hc, e, Int.mul_assoc, Int.add_mul_ediv_left _ _ h0, Int.mul_assoc]
  omega
