/-! A board as both sides see it: row 0 numbers (columns, rows, lamps, mirrors, movers, eyes, pieces), 1 sorts of the squares (12 a row), 2 numbers, 3 forms or colours, 4 ways, 5, 6, 12 squares of the eyes, movers, lamps (-1: taken away), 7 and 8 from where and to where tests go, 9, 10, 11 their parts -/
def zva (V : zPH) (q : Nat) : Prop := ((q % 12 : Nat) : Int) < V 0 0 ∧ ((q / 12 : Nat) : Int) < V 0 1
def zP (V : zPH) (q : Nat) : Nat := q / 12 * (V 0 0).toNat + q % 12
def zE (V : zPH) (m : Nat) : Nat := 4 * zP V (m / 4) + m % 4
/-- the node by which light comes in that goes on from square q by way w -/
def zN (V : zPH) (q w : Nat) : Int := if w = 0 then (if 0 < q / 12 then 4 * ((q : Int) - 12) else -1) else if w = 1 then (if ((q % 12 + 1 : Nat) : Int) < V 0 0 then 4 * ((q : Int) + 1) + 1 else -1) else if w = 2 then (if ((q / 12 + 1 : Nat) : Int) < V 0 1 then 4 * ((q : Int) + 12) + 2 else -1) else (if 0 < q % 12 then 4 * ((q : Int) - 1) + 3 else -1)
def zFm (V : zPH) (tu st : Int) (q : Nat) : Int := if V 1 q = 0 then 0 else zlkv (V 1 q) (V 2 q) (V 3 q) tu st
def zvS (V : zPH) (tu st : Int) (b n m : Nat) : Prop := ∃ w' : Nat, zOut (V 1 (n / 4)) (zFm V tu st (n / 4)) b (n % 4) w' ∧ zN V (n / 4) w' = (m : Int)
def zvL (V : zPH) (lamps cols : Int) (b m : Nat) : Prop := ∃ q : Nat, zva V q ∧ V 1 q = 1 ∧ lamps / 2 ^ (V 2 q).toNat % 2 = 1 ∧ zbt (V 3 q) b ∧ zbt cols b ∧ zN V q (V 4 q).toNat = (m : Int)
/-- a board that can be -/
def zVd (V : zPH) : Prop := (0 ≤ V 0 0 ∧ V 0 0 ≤ 12 ∧ 0 ≤ V 0 1 ∧ V 0 1 ≤ 12) ∧ (0 ≤ V 0 2 ∧ V 0 2 ≤ 8 ∧ 0 ≤ V 0 3 ∧ V 0 3 ≤ 8 ∧ 0 ≤ V 0 4 ∧ V 0 4 ≤ 6 ∧ 0 ≤ V 0 5 ∧ V 0 5 ≤ 8) ∧
  (∀ q, zva V q → (0 ≤ V 1 q ∧ V 1 q ≤ 9) ∧ (V 1 q = 1 → (0 ≤ V 2 q ∧ V 2 q < V 0 2) ∧ (0 ≤ V 3 q ∧ V 3 q < 8) ∧ (0 ≤ V 4 q ∧ V 4 q < 4) ∧ V 12 (V 2 q).toNat = (q : Int)) ∧ (V 1 q = 2 ∨ V 1 q = 3 → (-1 ≤ V 2 q ∧ V 2 q < V 0 3) ∧ (V 3 q = 0 ∨ V 3 q = 1)) ∧ (V 1 q = 4 → (0 ≤ V 3 q ∧ V 3 q < 8) ∧ V 2 q = -1) ∧ (V 1 q = 5 ∨ V 1 q = 6 → V 3 q = -1 ∧ V 2 q = -1) ∧ (V 1 q = 7 → (0 ≤ V 2 q ∧ V 2 q < V 0 5) ∧ V 3 q = -1 ∧ V 5 (V 2 q).toNat = (q : Int)) ∧ (V 1 q = 8 ∨ V 1 q = 9 → (0 ≤ V 2 q ∧ V 2 q < V 0 4) ∧ (V 3 q = 0 ∨ V 3 q = 1) ∧ V 6 (V 2 q).toNat = (q : Int)) ∧ (V 1 q = 8 → V 3 q = 0)) ∧
  (∀ e : Nat, (e : Int) < V 0 5 → V 5 e = -1 ∨ (0 ≤ V 5 e ∧ zva V (V 5 e).toNat ∧ V 1 (V 5 e).toNat = 7 ∧ V 2 (V 5 e).toNat = (e : Int))) ∧
  (∀ e : Nat, (e : Int) < V 0 4 → V 6 e = -1 ∨ (0 ≤ V 6 e ∧ zva V (V 6 e).toNat ∧ (V 1 (V 6 e).toNat = 8 ∨ V 1 (V 6 e).toNat = 9) ∧ V 2 (V 6 e).toNat = (e : Int))) ∧
  (∀ e : Nat, (e : Int) < V 0 2 → V 12 e = -1 ∨ (0 ≤ V 12 e ∧ zva V (V 12 e).toNat ∧ V 1 (V 12 e).toNat = 1 ∧ V 2 (V 12 e).toNat = (e : Int)))
theorem zP_dm {V : zPH} {q : Nat} (hq : zva V q) : zP V q / (V 0 0).toNat = q / 12 ∧ zP V q % (V 0 0).toNat = q % 12 := by
  have h1 := hq.1
  have hc : q % 12 < (V 0 0).toNat := by omega
  unfold zP
  constructor
  · rw [Nat.mul_comm, Nat.mul_add_div (by omega), Nat.div_eq_of_lt hc]; rfl
  · rw [Nat.mul_comm, Nat.mul_add_mod, Nat.mod_eq_of_lt hc]
theorem zP_inj {V : zPH} {q q' : Nat} (hq : zva V q) (hq' : zva V q') (h : zP V q = zP V q') : q = q' := by
  obtain ⟨a, b⟩ := zP_dm hq
  obtain ⟨a', b'⟩ := zP_dm hq'
  rw [h] at a b
  have e1 : q / 12 = q' / 12 := by rw [← a, ← a']
  have e2 : q % 12 = q' % 12 := by rw [← b, ← b']
  omega
theorem zP_lt {V : zPH} (h : zVd V) {q : Nat} (hq : zva V q) : (zP V q : Int) < V 0 0 * V 0 1 ∧ zP V q < 144 := by
  obtain ⟨h1, h2⟩ := hq
  obtain ⟨⟨a, b, c, d⟩, -⟩ := h
  obtain ⟨x, hx⟩ := Int.eq_ofNat_of_zero_le a
  obtain ⟨y, hy⟩ := Int.eq_ofNat_of_zero_le c
  unfold zP
  rw [hx] at h1 a b
  rw [hy] at h2 c d
  rw [hx, hy]
  have e1 : q / 12 + 1 ≤ y := by omega
  have e2 : q % 12 < x := by omega
  have e3 : (q / 12 + 1) * x ≤ y * x := Nat.mul_le_mul_right x e1
  have e4 : y * x ≤ 12 * 12 := Nat.mul_le_mul (by omega) (by omega)
  rw [Nat.add_mul, Nat.one_mul] at e3
  rw [Int.toNat_natCast]
  have e5 : ((x : Int) * (y : Int)) = ((y * x : Nat) : Int) := by rw [Nat.mul_comm y x]; push_cast; rfl
  rw [e5]
  generalize q / 12 * x = u at *
  generalize y * x = v at *
  omega
theorem zE_inj {V : zPH} {m m' : Nat} (h : zva V (m / 4)) (h' : zva V (m' / 4)) (e : zE V m = zE V m') : m = m' := by
  unfold zE at e
  have e1 : zP V (m / 4) = zP V (m' / 4) := by omega
  have := zP_inj h h' e1
  omega
theorem zN_va {V : zPH} {q w m : Nat} (hV : zVd V) (hw : w < 4) (hq : zva V q) (h : zN V q w = (m : Int)) : zva V (m / 4) ∧ m % 4 = w := by
  unfold zva at *
  rcases (show w = 0 ∨ w = 1 ∨ w = 2 ∨ w = 3 by omega) with rfl | rfl | rfl | rfl
  · rw [zN, if_pos rfl] at h
    split at h
    · have : m / 4 = q - 12 := by omega
      rw [this]
      omega
    · omega
  · rw [zN, if_neg (by decide), if_pos rfl] at h
    split at h
    · have : m / 4 = q + 1 := by omega
      rw [this]
      have := hV.1.2.1
      omega
    · omega
  · rw [zN, if_neg (by decide), if_neg (by decide), if_pos rfl] at h
    split at h
    · have : m / 4 = q + 12 := by omega
      rw [this]
      omega
    · omega
  · rw [zN, if_neg (by decide), if_neg (by decide), if_neg (by decide)] at h
    split at h
    · have : m / 4 = q - 1 := by omega
      rw [this]
      omega
    · omega
theorem zOut_lt {so lk : Int} {b w w' : Nat} (hw : w < 4) (h : zOut so lk b w w') : w' < 4 := by
  rcases h with ⟨-, rfl⟩ | ⟨-, rfl⟩ | ⟨-, -, rfl⟩ | ⟨-, -, rfl⟩
  · exact hw
  · exact zmw_lt hw
  · omega
  · omega
def zTd (σ : zPH) (t : Nat) (V : zPH) : Prop := σ t 0 = V 0 0 ∧ σ t 1 = V 0 1 ∧ σ (t + 8) 0 = V 0 2 ∧ σ (t + 8) 1 = V 0 3 ∧ σ (t + 8) 2 = V 0 4 ∧ σ (t + 8) 3 = V 0 5 ∧ σ t 4 = V 0 6
def zTn (σ : zPH) (t : Nat) (V : zPH) : Prop := ∀ q w : Nat, zva V q → w < 4 → (zN V q w = -1 → σ (t + 1) (4 * zP V q + w) = -1) ∧ ∀ m : Nat, zN V q w = (m : Int) → σ (t + 1) (4 * zP V q + w) = (zE V m : Int)
def zTq (σ : zPH) (t : Nat) (V : zPH) : Prop := ∀ q : Nat, zva V q → (V 1 q = 0 → σ (t + 2) (zP V q) = -1) ∧ (V 1 q ≠ 0 → σ (t + 2) (zP V q) ≠ -1 ∧ σ (t + 4) (σ (t + 2) (zP V q)).toNat = V 1 q ∧ σ (t + 5) (σ (t + 2) (zP V q)).toNat = V 2 q ∧ σ (t + 6) (σ (t + 2) (zP V q)).toNat = V 3 q ∧ (V 1 q = 1 → σ (t + 7) (σ (t + 2) (zP V q)).toNat = V 4 q) ∧ σ (t + 3) (σ (t + 2) (zP V q)).toNat = (zP V q : Int))
/-- pieces by their groups -/
def zTm (σ : zPH) (t : Nat) (V : zPH) : Prop := ∀ q : Nat, zva V q → (V 1 q = 1 → σ (t + 2) (zP V q) = σ (t + 9) (V 2 q).toNat) ∧ (V 1 q = 7 → σ (t + 2) (zP V q) = σ (t + 9) (24 + (V 2 q).toNat)) ∧ (V 1 q = 8 ∨ V 1 q = 9 → σ (t + 2) (zP V q) = σ (t + 9) (16 + (V 2 q).toNat))
/-- pieces taken away -/
def zTw (σ : zPH) (t : Nat) (V : zPH) : Prop := (∀ l : Nat, (l : Int) < V 0 2 → V 12 l = -1 → σ (t + 3) (σ (t + 9) l).toNat = -1) ∧ (∀ l : Nat, (l : Int) < V 0 5 → V 5 l = -1 → σ (t + 3) (σ (t + 9) (24 + l)).toNat = -1) ∧ (∀ l : Nat, (l : Int) < V 0 4 → V 6 l = -1 → σ (t + 3) (σ (t + 9) (16 + l)).toNat = -1)
def zpt (V : zPH) (k : Nat) : Int := if V 9 k = 0 then 25 else if V 9 k = 1 then 1664 + 8 * V 11 k + V 10 k else if V 9 k = 2 then 23 else if V 9 k = 3 then 22 else 24
def zTc (σ : zPH) (t : Nat) (V : zPH) : Prop := ∀ m : Nat, (m : Int) < V 0 4 → σ (t + 12) m = V 8 m ∧ V 7 m = (if m = 0 then 0 else V 8 (m - 1)) ∧ ∀ k : Nat, V 7 m ≤ (k : Int) → (k : Int) < V 8 m → σ (t + 11) k = zpt V k
/-- the class's table at t is the board V -/
def zTV (σ : zPH) (t : Nat) (V : zPH) : Prop := zTs σ t ∧ zTd σ t V ∧ zTn σ t V ∧ zTq σ t V ∧ zTm σ t V ∧ zTw σ t V ∧ zTc σ t V
theorem zTV.to {σ σ' : zPH} {t : Nat} {V : zPH} (h : zTV σ t V) (hr : ∀ q, t ≤ q → q ≤ t + 12 → σ' q = σ q) : zTV σ' t V := by
  obtain ⟨h1, h2⟩ := h
  refine ⟨h1.to hr, ?_⟩
  unfold zTd zTn zTq zTm zTw zTc at *
  rw [hr t (by omega) (by omega), hr (t + 1) (by omega) (by omega), hr (t + 2) (by omega) (by omega), hr (t + 3) (by omega) (by omega), hr (t + 4) (by omega) (by omega), hr (t + 5) (by omega) (by omega), hr (t + 6) (by omega) (by omega), hr (t + 7) (by omega) (by omega), hr (t + 8) (by omega) (by omega), hr (t + 9) (by omega) (by omega), hr (t + 11) (by omega) (by omega), hr (t + 12) (by omega) (by omega)]
  exact h2
theorem zSo_v {σ : zPH} {t : Nat} {V : zPH} (h : zTV σ t V) {q : Nat} (hq : zva V q) : zSo σ t (zP V q) = V 1 q := by
  obtain ⟨h1, h2⟩ := h.2.2.2.1 q hq
  unfold zSo
  by_cases h0 : V 1 q = 0
  · rw [if_pos (h1 h0), h0]
  · obtain ⟨a, b, -⟩ := h2 h0
    rw [if_neg a, b, if_neg h0]
theorem zSl_v {σ : zPH} {t : Nat} {V : zPH} (h : zTV σ t V) {q : Nat} (hq : zva V q) {tu st : Int} : zSl σ t (zP V q) tu st = zFm V tu st q := by
  obtain ⟨h1, h2⟩ := h.2.2.2.1 q hq
  unfold zSl zFm
  by_cases h0 : V 1 q = 0
  · rw [if_pos (h1 h0), if_pos h0]
  · obtain ⟨a, b, c, d, -⟩ := h2 h0
    rw [if_neg a, if_neg h0, zlk, b, c, d]
theorem zvS_va {V : zPH} {tu st : Int} {b n m : Nat} (hV : zVd V) (hn : zva V (n / 4)) (h : zvS V tu st b n m) : zva V (m / 4) := by
  obtain ⟨w', h1, h2⟩ := h
  exact (zN_va hV (zOut_lt (by omega) h1) hn h2).1
theorem zN_nn {V : zPH} {q w : Nat} (h : zN V q w ≠ -1) : 0 ≤ zN V q w := by
  unfold zN at h ⊢
  (repeat' split at h) <;> (repeat' split) <;> omega
theorem zcS_v {σ : zPH} {t : Nat} {V : zPH} (h : zTV σ t V) {tu st : Int} {b m : Nat} (hm : zva V (m / 4)) (n : Nat) : zcS σ t tu st b (zE V m) n ↔ ∃ m', zvS V tu st b m m' ∧ n = zE V m' := by
  have e1 : zE V m / 4 = zP V (m / 4) := by unfold zE; omega
  have e2 : zE V m % 4 = m % 4 := by unfold zE; omega
  have hN := fun w (hw : w < 4) => h.2.2.1 (m / 4) w hm hw
  unfold zcS zvS
  rw [e1, e2, zSo_v h hm, zSl_v h hm]
  constructor
  · rintro ⟨w', h1, h2⟩
    have hw' := zOut_lt (by omega) h1
    obtain ⟨n1, n2⟩ := hN w' hw'
    by_cases h3 : zN V (m / 4) w' = -1
    · rw [n1 h3] at h2; omega
    · obtain ⟨m', hm'⟩ := Int.eq_ofNat_of_zero_le (zN_nn h3)
      refine ⟨m', ⟨w', h1, hm'⟩, ?_⟩
      rw [n2 m' hm'] at h2; omega
  · rintro ⟨m', ⟨w', h1, h2⟩, rfl⟩
    exact ⟨w', h1, (hN w' (zOut_lt (by omega) h1)).2 m' h2⟩
theorem zcL_v {σ : zPH} {t : Nat} {V : zPH} (hV : zVd V) (h : zTV σ t V) {lamps cols : Int} {b : Nat} (n : Nat) : zcL σ t lamps cols b n ↔ ∃ m, zva V (m / 4) ∧ zvL V lamps cols b m ∧ n = zE V m := by
  obtain ⟨hs, hd, hn, hq, hm, hw, -⟩ := h
  have key : ∀ q, zva V q → V 1 q = 1 → σ (t + 3) (σ (t + 9) (V 2 q).toNat).toNat = (zP V q : Int) ∧ σ (t + 6) (σ (t + 9) (V 2 q).toNat).toNat = V 3 q ∧ ∀ x : Int, σ (t + 1) (σ (t + 3) (σ (t + 9) (V 2 q).toNat).toNat * 4 + σ (t + 7) (σ (t + 9) (V 2 q).toNat).toNat).toNat = x ↔ σ (t + 1) (4 * zP V q + (V 4 q).toNat) = x := fun q h1 h2 => by
    have l1 := (hm q h1).1 h2
    obtain ⟨-, q2⟩ := hq q h1
    obtain ⟨a1, a2, a3, a4, a5, a6⟩ := q2 (by omega)
    have h5 := a5 h2
    rw [l1] at h5 a4 a6
    have := ((hV.2.2.1 q h1).2.1 h2).2.2.1
    refine ⟨a6, a4, fun x => ?_⟩
    rw [a6, h5, show ((zP V q : Int) * 4 + V 4 q).toNat = 4 * zP V q + (V 4 q).toNat by omega]
  constructor
  · rintro ⟨l, h1, h2, h3, h4, h5, h6⟩
    rw [hd.2.2.1] at h1
    rcases hV.2.2.2.2.2 l h1 with h7 | ⟨q0, q1, q2, q3⟩
    · exact absurd (hw.1 l h1 h7) h3
    · generalize (V 12 l).toNat = q at *
      have hl' : l = (V 2 q).toNat := by omega
      subst hl'
      obtain ⟨k1, k2, k3⟩ := key q q1 q2
      rw [k2] at h4
      rw [k3] at h6
      have hw := ((hV.2.2.1 q q1).2.1 q2).2.2.1
      obtain ⟨n1, n2⟩ := hn q (V 4 q).toNat q1 (by omega)
      by_cases h8 : zN V q (V 4 q).toNat = -1
      · rw [n1 h8] at h6; omega
      · obtain ⟨m, hm⟩ := Int.eq_ofNat_of_zero_le (zN_nn h8)
        rw [n2 m hm] at h6
        exact ⟨m, (zN_va hV (by omega) q1 hm).1, ⟨q, q1, q2, h2, h4, h5, hm⟩, by omega⟩
  · rintro ⟨m, hm, ⟨q, q1, q2, q3, q4, q5, q6⟩, rfl⟩
    have hr := ((hV.2.2.1 q q1).2.1 q2)
    obtain ⟨k1, k2, k3⟩ := key q q1 q2
    refine ⟨(V 2 q).toNat, by rw [hd.2.2.1]; omega, q3, by rw [k1]; omega, by rw [k2]; exact q4, q5, ?_⟩
    rw [k3]
    exact (hn q (V 4 q).toNat q1 (by omega)).2 m q6
/-- both closures are one -/
theorem zRk_iso {Sc Sv : Nat → Prop} {sc sv : Nat → Nat → Prop} {E : Nat → Nat} {va : Nat → Prop} (hS : ∀ n, Sc n ↔ ∃ m, va m ∧ Sv m ∧ n = E m) (hs : ∀ m, va m → ∀ n, sc (E m) n ↔ ∃ m', sv m m' ∧ n = E m') (hv : ∀ m m', va m → sv m m' → va m') (hSv : ∀ m, Sv m → va m) : ∀ (k n : Nat), zRk Sc sc k n ↔ ∃ m, va m ∧ zRk Sv sv k m ∧ n = E m := by
  have hva : ∀ k m, zRk Sv sv k m → va m := by
    intro k
    induction k with
    | zero => exact hSv
    | succ k ih =>
      rintro m (h | ⟨m', h1, h2⟩)
      · exact ih m h
      · exact hv m' m (ih m' h1) h2
  intro k
  induction k with
  | zero => exact hS
  | succ k ih =>
    intro n
    constructor
    · rintro (h | ⟨n', h, h2⟩)
      · obtain ⟨m, m1, m2, m3⟩ := (ih n).mp h
        exact ⟨m, m1, Or.inl m2, m3⟩
      · obtain ⟨m, m1, m2, rfl⟩ := (ih n').mp h
        obtain ⟨m', m3, m4⟩ := (hs m m1 n).mp h2
        exact ⟨m', hv m m' m1 m3, Or.inr ⟨m, m2, m3⟩, m4⟩
    · rintro ⟨m, m1, (m2 | ⟨m', m2, m3⟩), rfl⟩
      · exact Or.inl ((ih _).mpr ⟨m, m1, m2, rfl⟩)
      · exact Or.inr ⟨E m', (ih _).mpr ⟨m', hva k m' m2, m2, rfl⟩, (hs m' (hva k m' m2) _).mpr ⟨m, m3, rfl⟩⟩
theorem zvL_va {V : zPH} (hV : zVd V) {lamps cols : Int} {b m : Nat} (h : zvL V lamps cols b m) : zva V (m / 4) := by
  obtain ⟨q, q1, q2, q3, q4, q5, q6⟩ := h
  have := ((hV.2.2.1 q q1).2.1 q2).2.2.1
  exact (zN_va hV (by omega) q1 q6).1
theorem zcR_v {σ : zPH} {t : Nat} {V : zPH} (hV : zVd V) (h : zTV σ t V) {lamps cols tu st : Int} {b : Nat} (k m : Nat) (hm : zva V (m / 4)) : zRk (zcL σ t lamps cols b) (zcS σ t tu st b) k (zE V m) ↔ zRk (zvL V lamps cols b) (zvS V tu st b) k m := by
  rw [zRk_iso (va := fun m => zva V (m / 4)) (Sv := zvL V lamps cols b) (sv := zvS V tu st b) (fun n => zcL_v hV h n) (fun m hm n => zcS_v h hm n) (fun m m' h1 h2 => zvS_va hV h1 h2) (fun m hm => zvL_va hV hm)]
  constructor
  · rintro ⟨m', m1, m2, m3⟩
    rw [zE_inj hm m1 m3]; exact m2
  · intro h2
    exact ⟨m, hm, h2, rfl⟩
theorem zcR_va {σ : zPH} {t : Nat} {V : zPH} (hV : zVd V) (h : zTV σ t V) {lamps cols tu st : Int} {b k n : Nat} (hn : zRk (zcL σ t lamps cols b) (zcS σ t tu st b) k n) : ∃ m, zva V (m / 4) ∧ n = zE V m := by
  rw [zRk_iso (va := fun m => zva V (m / 4)) (Sv := zvL V lamps cols b) (sv := zvS V tu st b) (fun n => zcL_v hV h n) (fun m hm n => zcS_v h hm n) (fun m m' h1 h2 => zvS_va hV h1 h2) (fun m hm => zvL_va hV hm)] at hn
  obtain ⟨m, m1, -, m3⟩ := hn
  exact ⟨m, m1, m3⟩
/-- 1 or 0 -/
noncomputable def zbI (p : Prop) : Int := @ite Int p (Classical.propDecidable p) 1 0
theorem zbI_t {p : Prop} (h : p) : zbI p = 1 := if_pos h
theorem zbI_f {p : Prop} (h : ¬ p) : zbI p = 0 := if_neg h
theorem zbI_01 (p : Prop) : zbI p = 0 ∨ zbI p = 1 := by
  by_cases h : p
  · exact Or.inr (zbI_t h)
  · exact Or.inl (zbI_f h)
theorem zbI_iff {p : Prop} : zbI p = 1 ↔ p := by
  by_cases h : p
  · rw [zbI_t h]; simp [h]
  · rw [zbI_f h]; simp [h]
/-- colours that come to a node -/
noncomputable def zLv (V : zPH) (tu st la co : Int) (m : Nat) : Int := zbI (zRe (zvL V la co 0) (zvS V tu st 0) m) + 2 * zbI (zRe (zvL V la co 1) (zvS V tu st 1) m) + 4 * zbI (zRe (zvL V la co 2) (zvS V tu st 2) m)
theorem zLv_8 {V : zPH} {tu st la co : Int} {m : Nat} : 0 ≤ zLv V tu st la co m ∧ zLv V tu st la co m < 8 := by
  unfold zLv
  have h0 := zbI_01 (zRe (zvL V la co 0) (zvS V tu st 0) m)
  have h1 := zbI_01 (zRe (zvL V la co 1) (zvS V tu st 1) m)
  have h2 := zbI_01 (zRe (zvL V la co 2) (zvS V tu st 2) m)
  omega
theorem zLv_bt {V : zPH} {tu st la co : Int} {m b : Nat} : zbt (zLv V tu st la co m) b ↔ b < 3 ∧ zRe (zvL V la co b) (zvS V tu st b) m := by
  have h8 := zLv_8 (V := V) (tu := tu) (st := st) (la := la) (co := co) (m := m)
  have h0 := zbI_01 (zRe (zvL V la co 0) (zvS V tu st 0) m)
  have h1 := zbI_01 (zRe (zvL V la co 1) (zvS V tu st 1) m)
  have h2 := zbI_01 (zRe (zvL V la co 2) (zvS V tu st 2) m)
  constructor
  · intro h
    have hb := zbt_lt8 h8.2 h
    refine ⟨hb, ?_⟩
    rw [zbt_div h8.1] at h
    refine zbI_iff.mp ?_
    unfold zLv at h
    rcases (show b = 0 ∨ b = 1 ∨ b = 2 by omega) with rfl | rfl | rfl
    · rw [show (2 : Int) ^ 0 = 1 from rfl] at h; omega
    · rw [show (2 : Int) ^ 1 = 2 from rfl] at h; omega
    · rw [show (2 : Int) ^ 2 = 4 from rfl] at h; omega
  · rintro ⟨hb, h⟩
    rw [zbt_div h8.1]
    have h := zbI_iff.mpr h
    unfold zLv
    rcases (show b = 0 ∨ b = 1 ∨ b = 2 by omega) with rfl | rfl | rfl
    · rw [show (2 : Int) ^ 0 = 1 from rfl]; omega
    · rw [show (2 : Int) ^ 1 = 2 from rfl]; omega
    · rw [show (2 : Int) ^ 2 = 4 from rfl]; omega
/-- a number that is so in each bit is it -/
theorem zLv_of {V : zPH} {tu st la co x : Int} {m : Nat} (hx : 0 ≤ x ∧ x < 8) (h : ∀ b, zbt x b ↔ zRe (zvL V la co b) (zvS V tu st b) m) : x = zLv V tu st la co m :=
  zbt_ext hx.1 zLv_8.1 fun b => by
    rw [zLv_bt, ← h]
    exact ⟨fun q => ⟨zbt_lt8 hx.2 q, q⟩, fun q => q.2⟩
/-- colours that come to a square; to an eye -/
noncomputable def zSq (V : zPH) (tu st la co : Int) (q : Nat) : Int := zor (zor (zor (zLv V tu st la co (4 * q)) (zLv V tu st la co (4 * q + 1))) (zLv V tu st la co (4 * q + 2))) (zLv V tu st la co (4 * q + 3))
noncomputable def zSe (V : zPH) (tu st la co : Int) (e : Nat) : Int := if V 5 e = -1 then 0 else zSq V tu st la co (V 5 e).toNat
noncomputable def zEn (V : zPH) (tu st la co : Int) : Nat → Int
  | 0 => 0
  | e + 1 => zEn V tu st la co e + (if zSe V tu st la co e = 0 then 0 else 2 ^ e)
/-- eyes that are lit -/
noncomputable def zEy (V : zPH) (tu st la co : Int) : Int := zEn V tu st la co (V 0 5).toNat
theorem zSq_8 {V : zPH} {tu st la co : Int} {q : Nat} : 0 ≤ zSq V tu st la co q ∧ zSq V tu st la co q < 8 :=
  ⟨zor_nn _ _, zor_lt 3 (zor_lt 3 (zor_lt 3 zLv_8.2 zLv_8.2) zLv_8.2) zLv_8.2⟩
theorem zSe_8 {V : zPH} {tu st la co : Int} {e : Nat} : 0 ≤ zSe V tu st la co e ∧ zSe V tu st la co e < 8 := by
  unfold zSe; split
  · omega
  · exact zSq_8
/-- a sum of powers, each once -/
theorem zsum_b {f : Nat → Int} {P : Nat → Prop} (h0 : f 0 = 0) (hs : ∀ n, (P n → f (n + 1) = f n + 2 ^ n) ∧ (¬ P n → f (n + 1) = f n)) : ∀ n, (0 ≤ f n ∧ f n < 2 ^ n) ∧ ∀ i, zbt (f n) i ↔ i < n ∧ P i := by
  intro n
  induction n with
  | zero => rw [h0]; exact ⟨by decide, fun i => ⟨fun q => absurd q zbt_0, fun q => by omega⟩⟩
  | succ n ih =>
    obtain ⟨⟨a, b⟩, c⟩ := ih
    have e2 : (2 : Int) ^ (n + 1) = 2 ^ n * 2 := Int.pow_succ _ _
    by_cases hp : P n
    · have e := (hs n).1 hp
      have eo : f n + 2 ^ n = zor (f n) (2 ^ n) := by
        rw [zpow_c] at b ⊢
        have := Nat.two_pow_add_eq_or_of_lt (show (f n).toNat < 2 ^ n by omega) 1
        rw [Nat.mul_one] at this
        unfold zor
        rw [Int.toNat_natCast, Nat.or_comm, ← this]
        push_cast
        omega
      refine ⟨by rw [e]; omega, fun i => ?_⟩
      rw [e, eo, zbt_or, c, zbt_pow]
      constructor
      · rintro (⟨q1, q2⟩ | rfl)
        · exact ⟨by omega, q2⟩
        · exact ⟨by omega, hp⟩
      · rintro ⟨q1, q2⟩
        by_cases q : i = n
        · exact Or.inr q
        · exact Or.inl ⟨by omega, q2⟩
    · have e := (hs n).2 hp
      rw [e]
      refine ⟨by omega, fun i => ?_⟩
      rw [c]
      constructor
      · rintro ⟨q1, q2⟩; exact ⟨by omega, q2⟩
      · rintro ⟨q1, q2⟩
        refine ⟨?_, q2⟩
        rcases (show i < n ∨ i = n by omega) with q | rfl
        · exact q
        · exact absurd q2 hp
theorem zEy_b {V : zPH} {tu st la co : Int} : (0 ≤ zEy V tu st la co ∧ zEy V tu st la co < 2 ^ (V 0 5).toNat) ∧ ∀ e, zbt (zEy V tu st la co) e ↔ e < (V 0 5).toNat ∧ zSe V tu st la co e ≠ 0 :=
  zsum_b (f := zEn V tu st la co) (P := fun e => zSe V tu st la co e ≠ 0) rfl (fun n => ⟨fun h => by simp only [zEn]; rw [if_neg h], fun h => by simp only [zEn]; rw [if_pos (Classical.not_not.mp h)]; omega⟩) _
