/-- the light at a is that of the board V -/
def zLi (σ : zPH) (a : Nat) (V : zPH) (tu st la co : Int) : Prop := (∀ m, zva V (m / 4) → σ (a + 1) (zE V m) = zLv V tu st la co m) ∧ (∀ n, σ (a + 1) n ≠ 0 → ∃ m, zva V (m / 4) ∧ n = zE V m) ∧ (∀ e : Nat, (e : Int) < V 0 5 → σ (a + 2) e = zSe V tu st la co e) ∧ σ a 2 = zEy V tu st la co
theorem zE_4 {V : zPH} {q w : Nat} (hw : w < 4) : zE V (4 * q + w) = 4 * zP V q + w := by
  unfold zE
  rw [show (4 * q + w) / 4 = q by omega, show (4 * q + w) % 4 = w by omega]
theorem zci_v {σ : zPH} {a : Nat} {V : zPH} {tu st la co : Int} (h : ∀ m, zva V (m / 4) → σ (a + 1) (zE V m) = zLv V tu st la co m) {q : Nat} (hq : zva V q) : zci σ a (zP V q : Int) = zSq V tu st la co q := by
  unfold zci zSq
  rw [if_neg (by omega), Int.toNat_natCast]
  have h0 := h (4 * q) (by rw [show 4 * q / 4 = q by omega]; exact hq)
  have h1 := h (4 * q + 1) (by rw [show (4 * q + 1) / 4 = q by omega]; exact hq)
  have h2 := h (4 * q + 2) (by rw [show (4 * q + 2) / 4 = q by omega]; exact hq)
  have h3 := h (4 * q + 3) (by rw [show (4 * q + 3) / 4 = q by omega]; exact hq)
  have e0 : zE V (4 * q) = 4 * zP V q := zE_4 (w := 0) (by decide)
  rw [e0] at h0
  rw [zE_4 (by decide)] at h1 h2 h3
  rw [h0, h1, h2, h3]
theorem zLi_of {σ σ' : zPH} {a t : Nat} {V : zPH} (hV : zVd V) (hT : zTV σ t V) {tu st la co : Int} (g : zLG σ' a) (h1 : ∀ m b, zbt (σ' (a + 1) m) b ↔ zRe (zcL σ t la co b) (zcS σ t tu st b) m) (h2 : ∀ e : Nat, (e : Int) < σ (t + 8) 3 → σ' (a + 2) e = zci σ' a (σ (t + 3) (σ (t + 9) (24 + e)).toNat)) (h3 : 0 ≤ σ' a 2 ∧ σ' a 2 < 2 ^ (σ (t + 8) 3).toNat) (h4 : ∀ e : Nat, zbt (σ' a 2) e ↔ (e : Int) < σ (t + 8) 3 ∧ σ' (a + 2) e ≠ 0) : zLi σ' a V tu st la co := by
  have a1 : ∀ m, zva V (m / 4) → σ' (a + 1) (zE V m) = zLv V tu st la co m := fun m hm => zLv_of (g.2.1 _) fun b => by
    rw [h1]
    constructor
    · rintro ⟨k, hk⟩; exact ⟨k, (zcR_v hV hT k m hm).mp hk⟩
    · rintro ⟨k, hk⟩; exact ⟨k, (zcR_v hV hT k m hm).mpr hk⟩
  have e5 : σ (t + 8) 3 = V 0 5 := hT.2.1.2.2.2.2.2.1
  have a3 : ∀ e : Nat, (e : Int) < V 0 5 → σ' (a + 2) e = zSe V tu st la co e := fun e he => by
    rw [h2 e (by omega)]
    unfold zSe
    split
    · rename_i h
      rw [hT.2.2.2.2.2.1.2.1 e he h]
      unfold zci; rw [if_pos rfl]
    · rename_i h
      rcases hV.2.2.2.1 e he with q | ⟨q1, q2, q3, q4⟩
      · exact absurd q h
      · have hm := (hT.2.2.2.2.1 _ q2).2.1 q3
        rw [q4, Int.toNat_natCast] at hm
        rw [← hm, ((hT.2.2.2.1 _ q2).2 (by omega)).2.2.2.2.2]
        exact zci_v a1 q2
  refine ⟨a1, fun n hn => ?_, a3, ?_⟩
  · obtain ⟨b, hb⟩ := (zbt_ne0 (g.2.1 n).1).mp hn
    obtain ⟨k, hk⟩ := (h1 n b).mp hb
    exact zcR_va hV hT hk
  · obtain ⟨⟨c1, c2⟩, c3⟩ := zEy_b (V := V) (tu := tu) (st := st) (la := la) (co := co)
    refine zbt_ext h3.1 c1 fun e => ?_
    rw [h4, c3, e5]
    constructor
    · rintro ⟨q1, q2⟩
      rw [a3 e q1] at q2
      exact ⟨by omega, q2⟩
    · rintro ⟨q1, q2⟩
      refine ⟨by omega, ?_⟩
      rw [a3 e (by omega)]; exact q2
theorem s_shine_v {G : zG} {σ : zPH} {X : zX} {a t : Nat} {V : zPH} (ha : zisL a) (ht : zisT t) (hL : zLG σ a) (hV : zVd V) (hT : zTV σ t V) {tu st la co : Int} (htu : 0 ≤ tu ∧ tu < 2147483648) (hst : 0 ≤ st ∧ st < 2147483648) (hla : 0 ≤ la ∧ la < 2147483648) (hco : 0 ≤ co ∧ co < 8)
    (hX : ∀ σ', zLG σ' a → zFs σ σ' a → zLi σ' a V tu st la co → X none σ') : MS G zm_L_shine 3 [zr G a, zr G t, iZ tu, iZ st, iZ la, iZ co] σ X :=
  s_L_shine_re ha ht hL hT.1 htu hst hla hco fun σ' g F h1 h2 h3 h4 => hX σ' g F (zLi_of hV hT g h1 h2 h3 h4)
/-! tests -/
def zdp (V : zPH) (f : Nat) : Nat → Int
  | 0 => 0
  | n + 1 => zdp V f n + (if V 9 (f + n) = 0 ∨ V 9 (f + n) = 1 then 1 else if V 9 (f + n) = 4 then 0 else -1)
def zwf (V : zPH) (f n : Nat) : Prop := (∀ j : Nat, j < n → (0 ≤ V 9 (f + j) ∧ V 9 (f + j) ≤ 4) ∧ (V 9 (f + j) = 1 → (1 ≤ V 10 (f + j) ∧ V 10 (f + j) ≤ 7) ∧ 0 ≤ V 11 (f + j) ∧ V 11 (f + j) < V 0 5) ∧ (V 9 (f + j) = 4 → 1 ≤ zdp V f j) ∧ (V 9 (f + j) = 2 ∨ V 9 (f + j) = 3 → 2 ≤ zdp V f j) ∧ zdp V f (j + 1) ≤ 15) ∧ zdp V f n = 1
def zVt (V : zPH) : Prop := ∀ m : Nat, (m : Int) < V 0 4 → (0 ≤ V 7 m ∧ V 7 m ≤ V 8 m ∧ V 8 m ≤ 533) ∧ zwf V (V 7 m).toNat (V 8 m - V 7 m).toNat
