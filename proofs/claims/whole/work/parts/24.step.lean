/-- the light at a is that of the board V -/
def zLi (σ : zPH) (a : Nat) (V : zPH) (tu st la co : Int) : Prop := (∀ m, zva V (m / 4) → σ (a + 1) (zE V m) = zLv V tu st la co m) ∧ (∀ n, σ (a + 1) n ≠ 0 → ∃ m, zva V (m / 4) ∧ n = zE V m) ∧ (∀ e : Nat, (e : Int) < V 0 5 → σ (a + 2) e = zSe V tu st la co e) ∧ σ a 2 = zEy V tu st la co
theorem zE_4 {V : zPH} {q w : Nat} (hw : w < 4) : zE V (4 * q + w) = 4 * zP V q + w := by
  unfold zE
  rw [show (4 * q + w) / 4 = q by omega, show (4 * q + w) % 4 = w by omega]
theorem zci_v {σ : zPH} {a : Nat} {V : zPH} {tu st la co : Int} (h : ∀ m, zva V (m / 4) → σ (a + 1) (zE V m) = zLv V tu st la co m) {q : Nat} (hq : zva V q) : zci σ a (zP V q : Int) = zSq V tu st la co q := by
  unfold zci zSq
  rw [if_neg (by omega), Int.toNat_natCast]
  have h0 := h (4 * q) (by rw [show 4 * q / 4 = q by omega]; exact hq)
  have h1 := h (4 * q + 1) (by rw [show (4 * q + 1) / 4 = q by omega]; exact hq)
  have h2 := h (4 * q + 2) (by rw [show (4 * q + 2) / 4 = q by omega]; exact hq)
  have h3 := h (4 * q + 3) (by rw [show (4 * q + 3) / 4 = q by omega]; exact hq)
  have e0 : zE V (4 * q) = 4 * zP V q := zE_4 (w := 0) (by decide)
  rw [e0] at h0
  rw [zE_4 (by decide)] at h1 h2 h3
  rw [h0, h1, h2, h3]
theorem zLi_of {σ σ' : zPH} {a t : Nat} {V : zPH} (hV : zVd V) (hT : zTV σ t V) {tu st la co : Int} (g : zLG σ' a) (h1 : ∀ m b, zbt (σ' (a + 1) m) b ↔ zRe (zcL σ t la co b) (zcS σ t tu st b) m) (h2 : ∀ e : Nat, (e : Int) < σ (t + 8) 3 → σ' (a + 2) e = zci σ' a (σ (t + 3) (σ (t + 9) (24 + e)).toNat)) (h3 : 0 ≤ σ' a 2 ∧ σ' a 2 < 2 ^ (σ (t + 8) 3).toNat) (h4 : ∀ e : Nat, zbt (σ' a 2) e ↔ (e : Int) < σ (t + 8) 3 ∧ σ' (a + 2) e ≠ 0) : zLi σ' a V tu st la co := by
  have a1 : ∀ m, zva V (m / 4) → σ' (a + 1) (zE V m) = zLv V tu st la co m := fun m hm => zLv_of (g.2.1 _) fun b => by
    rw [h1]
    constructor
    · rintro ⟨k, hk⟩; exact ⟨k, (zcR_v hV hT k m hm).mp hk⟩
    · rintro ⟨k, hk⟩; exact ⟨k, (zcR_v hV hT k m hm).mpr hk⟩
  have e5 : σ (t + 8) 3 = V 0 5 := hT.2.1.2.2.2.2.2.1
  have a3 : ∀ e : Nat, (e : Int) < V 0 5 → σ' (a + 2) e = zSe V tu st la co e := fun e he => by
    rw [h2 e (by omega)]
    unfold zSe
    split
    · rename_i h
      rw [hT.2.2.2.2.2.1.2.1 e he h]
      unfold zci; rw [if_pos rfl]
    · rename_i h
      rcases hV.2.2.2.1 e he with q | ⟨q1, q2, q3, q4⟩
      · exact absurd q h
      · have hm := (hT.2.2.2.2.1 _ q2).2.1 q3
        rw [q4, Int.toNat_natCast] at hm
        rw [← hm, ((hT.2.2.2.1 _ q2).2 (by omega)).2.2.2.2.2]
        exact zci_v a1 q2
  refine ⟨a1, fun n hn => ?_, a3, ?_⟩
  · obtain ⟨b, hb⟩ := (zbt_ne0 (g.2.1 n).1).mp hn
    obtain ⟨k, hk⟩ := (h1 n b).mp hb
    exact zcR_va hV hT hk
  · obtain ⟨⟨c1, c2⟩, c3⟩ := zEy_b (V := V) (tu := tu) (st := st) (la := la) (co := co)
    refine zbt_ext h3.1 c1 fun e => ?_
    rw [h4, c3, e5]
    constructor
    · rintro ⟨q1, q2⟩
      rw [a3 e q1] at q2
      exact ⟨by omega, q2⟩
    · rintro ⟨q1, q2⟩
      refine ⟨by omega, ?_⟩
      rw [a3 e (by omega)]; exact q2
theorem s_shine_v {G : zG} {σ : zPH} {X : zX} {a t : Nat} {V : zPH} (ha : zisL a) (ht : zisT t) (hL : zLG σ a) (hV : zVd V) (hT : zTV σ t V) {tu st la co : Int} (htu : 0 ≤ tu ∧ tu < 2147483648) (hst : 0 ≤ st ∧ st < 2147483648) (hla : 0 ≤ la ∧ la < 2147483648) (hco : 0 ≤ co ∧ co < 8)
    (hX : ∀ σ', zLG σ' a → zFs σ σ' a → zLi σ' a V tu st la co → X none σ') : MS G zm_L_shine 3 [zr G a, zr G t, iZ tu, iZ st, iZ la, iZ co] σ X :=
  s_L_shine_re ha ht hL hT.1 htu hst hla hco fun σ' g F h1 h2 h3 h4 => hX σ' g F (zLi_of hV hT g h1 h2 h3 h4)
/-- one colour: how far, too -/
theorem s_shine_d {G : zG} {σ : zPH} {X : zX} {a t : Nat} {V : zPH} (ha : zisL a) (ht : zisT t) (hL : zLG σ a) (hV : zVd V) (hT : zTV σ t V) {tu st la co : Int} {b0 : Nat} (htu : 0 ≤ tu ∧ tu < 2147483648) (hst : 0 ≤ st ∧ st < 2147483648) (hla : 0 ≤ la ∧ la < 2147483648) (hb0 : b0 < 3) (hco : co = 2 ^ b0)
    (hX : ∀ σ', zLG σ' a → zFs σ σ' a → zLi σ' a V tu st la co → (∀ n, σ' (a + 1) n ≠ 0 → 1 ≤ σ' (a + 4) n ∧ σ' (a + 4) n < 2000) → (∀ m, zva V (m / 4) → ((σ' (a + 1) (zE V m) ≠ 0 ↔ zRe (zvL V la co b0) (zvS V tu st b0) m) ∧ (σ' (a + 1) (zE V m) ≠ 0 → zDi (zvL V la co b0) (zvS V tu st b0) m (σ' (a + 4) (zE V m))))) → X none σ') : MS G zm_L_shine 3 [zr G a, zr G t, iZ tu, iZ st, iZ la, iZ co] σ X := by
  have hco8 : 0 ≤ co ∧ co < 8 := by
    rcases (show b0 = 0 ∨ b0 = 1 ∨ b0 = 2 by omega) with rfl | rfl | rfl <;> subst hco <;> decide
  refine s_L_shine ha ht hL hT.1 htu hst hla hco8 (fun i σ1 => zCl (zcL σ t la co) (zcS σ t tu st) a i σ1 ∧ zBf (zcL σ t la co b0) (zcS σ t tu st b0) b0 a i σ1)
    (fun σ1 g1 _ hb hf => ⟨zCl_0 g1 hb, zBf_0 g1 (fun m b => ?_) hf⟩)
    (fun i σ1 σ2 hI g1 hi d g2 => ⟨zCl_s hI.1 g1 hi d, zBf_s hI.2 g1 g2 hi (d.to fun m b => ?_)⟩)
    (fun i σ1 σ' hI g1 hi g' hF e1 e3 e4 ea hse hr hb => ?_)
  · rw [hb]
    have hc : ∀ b m, zcL σ t la co b m → b = b0 := fun b m h => by
      obtain ⟨l, -, -, -, -, h5, -⟩ := h
      rw [hco, zbt_pow] at h5; exact h5
    constructor
    · intro h; have := hc b m h; subst this; exact ⟨rfl, h⟩
    · rintro ⟨rfl, h⟩; exact h
  · have := (hI.2.2.1 i hi).1 b
    constructor
    · rintro ⟨q1, q2⟩; have := this.mp q1; subst this; exact ⟨q1, q2⟩
    · rintro ⟨q1, q2⟩; have := this.mp q1; subst this; exact ⟨q1, q2⟩
  · obtain ⟨f1, f2⟩ := zBf_e hI.2 g1 hi
    have hLi := zLi_of hV hT g' (fun m b => by rw [e1]; exact zCl_e hI.1 g1 hi m b) hse hr hb
    refine hX σ' g' hF hLi (fun n hn => ?_) (fun m hm => ⟨?_, fun hn => ?_⟩)
    · rw [e1] at hn; rw [e4]
      obtain ⟨q1, q2⟩ := f2 n hn
      exact ⟨q1.1, by omega⟩
    · rw [e1, f1]
      constructor
      · rintro ⟨k, hk⟩; exact ⟨k, (zcR_v hV hT k m hm).mp hk⟩
      · rintro ⟨k, hk⟩; exact ⟨k, (zcR_v hV hT k m hm).mpr hk⟩
    · rw [e1] at hn; rw [e4]
      obtain ⟨⟨q1, q2, q3⟩, -⟩ := f2 _ hn
      exact ⟨q1, (zcR_v hV hT _ m hm).mp q2, fun k hk => q3 k ((zcR_v hV hT k m hm).mpr hk)⟩
/-! tests -/
def zs1 (V : zPH) (see : Nat → Int) (k : Nat) (s : List Bool) : List Bool :=
  if V 9 k = 0 then true :: s else if V 9 k = 1 then decide (zand (see (V 11 k).toNat) (V 10 k) = V 10 k) :: s
  else if V 9 k = 4 then (match s with
    | x :: r => (!x) :: r
    | [] => [])
  else (match s with
    | x :: y :: r => (if V 9 k = 2 then (y && x) else (y || x)) :: r
    | s => s)
def zsn (V : zPH) (see : Nat → Int) (f : Nat) : Nat → List Bool
  | 0 => []
  | n + 1 => zs1 V see (f + n) (zsn V see f n)
def zdp (V : zPH) (f : Nat) : Nat → Int
  | 0 => 0
  | n + 1 => zdp V f n + (if V 9 (f + n) = 0 ∨ V 9 (f + n) = 1 then 1 else if V 9 (f + n) = 4 then 0 else -1)
def zwf (V : zPH) (f n : Nat) : Prop := (∀ j : Nat, j < n → (0 ≤ V 9 (f + j) ∧ V 9 (f + j) ≤ 4) ∧ (V 9 (f + j) = 1 → (1 ≤ V 10 (f + j) ∧ V 10 (f + j) ≤ 7) ∧ 0 ≤ V 11 (f + j) ∧ V 11 (f + j) < V 0 5) ∧ (V 9 (f + j) = 4 → 1 ≤ zdp V f j) ∧ (V 9 (f + j) = 2 ∨ V 9 (f + j) = 3 → 2 ≤ zdp V f j) ∧ zdp V f (j + 1) ≤ 15) ∧ zdp V f n = 1
def zVt (V : zPH) : Prop := ∀ m : Nat, (m : Int) < V 0 4 → (0 ≤ V 7 m ∧ V 7 m ≤ V 8 m ∧ V 8 m ≤ 533) ∧ zwf V (V 7 m).toNat (V 8 m - V 7 m).toNat
theorem zsn_len {V : zPH} {see : Nat → Int} {f n : Nat} (h : zwf V f n) : ∀ j, j ≤ n → ((zsn V see f j).length : Int) = zdp V f j := by
  intro j
  induction j with
  | zero => intro _; rfl
  | succ j ih =>
    intro hj
    have ih := ih (by omega)
    obtain ⟨h1, h2, h3, h4, h5⟩ := h.1 j (by omega)
    simp only [zsn, zdp, zs1]
    generalize zsn V see f j = s at *
    rcases (show V 9 (f + j) = 0 ∨ V 9 (f + j) = 1 ∨ V 9 (f + j) = 2 ∨ V 9 (f + j) = 3 ∨ V 9 (f + j) = 4 by omega) with q | q | q | q | q
    · rw [q]; simp; omega
    · rw [q]; simp; omega
    · have := h4 (by omega)
      rw [q]
      match s, ih with
      | [], ih => simp at ih; omega
      | [x], ih => simp at ih; omega
      | x :: y :: r, ih => simp at ih ⊢; omega
    · have := h4 (by omega)
      rw [q]
      match s, ih with
      | [], ih => simp at ih; omega
      | [x], ih => simp at ih; omega
      | x :: y :: r, ih => simp at ih ⊢; omega
    · have := h3 q
      rw [q]
      match s, ih with
      | [], ih => simp at ih; omega
      | x :: r, ih => simp at ih ⊢; omega
/-- a mover's test -/
def zHo (V : zPH) (see : Nat → Int) (m : Nat) : Bool := (zsn V see (V 7 m).toNat (V 8 m - V 7 m).toNat).headD false
def zfb : List Bool → Int
  | [] => 0
  | x :: r => (if x then 1 else 0) + 2 * zfb r
theorem zfb_r (s : List Bool) : 0 ≤ zfb s ∧ zfb s < 2 ^ s.length := by
  induction s with
  | nil => simp [zfb]
  | cons x r ih =>
    simp only [zfb, List.length_cons, Int.pow_succ]
    generalize (2 : Int) ^ r.length = p at *
    cases x <;> simp <;> omega
theorem zfb_15 {s : List Bool} (h : s.length ≤ 15) : 0 ≤ zfb s ∧ zfb s < 32768 := by
  have h1 := zfb_r s
  have h2 : (2 : Int) ^ s.length ≤ 2 ^ 15 := by
    rw [zpow_c, zpow_c]
    have := Nat.pow_le_pow_right (n := 2) (by decide) h
    omega
  rw [show (2 : Int) ^ 15 = 32768 from rfl] at h2
  omega
theorem zor_1 {x : Int} (hx : 0 ≤ x) : zor x 1 = if x % 2 = 0 then x + 1 else x := by
  refine zbt_ext (zor_nn _ _) (by split <;> omega) fun i => ?_
  rw [zbt_or, zbt_1]
  cases i with
  | zero =>
    rw [zbt_div (x := if x % 2 = 0 then x + 1 else x) (by split <;> omega), show (2 : Int) ^ 0 = 1 from rfl]
    simp only [or_true, true_iff]
    split <;> omega
  | succ i =>
    rw [zbt_div hx, zbt_div (by split <;> omega), Int.pow_succ, Int.mul_comm (2 ^ i) 2, ← Int.ediv_ediv_of_nonneg (by decide), ← Int.ediv_ediv_of_nonneg (by decide)]
    rw [show (if x % 2 = 0 then x + 1 else x) / 2 = x / 2 by split <;> omega]
    simp
theorem zxor_1 {x : Int} (hx : 0 ≤ x) : zxor x 1 = if x % 2 = 0 then x + 1 else x - 1 := by
  refine zbt_ext (zxor_nn _ _) (by split <;> omega) fun i => ?_
  rw [zbt_xor, zbt_1]
  cases i with
  | zero =>
    rw [zbt_div hx, zbt_div (by split <;> omega), show (2 : Int) ^ 0 = 1 from rfl]
    split <;> simp <;> omega
  | succ i =>
    rw [zbt_div hx, zbt_div (by split <;> omega), Int.pow_succ, Int.mul_comm (2 ^ i) 2, ← Int.ediv_ediv_of_nonneg (by decide), ← Int.ediv_ediv_of_nonneg (by decide)]
    rw [show (if x % 2 = 0 then x + 1 else x - 1) / 2 = x / 2 by split <;> omega]
    simp
theorem zand_0 (x : Int) : zand x 0 = 0 := by unfold zand; simp
theorem zandS_and {y : Int} (hy : 0 ≤ y ∧ y < 2147483648) (b : Int) (hb : b = 0 ∨ b = 1) : zandS y (zorS b (-2)) = if b = 1 then y else y - y % 2 := by
  have h0 : zandS y (-1) = y := by
    have h := zandnot (x := y) (y := 0) hy.1 (by decide)
    unfold zandS
    rw [show Int32.ofInt (-1) = Int32.ofInt (-1 - 0) from rfl, h, zdif, zand_0, Int.sub_zero, Int32.toInt_ofInt_of_le (by omega) (by omega)]
  have h1 : zandS y (-2) = y - y % 2 := by
    have h := zandnot (x := y) (y := 1) hy.1 (by decide)
    unfold zandS
    rw [show Int32.ofInt (-2) = Int32.ofInt (-1 - 1) from rfl, h, zdif, zand_1 hy.1, Int32.toInt_ofInt_of_le (by omega) (by omega)]
  rcases hb with rfl | rfl
  · rw [show zorS 0 (-2) = -2 by decide +kernel, h1]; rfl
  · rw [show zorS 1 (-2) = -1 by decide +kernel, h0]; rfl
set_option maxHeartbeats 4000000 in
theorem s_T_holds {G : zG} {σ : zPH} {X : zX} {t : Nat} {V : zPH} (ht : zisT t) (hV : zVd V) (hVt : zVt V) (hT : zTV σ t V) {see : Nat → Int} (hsee : ∀ e : Nat, (e : Int) < V 0 5 → σ 21 e = see e ∧ 0 ≤ see e ∧ see e < 8) {m : Nat} (hm : (m : Int) < V 0 4) (hX : X (some (iZ (if zHo V see m = true then 1 else 0))) σ) : MS G zm_T_holds 1 [zr G t, iZ (m : Int), zr G 21] σ X := by
  obtain ⟨⟨v1, v2, v3⟩, hw⟩ := hVt m hm
  have hm6 := hV.2.1.2.2.2.2.2.1
  obtain ⟨c1, c2, c3⟩ := hT.2.2.2.2.2.2 m hm
  have key : b_T_holds_18 G t (m : Int) X 0 (V 7 m) σ := by
    refine zLP2_ind (fun x3 x4 σ1 => σ1 = σ ∧ ∃ j : Nat, j ≤ (V 8 m - V 7 m).toNat ∧ x4 = V 7 m + j ∧ x3 = zfb (zsn V see (V 7 m).toNat j)) (fun _ x4 _ => (V 8 m - x4).toNat) ?_ ⟨rfl, 0, by omega, by omega, rfl⟩
    rintro K x3 x4 σ1 ⟨rfl, j, hj, rfl, rfl⟩ hK
    unfold b_T_holds_20
    rw [Int.toNat_natCast, c1]
    have hlen := zsn_len (see := see) hw j hj
    have hl15 : (zsn V see (V 7 m).toNat j).length ≤ 15 := by
      by_cases h0 : j = 0
      · subst h0; simp [zsn]
      · have := (hw.1 (j - 1) (by omega)).2.2.2.2
        rw [show j - 1 + 1 = j by omega] at this
        omega
    have hr := zfb_15 hl15
    refine ⟨by omega, by omega, fun h => ?_, fun h => ?_⟩
    · have hje : j = (V 8 m - V 7 m).toNat := by omega
      subst hje
      unfold zHo at hX
      generalize hs : zsn V see (V 7 m).toNat (V 8 m - V 7 m).toNat = s at *
      have hb : zfb s % 2 = if s.headD false = true then 1 else 0 := by
        cases s with
        | nil => simp [zfb]
        | cons x r => cases x <;> simp [zfb] <;> omega
      refine ⟨by omega, fun h1 => ?_, fun h1 => ?_⟩
      · rw [hb] at h1
        split at h1
        · exact absurd rfl h1
        · rename_i h2; rw [if_neg h2] at hX; exact hX
      · rw [hb] at h1
        split at h1
        · rename_i h2; rw [if_pos h2] at hX; exact hX
        · omega
    · have hp := c3 (V 7 m + j).toNat (by omega) (by omega)
      have ef : (V 7 m + (j : Int)).toNat = (V 7 m).toNat + j := by omega
      obtain ⟨w1, w2, w3, w4, w5⟩ := hw.1 j (by omega)
      have hnx : ∀ y : Int, y = zfb (zsn V see (V 7 m).toNat (j + 1)) → K y (V 7 m + (j : Int) + 1) σ1 := fun y hy => hK _ _ _ ⟨rfl, j + 1, by omega, by omega, hy⟩ (by omega)
      simp only [zsn, zs1] at hnx
      generalize hk : (V 7 m).toNat + j = k at *
      generalize hs : zsn V see (V 7 m).toNat j = s at *
      refine ⟨by omega, ?_⟩
      rintro x5 e5
      rw [ef] at hp
      rw [ef, hp] at e5
      rintro x6 e6
      refine ⟨by omega, ?_⟩
      rintro x7 e7
      have v5 := hV.2.1.2.2.2.2.2.2
      have hx5 : zI x5 := by
        rw [e5]; unfold zpt
        (repeat' split) <;> omega
      refine ⟨hx5, fun h24 => ⟨hx5, fun h23 => ⟨hx5, fun h22 => ⟨hx5, fun h25 => ?_, fun h25 => ?_⟩, fun h22 => ?_⟩, fun h23 => ?_⟩, fun h24 => ?_⟩
      · have q : V 9 k = 1 := by
          rw [e5] at h24 h23 h22 h25
          unfold zpt at h24 h23 h22 h25
          (repeat' split at h24) <;> simp_all <;> omega
        obtain ⟨⟨w6, w7⟩, w8, w9⟩ := w2 q
        have e5' : x5 = 1664 + 8 * V 11 k + V 10 k := by rw [e5, zpt, if_neg (by omega), if_pos q]
        refine k_T_eyeOfCode ⟨hx5, ?_⟩
        refine ⟨_, rfl, ?_⟩
        rintro x9 e9
        have e9' : x9 = V 10 k ∨ V 10 k = 8 := by omega
        have e9'' : x9 = V 10 k := by omega
        have ee : x5 / 8 % 8 = V 11 k := by omega
        rw [ee]
        obtain ⟨s1, s2, s3⟩ := hsee (V 11 k).toNat (by omega)
        rw [s1, e9'']
        have hz := zand_nn (see (V 11 k).toNat) (V 10 k)
        have hz2 := zand_le (y := V 10 k) s2
        rw [if_neg (by omega), if_pos q] at hnx
        refine ⟨by omega, ⟨s2, by omega⟩, by omega, fun hne => ?_, fun heq => ?_⟩
        · refine ⟨⟨by omega, by decide⟩, ?_⟩
          rintro y rfl
          rw [zor_0 (by omega)]
          refine hnx _ ?_
          rw [decide_eq_false hne]
          simp [zfb]; omega
        · refine ⟨⟨by omega, by decide⟩, ?_⟩
          rintro y rfl
          rw [zor_1 (by omega), if_pos (by omega)]
          refine hnx _ ?_
          rw [decide_eq_true heq]
          simp [zfb]; omega
      · have q : V 9 k = 0 := by
          rw [e5] at h25
          unfold zpt at h25
          (repeat' split at h25) <;> first | assumption | omega | (have := w2 (by assumption); omega)
        refine ⟨by omega, ?_⟩
        rintro y rfl
        rw [zor_1 (by omega), if_pos (by omega)]
        refine hnx _ ?_
        rw [if_pos q]
        simp [zfb]; omega
      · have q : V 9 k = 3 := by
          rw [e5] at h22
          unfold zpt at h22
          (repeat' split at h22) <;> first | assumption | omega | (have := w2 (by assumption); omega)
        rw [if_neg (by omega), if_neg (by omega), if_neg (by omega)] at hnx
        have hd := w4 (Or.inr q)
        match s, hlen, hr, hs, hnx, e6, e7 with
        | [], hlen, _, _, _, _, _ => simp at hlen; omega
        | [x], hlen, _, _, _, _, _ => simp at hlen; omega
        | x :: y :: r, hlen, hr, hs, hnx, e6, e7 =>
          simp only [zfb] at e6 e7 hr
          have e7' : x7 = (if y then 1 else 0) + 2 * zfb r := by cases x <;> simp at e7 ⊢ <;> omega
          have hy0 : 0 ≤ x7 := by
            rw [e7']; have := (zfb_r r).1; split <;> omega
          refine ⟨⟨hy0, by omega⟩, ?_⟩
          rintro z rfl
          refine hnx _ ?_
          show zor x7 x6 = zfb ((if V 9 k = 2 then y && x else y || x) :: r)
          rw [if_neg (by omega)]
          cases x
          · have : x6 = 0 := by simp at e6; omega
            rw [this, zor_0 hy0, e7']
            cases y <;> simp [zfb]
          · have : x6 = 1 := by simp at e6; omega
            rw [this, zor_1 hy0, e7']
            cases y <;> simp [zfb] <;> omega
      · have q : V 9 k = 2 := by
          rw [e5] at h23
          unfold zpt at h23
          (repeat' split at h23) <;> first | assumption | omega | (have := w2 (by assumption); omega)
        rw [if_neg (by omega), if_neg (by omega), if_neg (by omega)] at hnx
        have hd := w4 (Or.inl q)
        match s, hlen, hr, hs, hnx, e6, e7 with
        | [], hlen, _, _, _, _, _ => simp at hlen; omega
        | [x], hlen, _, _, _, _, _ => simp at hlen; omega
        | x :: y :: r, hlen, hr, hs, hnx, e6, e7 =>
          simp only [zfb] at e6 e7 hr
          have e7' : x7 = (if y then 1 else 0) + 2 * zfb r := by cases x <;> simp at e7 ⊢ <;> omega
          have hy0 : 0 ≤ x7 ∧ x7 < 2147483648 := by
            rw [e7']; have := (zfb_r r).1; cases x <;> cases y <;> simp at hr ⊢ <;> omega
          rintro z rfl
          refine hnx _ ?_
          show _ = zfb ((if V 9 k = 2 then y && x else y || x) :: r)
          rw [zandS_and hy0 x6 (by omega), if_pos q, e7']
          cases x
          · have : x6 = 0 := by simp at e6; omega
            rw [this]
            cases y <;> simp [zfb] <;> omega
          · have : x6 = 1 := by simp at e6; omega
            rw [this]
            cases y <;> simp [zfb]
      · have q : V 9 k = 4 := by
          rw [e5] at h24
          unfold zpt at h24
          (repeat' split at h24) <;> first | omega | (have := w2 (by assumption); omega)
        rw [if_neg (by omega), if_neg (by omega), if_pos q] at hnx
        have hd := w3 q
        refine ⟨by omega, ?_⟩
        rintro z rfl
        refine hnx _ ?_
        rw [zxor_1 hr.1]
        match s, hlen, hr with
        | [], hlen, _ => simp at hlen; omega
        | x :: r, hlen, hr =>
          have := (zfb_r r).1
          cases x <;> simp [zfb] <;> omega
  refine k_T_holds ht ⟨by omega, fun h => ⟨by omega, ?_⟩, fun h => ?_⟩
  · have e : σ (t + 12) ((m : Int) - 1).toNat = V 7 m := by
      rw [show ((m : Int) - 1).toNat = m - 1 by omega, (hT.2.2.2.2.2.2 (m - 1) (by omega)).1, c2, if_neg (by omega)]
    rw [e]; exact key
  · rw [c2, if_pos (by omega)] at key; exact key
