/-- what a piece's numbers may be -/
def zPc (σ : zPH) (t i : Nat) : Prop := (0 ≤ σ (t + 4) i ∧ σ (t + 4) i ≤ 9) ∧ (-1 ≤ σ (t + 5) i ∧ σ (t + 5) i < 8) ∧ (-1 ≤ σ (t + 6) i ∧ σ (t + 6) i < 8) ∧ (σ (t + 4) i = 2 ∨ σ (t + 4) i = 3 ∨ σ (t + 4) i = 8 ∨ σ (t + 4) i = 9 → σ (t + 6) i = 0 ∨ σ (t + 6) i = 1) ∧ (σ (t + 4) i = 8 ∨ σ (t + 4) i = 9 → 0 ≤ σ (t + 5) i) ∧ (σ (t + 4) i = 1 ∨ σ (t + 4) i = 4 → 0 ≤ σ (t + 6) i) ∧ 0 ≤ σ (t + 7) i + 1 ∧ σ (t + 7) i < 4
/-- a table's numbers are such that its methods don't leave their rows -/
def zTs (σ : zPH) (t : Nat) : Prop := (∀ n, -1 ≤ σ (t + 1) n ∧ σ (t + 1) n < 576) ∧ (∀ p, -1 ≤ σ (t + 2) p ∧ σ (t + 2) p < 60) ∧ (∀ i, -1 ≤ σ (t + 3) i ∧ σ (t + 3) i < 144) ∧ (∀ i, zPc σ t i) ∧ (0 ≤ σ t 0 ∧ σ t 0 ≤ 12 ∧ 0 ≤ σ t 1 ∧ σ t 1 ≤ 12) ∧ (∀ k, 0 ≤ σ (t + 9) k ∧ σ (t + 9) k < 59) ∧ (∀ g, 0 ≤ σ (t + 8) g ∧ σ (t + 8) g ≤ 8) ∧ σ (t + 8) 2 ≤ 6 ∧ (∀ l : Nat, (l : Int) < σ (t + 8) 0 → 0 ≤ σ (t + 7) (σ (t + 9) l).toNat ∧ 0 ≤ σ (t + 6) (σ (t + 9) l).toNat)
theorem zTs.to {σ σ' : zPH} {t : Nat} (h : zTs σ t) (hr : ∀ q, t ≤ q → q ≤ t + 12 → σ' q = σ q) : zTs σ' t := by
  unfold zTs zPc at *
  rw [hr t (by omega) (by omega), hr (t + 1) (by omega) (by omega), hr (t + 2) (by omega) (by omega), hr (t + 3) (by omega) (by omega), hr (t + 4) (by omega) (by omega), hr (t + 5) (by omega) (by omega), hr (t + 6) (by omega) (by omega), hr (t + 7) (by omega) (by omega), hr (t + 8) (by omega) (by omega), hr (t + 9) (by omega) (by omega)]
  exact h
def zlkv (s n f tu st : Int) : Int := if s = 2 ∨ s = 3 then (if n = -1 then f else (f + tu / 2 ^ n.toNat % 2) % 2) else if s = 8 ∨ s = 9 then (f + st / 2 ^ n.toNat % 2) % 2 else f
/-- a piece's form or colour now -/
def zlk (σ : zPH) (t i : Nat) (tu st : Int) : Int := zlkv (σ (t + 4) i) (σ (t + 5) i) (σ (t + 6) i) tu st
theorem zxor01 {a b : Int} (ha : a = 0 ∨ a = 1) (hb : b = 0 ∨ b = 1) : zxor a b = (a + b) % 2 := by
  rcases ha with rfl | rfl <;> rcases hb with rfl | rfl <;> rfl
theorem zmod2 (x : Int) : x % 2 = 0 ∨ x % 2 = 1 := by omega
theorem zlk_8 {σ : zPH} {t i : Nat} {tu st : Int} (hp : zPc σ t i) : -1 ≤ zlk σ t i tu st ∧ zlk σ t i tu st < 8 := by
  obtain ⟨p1, p2, p3, p4, p5, -⟩ := hp
  unfold zlk zlkv
  split
  · split <;> omega
  · split <;> omega
theorem zlk_g {σ : zPH} {t i : Nat} {tu st : Int} (hp : zPc σ t i) (h : σ (t + 4) i = 4) : 0 ≤ zlk σ t i tu st := by
  obtain ⟨p1, p2, p3, p4, p5, p6, -⟩ := hp
  unfold zlk zlkv
  rw [h, if_neg (by omega), if_neg (by omega)]
  exact p6 (Or.inr h)
theorem s_T_lookNow {G : zG} {σ : zPH} {X : zX} {t : Nat} (ht : zisT t) {i tu st : Int} (hi : 0 ≤ i ∧ i < 60) (hp : zPc σ t i.toNat) (htu : 0 ≤ tu ∧ tu < 2147483648) (hst : 0 ≤ st ∧ st < 2147483648) (hX : X (some (iZ (zlk σ t i.toNat tu st))) σ) : MS G zm_T_lookNow 0 [zr G t, iZ i, iZ tu, iZ st] σ X := by
  refine k_T_lookNow ht ?_
  obtain ⟨p1, p2, p3, p4, p5, -⟩ := hp
  have hx : ∀ (y : Int) (n : Nat), σ (t + 6) i.toNat = 0 ∨ σ (t + 6) i.toNat = 1 → zxor (σ (t + 6) i.toNat) (y / 2 ^ n % 2) = (σ (t + 6) i.toNat + y / 2 ^ n % 2) % 2 := fun y n h => zxor01 h (zmod2 _)
  unfold w_T_lookNow
  refine ⟨hi, by omega, fun h => ⟨hi, by omega, fun h2 => ⟨hi, hi, by omega, by omega, ?_⟩, fun h2 => ⟨hi, ?_⟩⟩, fun h => ⟨hi, hi, by omega, by omega, ?_⟩, fun h => ⟨hi, ?_⟩⟩
  · rw [hx _ _ (p4 (by omega))]
    rw [zlk, zlkv, if_pos h, if_neg h2] at hX; exact hX
  · rw [zlk, zlkv, if_pos h, if_pos h2] at hX; exact hX
  · rw [hx _ _ (p4 (by omega))]
    rw [zlk, zlkv, if_neg (by omega), if_pos h] at hX; exact hX
  · rw [zlk, zlkv, if_neg (by omega), if_neg (by omega)] at hX; exact hX
/-- the way on from a mirror -/
def zmw (f : Int) (w : Nat) : Nat := if f = 0 then (if w % 2 = 0 then w + 1 else w - 1) else 3 - w
theorem zmw_0 : ∀ w : Nat, w < 4 → zxor (w : Int) 1 = ((if w % 2 = 0 then w + 1 else w - 1 : Nat) : Int) := by decide
theorem zmw_3 : ∀ w : Nat, w < 4 → zxor (w : Int) 3 = ((3 - w : Nat) : Int) := by decide
theorem zmw_lt {f : Int} {w : Nat} (h : w < 4) : zmw f w < 4 := by
  unfold zmw; split
  · split <;> omega
  · omega
theorem s_L_turnedWay {G : zG} {σ : zPH} {X : zX} {w : Nat} {f : Int} (hw : w < 4) (hf : zI f) (hX : X (some (iZ ((zmw f w : Nat) : Int))) σ) : MS G zm_L_turnedWay 0 [iZ (w : Int), iZ f] σ X := by
  refine k_L_turnedWay ?_
  refine ⟨hf, fun h => ⟨by omega, ?_⟩, fun h => ⟨by omega, ?_⟩⟩
  · rw [zmw_3 w hw]; rw [zmw, if_neg h] at hX; exact hX
  · rw [zmw_0 w hw]; rw [zmw, if_pos h] at hX; exact hX
theorem s_L_arrivedNode {G : zG} {σ : zPH} {X : zX} {a : Nat} (ha : zisL a) {i : Int} (hi : 0 ≤ i ∧ i < 1728) (hv : 0 ≤ σ (a + 3) i.toNat ∧ σ (a + 3) i.toNat < 4608) (hX : X (some (iZ (σ (a + 3) i.toNat / 8))) σ) : MS G zm_L_arrivedNode 0 [zr G a, iZ i] σ X :=
  k_L_arrivedNode ha ⟨hi, by omega, hX⟩
theorem s_T_pieceOf {G : zG} {σ : zPH} {X : zX} {t : Nat} (ht : zisT t) {g n : Int} (hg : 0 ≤ g ∧ g < 4) (hn : 0 ≤ n ∧ n < 8) (hX : X (some (iZ (σ (t + 9) (g * 8 + n).toNat))) σ) : MS G zm_T_pieceOf 0 [zr G t, iZ g, iZ n] σ X :=
  k_T_pieceOf ht ⟨by omega, hX⟩
theorem s_T_squareOf {G : zG} {σ : zPH} {X : zX} {t : Nat} (ht : zisT t) (hT : zTs σ t) {g n : Int} (hg : 0 ≤ g ∧ g < 4) (hn : 0 ≤ n ∧ n < 8) (hX : X (some (iZ (σ (t + 3) (σ (t + 9) (g * 8 + n).toNat).toNat))) σ) : MS G zm_T_squareOf 1 [zr G t, iZ g, iZ n] σ X := by
  refine k_T_squareOf ht ?_
  have hm := hT.2.2.2.2.2.1 (g * 8 + n).toNat
  exact s_T_pieceOf ht hg hn ⟨_, rfl, by omega, hX⟩
/-- colours that come into a square -/
def zci (σ : zPH) (a : Nat) (sq : Int) : Int := if sq = -1 then 0 else zor (zor (zor (σ (a + 1) (4 * sq.toNat)) (σ (a + 1) (4 * sq.toNat + 1))) (σ (a + 1) (4 * sq.toNat + 2))) (σ (a + 1) (4 * sq.toNat + 3))
theorem s_L_comesInto {G : zG} {σ : zPH} {X : zX} {a : Nat} (ha : zisL a) (hL : ∀ n, 0 ≤ σ (a + 1) n ∧ σ (a + 1) n < 8) {q : Int} (hq : -1 ≤ q ∧ q < 144) (hX : X (some (iZ (zci σ a q))) σ) : MS G zm_L_comesInto 0 [zr G a, iZ q] σ X := by
  refine k_L_comesInto ha ⟨by omega, fun h => ?_, fun h => ?_⟩
  · rintro x rfl
    rw [zci, if_neg h] at hX
    rw [show (q * 4 + 0).toNat = 4 * q.toNat by omega, show (q * 4 + 1).toNat = 4 * q.toNat + 1 by omega, show (q * 4 + 2).toNat = 4 * q.toNat + 2 by omega, show (q * 4 + 3).toNat = 4 * q.toNat + 3 by omega]
    exact ⟨by omega, by omega, ⟨(hL _).1, (hL _).1⟩, by omega, ⟨zor_nn _ _, (hL _).1⟩, by omega, ⟨zor_nn _ _, (hL _).1⟩, hX⟩
  · rw [zci, if_pos h] at hX; exact hX
/-- how many bits, 0 .. 2 -/
def zp3 (x : Int) : Int := x % 2 + x / 2 % 2 + x / 4 % 2
def zpc (f : Nat → Int) : Nat → Int
  | 0 => 0
  | n + 1 => zpc f n + zp3 (f n)
theorem zp3_le (x : Int) : 0 ≤ zp3 x ∧ zp3 x ≤ 3 := by unfold zp3; omega
theorem zpc_le (f : Nat → Int) (n : Nat) : 0 ≤ zpc f n ∧ zpc f n ≤ 3 * n := by
  induction n with
  | zero => simp [zpc]
  | succ n ih => have := zp3_le (f n); simp only [zpc]; omega
theorem zpc_upd {f g : Nat → Int} {m : Nat} (h : ∀ k, k ≠ m → g k = f k) : ∀ n, zpc g n = zpc f n + (if m < n then zp3 (g m) - zp3 (f m) else 0) := by
  intro n
  induction n with
  | zero => simp [zpc]
  | succ n ih =>
    simp only [zpc]
    rw [ih]
    by_cases hm : n = m
    · subst hm; simp; omega
    · rw [h n hm]
      by_cases h2 : m < n
      · rw [if_pos h2, if_pos (by omega)]; omega
      · rw [if_neg h2, if_neg (by omega)]; omega
theorem zp3_or : ∀ x : Fin 8, ∀ f : Fin 8, f ≠ 0 → zand ((x : Nat) : Int) ((f : Nat) : Int) = 0 → zp3 ((x : Nat) : Int) + 1 ≤ zp3 (zor ((x : Nat) : Int) ((f : Nat) : Int)) := by decide +kernel
theorem zp3_or' {x f : Int} (hx : 0 ≤ x ∧ x < 8) (hf : 0 ≤ f ∧ f < 8) (h0 : f ≠ 0) (hd : ∀ b, zbt x b → ¬ zbt f b) : zp3 x + 1 ≤ zp3 (zor x f) := by
  have h := zp3_or ⟨x.toNat, by omega⟩ ⟨f.toNat, by omega⟩ (by intro q; have := congrArg Fin.val q; simp at this; omega) (by
    show zand ((x.toNat : Nat) : Int) ((f.toNat : Nat) : Int) = 0
    rw [Int.toNat_of_nonneg hx.1, Int.toNat_of_nonneg hf.1]
    apply zbt_ext (zand_nn _ _) (by decide)
    intro i
    rw [zbt_and]
    exact ⟨fun ⟨a, b⟩ => absurd b (hd i a), fun a => absurd a zbt_0⟩)
  simp only [Int.toNat_of_nonneg hx.1, Int.toNat_of_nonneg hf.1] at h
  exact h
theorem zpc_lt {f : Nat → Int} (hf : ∀ n, 0 ≤ f n ∧ f n < 8) {m N : Nat} (hm : m < N) {b : Nat} (hb : b < 3) (h : ¬ zbt (f m) b) : zpc f N < 3 * N := by
  have h3 : zp3 (f m) ≤ 2 := by
    have hx := hf m
    rw [zbt_div hx.1] at h
    unfold zp3
    rcases (show b = 0 ∨ b = 1 ∨ b = 2 by omega) with rfl | rfl | rfl
    · simp at h; omega
    · simp at h; omega
    · rw [show (2 : Int) ^ 2 = 4 from rfl] at h; omega
  induction N with
  | zero => omega
  | succ n ih =>
    simp only [zpc]
    have h4 := zp3_le (f n)
    have h5 := zpc_le f n
    by_cases hmn : m = n
    · subst hmn; omega
    · have := ih (by omega); omega
/-- a light's numbers -/
def zLG (σ : zPH) (a : Nat) : Prop := (0 ≤ σ a 3 ∧ σ a 3 ≤ 1728) ∧ (∀ n, 0 ≤ σ (a + 1) n ∧ σ (a + 1) n < 8) ∧ (∀ j, 0 ≤ σ (a + 3) j ∧ σ (a + 3) j < 4608) ∧ (∀ j : Nat, (j : Int) < σ a 3 → σ (a + 3) j % 8 ≠ 0 ∧ ∀ b, zbt (σ (a + 3) j % 8) b → zbt (σ (a + 1) (σ (a + 3) j / 8).toNat) b) ∧ (∀ n b, zbt (σ (a + 1) n) b → ∃ j : Nat, (j : Int) < σ a 3 ∧ σ (a + 3) j / 8 = (n : Int) ∧ zbt (σ (a + 3) j % 8) b) ∧ σ a 3 ≤ zpc (σ (a + 1)) 576 ∧ (0 ≤ σ a 6 ∧ σ a 6 < 2147483648) ∧ (0 ≤ σ a 7 ∧ σ a 7 < 2147483648)
/-- some colours came to some nodes -/
def zSd (σ σ' : zPH) (a : Nat) (T : Nat → Nat → Prop) (s : Int) : Prop := (∀ q, q ≠ a → q ≠ a + 1 → q ≠ a + 3 → q ≠ a + 4 → σ' q = σ q) ∧ (∀ k, k ≠ 3 → σ' a k = σ a k) ∧ σ a 3 ≤ σ' a 3 ∧ (∀ j : Nat, (j : Int) < σ a 3 → σ' (a + 3) j = σ (a + 3) j) ∧ (∀ m b, zbt (σ' (a + 1) m) b ↔ zbt (σ (a + 1) m) b ∨ T m b) ∧ (∀ m, σ (a + 1) m ≠ 0 → σ' (a + 4) m = σ (a + 4) m) ∧ (∀ m, σ (a + 1) m = 0 → σ' (a + 1) m ≠ 0 → σ' (a + 4) m = s) ∧ (∀ j : Nat, σ a 3 ≤ (j : Int) → (j : Int) < σ' a 3 → ∀ b, zbt (σ' (a + 3) j % 8) b → T (σ' (a + 3) j / 8).toNat b ∧ ¬ zbt (σ (a + 1) (σ' (a + 3) j / 8).toNat) b)
theorem zSd.same {σ : zPH} {a : Nat} {T : Nat → Nat → Prop} {s : Int} (h : ∀ m b, T m b → zbt (σ (a + 1) m) b) : zSd σ σ a T s :=
  ⟨fun _ _ _ _ _ => rfl, fun _ _ => rfl, Int.le_refl _, fun _ _ => rfl, fun m b => ⟨Or.inl, fun q => q.elim id (h m b)⟩, fun _ _ => rfl, fun m h0 h1 => absurd h0 h1, fun j h1 h2 => by omega⟩
theorem zSd.trans {σ σ1 σ2 : zPH} {a : Nat} {T1 T2 : Nat → Nat → Prop} {s : Int} (hp : ∀ n, 0 ≤ σ (a + 1) n) (hp1 : ∀ n, 0 ≤ σ1 (a + 1) n) (h1 : zSd σ σ1 a T1 s) (h2 : zSd σ1 σ2 a T2 s) : zSd σ σ2 a (fun m b => T1 m b ∨ T2 m b) s := by
  obtain ⟨a1, a2, a3, a4, a5, a6, a7, a8⟩ := h1
  obtain ⟨b1, b2, b3, b4, b5, b6, b7, b8⟩ := h2
  have mono : ∀ m, σ (a + 1) m ≠ 0 → σ1 (a + 1) m ≠ 0 := fun m h => by
    obtain ⟨i, hi⟩ := (zbt_ne0 (hp m)).mp h
    exact (zbt_ne0 (hp1 m)).mpr ⟨i, (a5 m i).mpr (Or.inl hi)⟩
  refine ⟨fun q q1 q2 q3 q4 => by rw [b1 q q1 q2 q3 q4, a1 q q1 q2 q3 q4], fun k hk => by rw [b2 k hk, a2 k hk], by omega, fun j hj => by rw [b4 j (by omega), a4 j hj], fun m b => by rw [b5, a5, or_assoc], fun m h => by rw [b6 m (mono m h), a6 m h], fun m h0 h2 => ?_, fun j hj1 hj2 b hb => ?_⟩
  · by_cases h : σ1 (a + 1) m = 0
    · exact b7 m h h2
    · rw [b6 m h]; exact a7 m h0 h
  · by_cases hj : (j : Int) < σ1 a 3
    · rw [b4 j hj] at hb ⊢
      obtain ⟨c1, c2⟩ := a8 j hj1 hj b hb
      exact ⟨Or.inl c1, c2⟩
    · obtain ⟨c1, c2⟩ := b8 j (by omega) hj2 b hb
      exact ⟨Or.inr c1, fun q => c2 ((a5 _ _).mpr (Or.inl q))⟩
theorem zSd.to {σ σ' : zPH} {a : Nat} {T T' : Nat → Nat → Prop} {s : Int} (h : zSd σ σ' a T s) (e : ∀ m b, T m b ↔ T' m b) : zSd σ σ' a T' s := by
  have : T = T' := by funext m b; exact propext (e m b)
  rw [← this]; exact h
theorem zLs3 {a t : Nat} (ha : zisL a) (ht : zisT t) {q : Nat} (h1 : t ≤ q) (h2 : q ≤ t + 12) : q ≠ a ∧ q ≠ a + 1 ∧ q ≠ a + 2 ∧ q ≠ a + 3 ∧ q ≠ a + 4 := by
  have ha2 : a = 19 ∨ a = 24 := ha
  have ht2 : t = 32 ∨ t = 45 := ht
  omega
set_option maxHeartbeats 4000000 in
theorem s_L_send {G : zG} {σ : zPH} {X : zX} {a : Nat} (ha : zisL a) (hL : zLG σ a) {n c s : Int} (hn : -1 ≤ n ∧ n < 576) (hc : 0 ≤ c ∧ c < 8) (hX : ∀ σ', zLG σ' a → zSd σ σ' a (fun m b => (m : Int) = n ∧ zbt c b) s → X none σ') : MS G zm_L_send 0 [zr G a, iZ n, iZ c, iZ s] σ X := by
  refine k_L_send ha ?_
  obtain ⟨l1, l2, l3, l4, l5, l6, l7, l8⟩ := id hL
  have hnone : (∀ m b : Nat, (m : Int) = n ∧ zbt c b → zbt (σ (a + 1) m) b) → X none σ := fun h => hX σ hL (zSd.same h)
  have h19 : ∀ f : Int, (n = -1 ∧ f = 0) ∨ (0 ≤ n ∧ f = zdif c (σ (a + 1) n.toNat)) → b_L_send_19 G a n c s X f σ := by
    intro f hf
    have hf8 : 0 ≤ f ∧ f < 8 := by
      rcases hf with ⟨-, rfl⟩ | ⟨-, rfl⟩
      · omega
      · have h1 := zdif_nn (y := σ (a + 1) n.toNat) hc.1
        have h2 := zdif_le (y := σ (a + 1) n.toNat) hc.1
        omega
    refine ⟨by omega, fun h0 => ?_, fun h0 => ⟨by omega, fun hA => ?_, fun hA => ?_⟩⟩
    · refine hnone fun m b ⟨hm, hb⟩ => ?_
      rcases hf with ⟨q, -⟩ | ⟨q, q2⟩
      · omega
      · rw [h0] at q2
        have := (zdif_0 (x := c) (y := σ (a + 1) n.toNat) (by omega)).mp q2.symm b hb
        rwa [show n.toNat = m by omega] at this
    · obtain ⟨hn0, hfe⟩ : 0 ≤ n ∧ f = zdif c (σ (a + 1) n.toNat) := by
        rcases hf with ⟨q, q2⟩ | q
        · exact absurd q2 h0
        · exact q
      have hfb : ∀ b, zbt f b ↔ zbt c b ∧ ¬ zbt (σ (a + 1) n.toNat) b := fun b => by rw [hfe, zbt_dif (by omega)]
      have h55 : ∀ σ1 : zPH, (∀ q, q ≠ a + 4 → σ1 q = σ q) → (∀ m, σ (a + 1) m ≠ 0 → σ1 (a + 4) m = σ (a + 4) m) → (∀ m, m ≠ n.toNat → σ1 (a + 4) m = σ (a + 4) m) → (σ (a + 1) n.toNat = 0 → σ1 (a + 4) n.toNat = s) → b_L_send_55 G a n c s X f σ1 := by
        intro σ1 r1 r2 r3 r4
        unfold b_L_send_55
        refine ⟨by omega, ⟨by rw [r1 _ (by omega)]; exact (l2 _).1, hf8.1⟩, by omega, ?_⟩
        rintro σ65 e65
        have e65a : σ65 a = σ a := by rw [e65, zupd_row (by omega), r1 _ (by omega)]
        refine ⟨⟨by omega, hf8.1⟩, by rw [e65a]; omega, ?_⟩
        rintro σ80 e80 σ88 e88
        have e80a : σ80 a = σ a := by rw [e80, zupd_row (by omega), e65a]
        have e3 : zor (n * 8) f = n * 8 + f := by
          unfold zor
          have := Nat.shiftLeft_add_eq_or_of_lt (show f.toNat < 2 ^ 3 by omega) n.toNat
          rw [Nat.shiftLeft_eq] at this
          rw [show (n * 8).toNat = n.toNat * 2 ^ 3 by omega, ← this]
          omega
        have g0 : σ88 a 3 = σ a 3 + 1 := by rw [e88, zupd_same, e80a]
        have g0' : ∀ k, k ≠ 3 → σ88 a k = σ a k := fun k hk => by rw [e88, zupd_nk hk, e80a]
        have g1 : ∀ m, σ88 (a + 1) m = if m = n.toNat then zor (σ (a + 1) n.toNat) f else σ (a + 1) m := fun m => by
          rw [e88, zupd_row (by omega), e80, zupd_row (by omega), e65]
          split
          · rename_i h; subst h; rw [zupd_same, r1 _ (by omega)]
          · rename_i h; rw [zupd_nk h, r1 _ (by omega)]
        have g3 : ∀ j, σ88 (a + 3) j = if j = (σ a 3).toNat then n * 8 + f else σ (a + 3) j := fun j => by
          rw [e88, zupd_row (by omega), e80, e65a]
          split
          · rename_i h; subst h; rw [zupd_same, e3]
          · rename_i h; rw [zupd_nk h, e65, zupd_row (by omega), r1 _ (by omega)]
        have g4 : ∀ m, σ88 (a + 4) m = σ1 (a + 4) m := fun m => by
          rw [e88, zupd_row (by omega), e80, zupd_row (by omega), e65, zupd_row (by omega)]
        have gq : ∀ q, q ≠ a → q ≠ a + 1 → q ≠ a + 3 → q ≠ a + 4 → σ88 q = σ q := fun q q1 q2 q3 q4 => by
          rw [e88, zupd_row q1, e80, zupd_row q3, e65, zupd_row q2, r1 q q4]
        have g1b : ∀ m b, zbt (σ88 (a + 1) m) b ↔ zbt (σ (a + 1) m) b ∨ ((m : Int) = n ∧ zbt c b) := fun m b => by
          rw [g1]
          split
          · rename_i h; subst h
            rw [zbt_or, hfb]
            constructor
            · rintro (h | h)
              · exact Or.inl h
              · exact Or.inr ⟨by omega, h.1⟩
            · rintro (h | h)
              · exact Or.inl h
              · by_cases hb : zbt (σ (a + 1) n.toNat) b
                · exact Or.inl hb
                · exact Or.inr ⟨h.2, hb⟩
          · rename_i h
            exact ⟨Or.inl, fun q => q.elim id (fun q => absurd q.1 (by omega))⟩
        have g1r : ∀ m, 0 ≤ σ88 (a + 1) m ∧ σ88 (a + 1) m < 8 := fun m => by
          rw [g1]; split
          · exact ⟨zor_nn _ _, zor_lt 3 (l2 _).2 hf8.2⟩
          · exact l2 m
        refine hX σ88 ⟨by rw [g0]; omega, g1r, fun j => ?_, fun j hj => ?_, fun m b hb => ?_, ?_, by rw [g0' 6 (by decide)]; exact l7, by rw [g0' 7 (by decide)]; exact l8⟩ ⟨gq, g0', by rw [g0]; omega, fun j hj => ?_, g1b, fun m h => by rw [g4, r2 m h], fun m h h2 => ?_, fun j hj1 hj2 b hb => ?_⟩
        · rw [g3]; split
          · omega
          · exact l3 j
        · rw [g0] at hj
          rw [g3]
          split
          · rw [show (n * 8 + f) % 8 = f by omega, show (n * 8 + f) / 8 = n by omega]
            refine ⟨h0, fun b hb => (g1b _ _).mpr (Or.inr ⟨by omega, ((hfb b).mp hb).1⟩)⟩
          · obtain ⟨q1, q2⟩ := l4 j (by omega)
            exact ⟨q1, fun b hb => (g1b _ _).mpr (Or.inl (q2 b hb))⟩
        · by_cases ho : zbt (σ (a + 1) m) b
          · obtain ⟨j, j1, j2, j3⟩ := l5 m b ho
            refine ⟨j, by rw [g0]; omega, ?_⟩
            rw [g3, if_neg (by omega)]
            exact ⟨j2, j3⟩
          · rcases (g1b m b).mp hb with q | ⟨q1, q2⟩
            · exact absurd q ho
            · refine ⟨(σ a 3).toNat, by rw [g0]; omega, ?_⟩
              rw [g3, if_pos rfl, show (n * 8 + f) % 8 = f by omega, show (n * 8 + f) / 8 = n by omega]
              refine ⟨by omega, (hfb b).mpr ⟨q2, ?_⟩⟩
              rwa [show n.toNat = m by omega]
        · rw [g0, zpc_upd (f := σ (a + 1)) (g := σ88 (a + 1)) (m := n.toNat) (fun k hk => by rw [g1, if_neg hk]), if_pos (by omega), g1, if_pos rfl]
          have := zp3_or' (l2 n.toNat) hf8 h0 (fun b hb q => ((hfb b).mp q).2 hb)
          omega
        · rw [g3, if_neg (by omega)]
        · have hm : m = n.toNat := by
            apply Classical.byContradiction
            intro q
            rw [g1, if_neg q] at h2
            exact h2 h
          subst hm
          rw [g4, r4 h]
        · rw [g0] at hj2
          have hje : j = (σ a 3).toNat := by omega
          rw [g3, if_pos hje, show (n * 8 + f) % 8 = f by omega] at hb
          rw [g3, if_pos hje, show (n * 8 + f) / 8 = n by omega]
          obtain ⟨q1, q2⟩ := (hfb b).mp hb
          exact ⟨⟨by omega, q1⟩, q2⟩
      refine ⟨by omega, by have := l2 n.toNat; omega, fun h => h55 σ (fun _ _ => rfl) (fun _ _ => rfl) (fun _ _ => rfl) (fun q => absurd q h), fun h => ⟨by omega, ?_⟩⟩
      rintro σ54 e54
      refine h55 σ54 (fun q hq => by rw [e54, zupd_row hq]) (fun m hm => ?_) (fun m hm => by rw [e54, zupd_nk hm]) (fun _ => by rw [e54, zupd_same])
      have : m ≠ n.toNat := fun q => hm (q ▸ h)
      rw [e54, zupd_nk this]
    · exfalso
      obtain ⟨b, hb⟩ := (zbt_ne0 hf8.1).mp h0
      rcases hf with ⟨-, q⟩ | ⟨hn0, hfe⟩
      · exact h0 q
      · rw [hfe, zbt_dif (by omega)] at hb
        have := zpc_lt (f := σ (a + 1)) l2 (m := n.toNat) (N := 576) (by omega) (zbt_lt8 hc.2 hb.1) hb.2
        omega
  refine ⟨by omega, fun h => ⟨by omega, ⟨hc.1, (l2 _).1⟩, h19 _ (Or.inr ⟨by omega, rfl⟩)⟩, fun h => h19 _ (Or.inl ⟨h, rfl⟩)⟩
