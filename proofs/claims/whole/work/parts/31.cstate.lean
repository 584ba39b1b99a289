/-- how many of eight bits -/
def zpp (x : Int) : Int := x % 2 + x / 2 % 2 + x / 4 % 2 + x / 8 % 2 + x / 16 % 2 + x / 32 % 2 + x / 64 % 2 + x / 128 % 2
theorem zpp_r (x : Int) : 0 ≤ zpp x ∧ zpp x ≤ 8 := by unfold zpp; omega
def zbc1 (i : Int) : Int := i - zand (i / 2) 1431655765
def zbc2 (x : Int) : Int := zand x 858993459 + zand (x / 4) 858993459
def zbc3 (x : Int) : Int := zand (x + x / 16) 252645135
theorem zbc_ok : ∀ i : Fin 256, 0 ≤ zbc1 ((i : Nat) : Int) ∧ zbc1 ((i : Nat) : Int) < 2147483648 ∧ zbc2 (zbc1 ((i : Nat) : Int)) < 2147483648 ∧ zbc3 (zbc2 (zbc1 ((i : Nat) : Int))) < 256 ∧ zbc3 (zbc2 (zbc1 ((i : Nat) : Int))) % 64 = zpp ((i : Nat) : Int) := by decide +kernel
theorem s_bitCount {G : zG} {σ : zPH} {X : zX} {i : Int} (hi : 0 ≤ i ∧ i < 256) (hX : X (some (iZ (zpp i))) σ) : MS G zm_JI_bitCount 0 [iZ i] σ X := by
  refine k_JI_bitCount ?_
  obtain ⟨c1, c2, c3, c4, c5⟩ := zbc_ok ⟨i.toNat, by omega⟩
  simp only [Int.toNat_of_nonneg hi.1] at c1 c2 c3 c4 c5
  have n2 : 0 ≤ zbc2 (zbc1 i) := by unfold zbc2; have := zand_nn (zbc1 i) 858993459; have := zand_nn (zbc1 i / 4) 858993459; omega
  have n3 : 0 ≤ zbc3 (zbc2 (zbc1 i)) := zand_nn _ _
  refine ⟨by omega, by omega, ?_⟩
  rintro x1 e1
  rw [show x1 = zbc1 i from e1]
  refine ⟨c1, ⟨c1, c2⟩, by omega, ?_⟩
  rintro x2 e2
  rw [show x2 = zbc2 (zbc1 i) from e2]
  refine ⟨⟨n2, c3⟩, by omega, ?_⟩
  rintro x3 e3
  rw [show x3 = zbc3 (zbc2 (zbc1 i)) from e3]
  refine ⟨by omega, ?_⟩
  rintro x4 e4
  refine ⟨by omega, ?_⟩
  rintro x5 e5
  rw [show x5 % 64 = zpp i by omega]
  exact hX
/-- the setting that is left is put down -/
def zpsh (D : zPH) : zPH := fun r k => if r = 0 ∧ k = 2 then (if D 0 2 = 16 then 16 else D 0 2 + 1) else if r = 2 then (if D 0 2 = 16 then (if k = 15 then D 0 0 else D 2 (k + 1)) else if (k : Int) = D 0 2 then D 0 0 else D 2 k) else if r = 3 then (if D 0 2 = 16 then (if k = 15 then D 0 1 else D 3 (k + 1)) else if (k : Int) = D 0 2 then D 0 1 else D 3 k) else D r k
theorem zpsh_0 {D : zPH} {k : Nat} (h : k ≠ 2) : zpsh D 0 k = D 0 k := by simp [zpsh, h]
theorem zpsh_r {D : zPH} {r : Nat} (h : r ≠ 0) (h2 : r ≠ 2) (h3 : r ≠ 3) : zpsh D r = D r := by funext k; simp [zpsh, h, h2, h3]
theorem zpsh_c (D : zPH) : zpsh D 0 2 = if D 0 2 = 16 then 16 else D 0 2 + 1 := by simp [zpsh]
theorem zpsh_2 (D : zPH) (k : Nat) : zpsh D 2 k = if D 0 2 = 16 then (if k = 15 then D 0 0 else D 2 (k + 1)) else if (k : Int) = D 0 2 then D 0 0 else D 2 k := by simp [zpsh]
theorem zpsh_3 (D : zPH) (k : Nat) : zpsh D 3 k = if D 0 2 = 16 then (if k = 15 then D 0 1 else D 3 (k + 1)) else if (k : Int) = D 0 2 then D 0 1 else D 3 k := by simp [zpsh]
/-- mirrors and state are others then -/
def zset (D : zPH) (a b : Int) : zPH := zupd (zupd D 0 0 a) 0 1 b
theorem zset_v (D : zPH) (a b : Int) : zset D a b 0 0 = a ∧ zset D a b 0 1 = b ∧ (∀ k, k ≠ 0 → k ≠ 1 → zset D a b 0 k = D 0 k) ∧ ∀ r, r ≠ 0 → zset D a b r = D r :=
  ⟨by unfold zset; rw [zupd_nk (by decide), zupd_same], by unfold zset; rw [zupd_same], fun k h1 h2 => by unfold zset; rw [zupd_nk h2, zupd_nk h1], fun r h => by unfold zset; rw [zupd_row h, zupd_row h]⟩
theorem zDr_psh {V D : zPH} (h : zDr V D) {a b : Int} (ha : 0 ≤ a ∧ a < 2 ^ (V 0 3).toNat) (hb : 0 ≤ b ∧ b < 2 ^ (V 0 4).toNat) : zDr V (zset (zpsh D) a b) := by
  obtain ⟨h1, h2, h3, h4, h5, h6, h7, h8, h9⟩ := h
  obtain ⟨s1, s2, s3, s4⟩ := zset_v (zpsh D) a b
  refine ⟨by rw [s1]; exact ha, by rw [s2]; exact hb, ?_, by rw [s3 3 (by decide) (by decide), zpsh_0 (by decide)]; exact h4, by rw [s3 4 (by decide) (by decide), s3 5 (by decide) (by decide), zpsh_0 (by decide), zpsh_0 (by decide)]; exact h5, by rw [s3 6 (by decide) (by decide), zpsh_0 (by decide)]; exact h6, by rw [s4 1 (by decide), zpsh_r (by decide) (by decide) (by decide)]; exact h7, fun j hj => ?_, by rw [s4 4 (by decide), zpsh_r (by decide) (by decide) (by decide)]; exact h9⟩
  · rw [s3 2 (by decide) (by decide), zpsh_c]; split <;> omega
  · rw [s3 2 (by decide) (by decide), zpsh_c] at hj
    rw [s4 2 (by decide), s4 3 (by decide), zpsh_2, zpsh_3]
    by_cases q : D 0 2 = 16
    · rw [if_pos q] at hj ⊢
      rw [if_pos q]
      by_cases q2 : j = 15
      · rw [if_pos q2, if_pos q2]; exact ⟨h1, h2⟩
      · rw [if_neg q2, if_neg q2]; exact h8 (j + 1) (by omega)
    · rw [if_neg q] at hj ⊢
      rw [if_neg q]
      by_cases q2 : (j : Int) = D 0 2
      · rw [if_pos q2, if_pos q2]; exact ⟨h1, h2⟩
      · rw [if_neg q2, if_neg q2]; exact h8 j (by omega)
theorem zCI_dyn {σ σ' V D D' : zPH} {t u : Nat} (h : zCI σ V D t u) (r : ∀ q, 4 < q → q < 29 → σ' q = σ q) (r2 : ∀ q, 32 ≤ q → q < 58 → σ' q = σ q) (e0 : σ' 0 3 = σ 0 3) (e4 : σ' 4 4 = σ 4 4) (hd : zDc σ' V D') : zCI σ' V D' t u := by
  obtain ⟨⟨a1, a2, a3, a4, a5⟩, ⟨b1, b2, b3⟩, c, ⟨g1, g2⟩, -⟩ := h
  have ht : t = 32 ∨ t = 45 := a1
  have hu : u = 32 ∨ u = 45 := a2
  have tb : ∀ q, t ≤ q → q ≤ t + 12 → σ' q = σ q := fun q h1 h2 => r2 q (by omega) (by omega)
  refine ⟨⟨a1, a2, a3, by rw [e0]; exact a4, by rw [e4]; exact a5⟩, ⟨b1.to tb, ?_, ?_⟩, c.to (fun q h1 h2 => r2 q (by omega) (by omega)), ⟨zLG_to g1 (fun q h1 h2 => r q (by omega) (by omega)), zLG_to g2 (fun q h1 h2 => r q (by omega) (by omega))⟩, hd⟩
  · unfold zT59 at *; rw [tb _ (by omega) (by omega)]; exact b2
  · unfold zNc at *; rw [tb _ (by omega) (by omega)]; exact b3
theorem s_S_add {G : zG} {σ V D : zPH} {X : zX} {t u : Nat} (hB : zBD V D) (h : zCI σ V D t u) (hX : ∀ σ', (∀ q, q ≠ 29 → q ≠ 30 → q ≠ 31 → σ' q = σ q) → σ' 29 2 = zpsh D 0 2 → (∀ j : Nat, (j : Int) < zpsh D 0 2 → σ' 30 j = zpsh D 2 j ∧ σ' 31 j = zpsh D 3 j) → X none σ') : MS G zm_S_add 6 [zr G 29, iZ (D 0 0), iZ (D 0 1)] σ X := by
  have h2 := hB.2.2.2.2.1
  have e2 : σ 29 2 = D 0 2 := h.2.2.2.2.1.2.2.1
  have ep := h.2.2.2.2.2.2.1
  refine k_S_add ?_
  have key : ∀ (σ1 : zPH) (n : Int), (∀ q, q ≠ 29 → q ≠ 30 → q ≠ 31 → σ1 q = σ q) → σ1 29 2 = n → 0 ≤ n → n < 16 → n + 1 = zpsh D 0 2 → (∀ j : Nat, (j : Int) < n → σ1 30 j = zpsh D 2 j ∧ σ1 31 j = zpsh D 3 j) → zpsh D 2 n.toNat = D 0 0 → zpsh D 3 n.toNat = D 0 1 → b_S_add_53 G (D 0 0) (D 0 1) X σ1 := by
    intro σ1 n r1 en n0 n16 hn hj hp2 hp3
    refine ⟨by omega, ?_⟩
    rintro σ62 e62
    have f62 : σ62 29 2 = n := by rw [e62, zupd_row (by decide), en]
    refine ⟨by omega, ?_⟩
    rintro σ72 e72 σ80 e80
    rw [f62] at e72
    rw [en] at e62
    have f72 : σ72 29 2 = n := by rw [e72, zupd_row (by decide), f62]
    refine hX σ80 (fun q q1 q2 q3 => by rw [e80, zupd_row q1, e72, zupd_row q3, e62, zupd_row q2, r1 q q1 q2 q3]) (by rw [e80, zupd_same, f72]; exact hn) (fun j hjn => ?_)
    have q30 : σ80 30 j = zupd σ1 30 n.toNat (D 0 0) 30 j := by rw [e80, zupd_row (by decide), e72, zupd_row (by decide), e62]
    have q31 : σ80 31 j = zupd σ62 31 n.toNat (D 0 1) 31 j := by rw [e80, zupd_row (by decide), e72]
    rw [q30, q31]
    by_cases q : j = n.toNat
    · subst q; rw [zupd_same, zupd_same, hp2, hp3]; exact ⟨rfl, rfl⟩
    · rw [zupd_nk q, zupd_nk q, e62, zupd_row (by decide)]; exact hj j (by omega)
  refine ⟨by omega, fun hne => key σ (D 0 2) (fun _ _ _ _ => rfl) e2 (by omega) (by omega) (by rw [zpsh_c, if_neg (by omega)]) (fun j hj => ?_) ?_ ?_, fun he => ?_⟩
  · rw [zpsh_2, zpsh_3, if_neg (by omega), if_neg (by omega), if_neg (by omega), if_neg (by omega)]; exact ep j hj
  · rw [zpsh_2, if_neg (by omega), if_pos (by omega)]
  · rw [zpsh_3, if_neg (by omega), if_pos (by omega)]
  · rintro σ16 e16
    have f16 : σ16 29 2 = 15 := by rw [e16, zupd_same]; omega
    rw [f16]
    refine ⟨by decide, ?_⟩
    rintro σ33 e33
    have f33 : σ33 29 2 = 15 := by rw [e33]; unfold zcpy1; rw [if_neg (by omega), f16]
    rw [f33]
    refine ⟨by decide, ?_⟩
    rintro σ50 e50
    have f50 : σ50 29 2 = 15 := by rw [e50]; unfold zcpy1; rw [if_neg (by omega), f33]
    refine key σ50 15 (fun q q1 q2 q3 => ?_) f50 (by decide) (by decide) (by rw [zpsh_c, if_pos (by omega)]; rfl) (fun j hj => ?_) ?_ ?_
    · funext k; rw [e50]; unfold zcpy1; rw [if_neg (by omega), e33]; unfold zcpy1; rw [if_neg (by omega), e16, zupd_row q1]
    · have h16 : D 0 2 = 16 := by omega
      have hj15 : ¬ j = 15 := by omega
      rw [zpsh_2, zpsh_3, if_pos h16, if_neg hj15, if_pos h16, if_neg hj15]
      have := ep (j + 1) (by omega)
      rw [← this.1, ← this.2, e50]
      unfold zcpy1
      rw [if_neg (by omega), if_pos ⟨rfl, hj⟩, e33]
      unfold zcpy1
      rw [if_pos ⟨rfl, hj⟩, if_neg (by omega), e16, zupd_row (by decide), zupd_row (by decide)]
      exact ⟨rfl, rfl⟩
    · rw [zpsh_2, if_pos (by omega), if_pos (by decide)]
    · rw [zpsh_3, if_pos (by omega), if_pos (by decide)]
/-- the class's own numbers, with one more setting -/
theorem zDc_psh {σ σ' V D : zPH} {a b : Int} (h : zDc σ V D) (r : ∀ q, q = 1 ∨ q = 3 ∨ q = 4 → σ' q = σ q) (r0 : ∀ k, k ≠ 7 → k ≠ 8 → σ' 0 k = σ 0 k) (ea : σ' 0 7 = a) (eb : σ' 0 8 = b) (hc : σ' 29 2 = zpsh D 0 2) (hp : ∀ j : Nat, (j : Int) < zpsh D 0 2 → σ' 30 j = zpsh D 2 j ∧ σ' 31 j = zpsh D 3 j) : zDc σ' V (zset (zpsh D) a b) := by
  obtain ⟨⟨d1, d2, d3, d4, d5, d6, d7⟩, hw, hpp, ht, hwr⟩ := h
  obtain ⟨s1, s2, s3, s4⟩ := zset_v (zpsh D) a b
  refine ⟨⟨by rw [s1]; exact ea, by rw [s2]; exact eb, by rw [s3 2 (by decide) (by decide)]; exact hc, by rw [s3 3 (by decide) (by decide), zpsh_0 (by decide), r0 1 (by decide) (by decide)]; exact d4, by rw [s3 4 (by decide) (by decide), zpsh_0 (by decide), r 4 (by omega)]; exact d5, by rw [s3 5 (by decide) (by decide), zpsh_0 (by decide), r 4 (by omega)]; exact d6, by rw [s3 6 (by decide) (by decide), zpsh_0 (by decide), r0 13 (by decide) (by decide)]; exact d7⟩, ?_, ?_, ?_, ?_⟩
  · rw [r0 9 (by decide) (by decide), r0 10 (by decide) (by decide), s4 1 (by decide), zpsh_r (by decide) (by decide) (by decide)]; exact hw
  · rw [s3 2 (by decide) (by decide), s4 2 (by decide), s4 3 (by decide)]; exact hp
  · rw [r 1 (by omega), s4 4 (by decide), zpsh_r (by decide) (by decide) (by decide)]; exact ht
  · rw [s3 6 (by decide) (by decide), zpsh_0 (by decide), r 3 (by omega), s4 5 (by decide), zpsh_r (by decide) (by decide) (by decide)]; exact hwr
/-- THE STATE becomes s -/
def zmv (D : zPH) (s : Int) : zPH := if s = D 0 1 then D else zset (zpsh D) (D 0 0) s
theorem zmv_D {V D : zPH} (hB : zBD V D) {s : Int} (hs : 0 ≤ s ∧ s < 2 ^ (V 0 4).toNat) : zBD V (zmv D s) := by
  unfold zmv; split
  · exact hB
  · exact ⟨hB.1, hB.2.1, zDr_psh hB.2.2 hB.2.2.1 hs⟩
theorem zmv_1 (D : zPH) (s : Int) : zmv D s 0 1 = s ∧ zmv D s 0 0 = D 0 0 := by
  unfold zmv; split
  · rename_i h; exact ⟨h.symm, rfl⟩
  · exact ⟨(zset_v _ _ _).2.1, (zset_v _ _ _).1⟩
section CS
variable {G : zG} {σ V D : zPH} {X : zX} {t u : Nat}
theorem s_B_moveTo (hB : zBD V D) (h : zCI σ V D t u) {s : Int} (hs : 0 ≤ s ∧ s < 2 ^ (V 0 4).toNat) (hX : ∀ σ', zCI σ' V (zmv D s) t u → zfB σ σ' → X none σ') : MS G zm_B_moveTo 7 [zr G 0, iZ s] σ X := by
  have hr := hB.r
  have h64 := (zNx_r hB.1 (tu := 0) (st := 0)).2.2
  obtain ⟨d1, d2, -⟩ := h.2.2.2.2.1
  refine k_B_moveTo ⟨by rw [d2]; omega, fun he => ?_, fun hne => ?_⟩
  · have : zmv D s = D := by unfold zmv; rw [if_pos (by omega)]
    rw [this] at hX
    exact hX σ h zfB.rf
  · rw [d1, d2]
    refine s_S_add hB h (fun σ1 r1 c1 p1 => ⟨rfl, ?_⟩)
    rintro σ25 e25
    have e : zmv D s = zset (zpsh D) (D 0 0) s := by unfold zmv; rw [if_neg (by omega)]
    rw [e] at hX
    have r25 : ∀ q, q ≠ 0 → q ≠ 29 → q ≠ 30 → q ≠ 31 → σ25 q = σ q := fun q q0 q1 q2 q3 => by rw [e25, zupd_row q0, r1 q q1 q2 q3]
    have r0 : ∀ k, k ≠ 8 → σ25 0 k = σ 0 k := fun k hk => by rw [e25, zupd_nk hk, r1 0 (by decide) (by decide) (by decide)]
    refine hX σ25 (zCI_dyn h (fun q q1 q2 => r25 q (by omega) (by omega) (by omega) (by omega)) (fun q q1 q2 => r25 q (by omega) (by omega) (by omega) (by omega)) (r0 3 (by decide)) (by rw [r25 4 (by decide) (by decide) (by decide) (by decide)]) (zDc_psh h.2.2.2.2 (fun q hq => r25 q (by omega) (by omega) (by omega) (by omega)) (fun k k1 k2 => r0 k k2) (by rw [r0 7 (by decide), d1]) (by rw [e25, zupd_same]) (by rw [e25, zupd_row (by decide)]; exact c1) (fun j hj => by rw [e25, zupd_row (by decide), zupd_row (by decide)]; exact p1 j hj))) (fun q hq => r25 q (by omega) (by omega) (by omega) (by omega))
/-- what turn() answers, what is kept then -/
def zTrn (V D : zPH) (m x : Int) (D' : zPH) : Prop := ((0 ≤ m ∧ m < V 0 3) ∧ D' = zset (zpsh D) (zxor (D 0 0) (2 ^ m.toNat)) (D 0 1) ∧ x = zpp (zxor (D 0 0) (2 ^ m.toNat))) ∨ (¬ (0 ≤ m ∧ m < V 0 3) ∧ D' = D ∧ x = -1)
theorem zxor_r {a : Int} {n m : Nat} (ha : 0 ≤ a ∧ a < 2 ^ n) (hm : m < n) : 0 ≤ zxor a (2 ^ m) ∧ zxor a (2 ^ m) < 2 ^ n := by
  have := zpow_lt hm
  refine ⟨zxor_nn _ _, ?_⟩
  rw [zpow_c] at ha this ⊢
  rw [zpow_c n] at this
  rw [zpow_c n]
  exact zxor_lt n ha.2 this
theorem zTrn_D {V D D' : zPH} {m x : Int} (hB : zBD V D) (h : zTrn V D m x D') : zBD V D' := by
  rcases h with ⟨h1, rfl, -⟩ | ⟨-, rfl, -⟩
  · exact ⟨hB.1, hB.2.1, zDr_psh hB.2.2 (zxor_r hB.2.2.1 (by omega)) hB.2.2.2.1⟩
  · exact hB
theorem s_B_turn (hB : zBD V D) (h : zCI σ V D t u) {m : Int} (hm : zI m) (hX : ∀ σ' x D', zTrn V D m x D' → zCI σ' V D' t u → zfB σ σ' → X (some (iZ x)) σ') : MS G zm_B_turn 7 [zr G 0, iZ m] σ X := by
  have hr := hB.r
  have hV3 := hB.1.2.1.2.2.2.1
  obtain ⟨d1, d2, -⟩ := h.2.2.2.2.1
  refine k_B_turn (s_B_isNumber hB h (g := 1) rfl (by decide) hm (fun q1 q2 => Or.inr ⟨rfl, ?_⟩) (fun q => Or.inl ⟨rfl, hX σ _ _ (Or.inr ⟨q, rfl, rfl⟩) h zfB.rf⟩))
  have q2' : m < V 0 3 := q2
  rw [d1, d2]
  refine s_S_add hB h (fun σ1 r1 c1 p1 => ⟨rfl, by omega, ?_⟩)
  have e0 : σ1 0 = σ 0 := r1 0 (by decide) (by decide) (by decide)
  rw [e0, d1, Int.one_mul]
  refine ⟨⟨hr.1.1, zpow_nn _⟩, ?_⟩
  rintro σ35 e35
  have hx := zxor_r hB.2.2.1 (show m.toNat < (V 0 3).toNat by omega)
  have h256 := zpow_le (show (V 0 3).toNat ≤ 8 by omega)
  rw [show (2 : Int) ^ 8 = 256 from rfl] at h256
  have r35 : ∀ q, q ≠ 0 → q ≠ 29 → q ≠ 30 → q ≠ 31 → σ35 q = σ q := fun q q0 q1 q2 q3 => by rw [e35, zupd_row q0, r1 q q1 q2 q3]
  have r0 : ∀ k, k ≠ 7 → σ35 0 k = σ 0 k := fun k hk => by rw [e35, zupd_nk hk, e0]
  have e7 : σ35 0 7 = zxor (D 0 0) (2 ^ m.toNat) := by rw [e35, zupd_same]
  rw [e7]
  refine s_bitCount (by omega) ⟨_, rfl, ?_⟩
  refine hX σ35 _ _ (Or.inl ⟨⟨q1, q2'⟩, rfl, rfl⟩) (zCI_dyn h (fun q q1 q2 => r35 q (by omega) (by omega) (by omega) (by omega)) (fun q q1 q2 => r35 q (by omega) (by omega) (by omega) (by omega)) (r0 3 (by decide)) (by rw [r35 4 (by decide) (by decide) (by decide) (by decide)]) (zDc_psh h.2.2.2.2 (fun q hq => r35 q (by omega) (by omega) (by omega) (by omega)) (fun k k1 k2 => r0 k k1) e7 (by rw [r0 8 (by decide), d2]) (by rw [e35, zupd_row (by decide)]; exact c1) (fun j hj => by rw [e35, zupd_row (by decide), zupd_row (by decide)]; exact p1 j hj))) (fun q hq => r35 q (by omega) (by omega) (by omega) (by omega))
/-- what set() answers -/
def zStt (V D : zPH) (s x : Int) (D' : zPH) : Prop := ((0 ≤ s ∧ s < 2 ^ (V 0 4).toNat) ∧ D' = zmv D s ∧ x = 1) ∨ (¬ (0 ≤ s ∧ s < 2 ^ (V 0 4).toNat) ∧ D' = D ∧ x = 0)
theorem zStt_D {V D D' : zPH} {s x : Int} (hB : zBD V D) (h : zStt V D s x D') : zBD V D' := by
  rcases h with ⟨h1, rfl, -⟩ | ⟨-, rfl, -⟩
  · exact zmv_D hB h1
  · exact hB
theorem s_B_set (hB : zBD V D) (h : zCI σ V D t u) {s : Int} (hs : zI s) (hX : ∀ σ' x D', zStt V D s x D' → zCI σ' V D' t u → zfB σ σ' → X (some (iZ x)) σ') : MS G zm_B_set 8 [zr G 0, iZ s] σ X :=
  k_B_set (s_B_isState hB h hs (fun q1 q2 => Or.inr ⟨rfl, s_B_moveTo hB h ⟨q1, q2⟩ (fun σ' c f => ⟨rfl, hX σ' _ _ (Or.inl ⟨⟨q1, q2⟩, rfl, rfl⟩) c f⟩)⟩) (fun q => Or.inl ⟨rfl, hX σ _ _ (Or.inr ⟨q, rfl, rfl⟩) h zfB.rf⟩))
theorem zOr_st {V D : zPH} (hB : zBD V D) : 0 ≤ D 0 1 ∧ D 0 1 < 2 ^ (V 0 4).toNat := hB.2.2.2.1
/-- what step() answers -/
def zStp (V D : zPH) (n x : Int) (D' : zPH) : Prop := ((0 ≤ n ∧ n ≤ 1000) ∧ D' = zmv D (zOr V (D 0 0) (D 0 1) n.toNat) ∧ x = zOr V (D 0 0) (D 0 1) n.toNat) ∨ (¬ (0 ≤ n ∧ n ≤ 1000) ∧ D' = D ∧ x = -1)
theorem zStp_D {V D D' : zPH} {s x : Int} (hB : zBD V D) (h : zStp V D s x D') : zBD V D' := by
  rcases h with ⟨h1, rfl, -⟩ | ⟨-, rfl, -⟩
  · have := zOr_r hB.1 (tu := D 0 0) (zOr_st hB) s.toNat
    exact zmv_D hB ⟨this.1, this.2.1⟩
  · exact hB
/-- the class with its memory of states empty -/
theorem s_forget (h : zCI σ V D t u) (hX : ∀ σ', zCI σ' V D t u → (∀ tu, zMm σ' V tu) → zfB σ σ' → X none σ') : MS G zm_C_forget 1 [zr G 14] σ X :=
  s_C_forget fun σ' r z => hX σ' (h.to (fun q q1 q2 _ => r q (by omega)) (zLG_to h.2.2.2.1.1 (fun q q1 q2 => r q (by omega))) (zLG_to h.2.2.2.1.2 (fun q q1 q2 => r q (by omega)))) (fun tu s hs => Or.inl (z s hs)) (fun q hq => r q (by omega))
theorem s_after (hB : zBD V D) (h : zCI σ V D t u) {tu s : Int} (htu : 0 ≤ tu ∧ tu < 2147483648) (hs : 0 ≤ s ∧ s < 64) (hM : zMm σ V tu) (hX : ∀ σ', zCI σ' V D t u → zMm σ' V tu → zfB σ σ' → X (some (iZ (zNx V tu s))) σ') : MS G zm_C_after 5 [zr G 14, zr G t, iZ tu, iZ s] σ X :=
  s_C_after h.1.1 h.2.2.2.1.1 hB.1 hB.2.1 h.2.1.1 htu hs hM fun σ' g M' F _ _ => hX σ' (h.to (fun q q1 q2 _ => F q (by omega) (by omega) (by omega)) g (zLG_to h.2.2.2.1.2 (fun q q1 q2 => F q (by omega) (by omega) (by omega)))) M' (fun q hq => F q (by omega) (by omega) (by omega))
theorem s_walk (hB : zBD V D) (h : zCI σ V D t u) {tu s : Int} (htu : 0 ≤ tu ∧ tu < 2147483648) (hs : 0 ≤ s ∧ s < 2 ^ (V 0 4).toNat) (hM : zMm σ V tu) (hX : ∀ σ', zCI σ' V D t u → zMm σ' V tu → zfB σ σ' → zWk σ' V tu s → X none σ') : MS G zm_C_walk 6 [zr G 14, zr G t, iZ tu, iZ s] σ X :=
  s_C_walk h.1.1 h.2.2.2.1.1 hB.1 hB.2.1 h.2.1.1 htu hs hM fun σ' g M' F w => hX σ' (h.to (fun q q1 q2 _ => F q (by omega)) g (zLG_to h.2.2.2.1.2 (fun q q1 q2 => F q (by omega)))) M' (fun q hq => F q (by omega)) w
theorem s_B_step (hB : zBD V D) (h : zCI σ V D t u) {n : Int} (hn : zI n) (hX : ∀ σ' x D', zStp V D n x D' → zCI σ' V D' t u → zfB σ σ' → X (some (iZ x)) σ') : MS G zm_B_step 8 [zr G 0, iZ n] σ X := by
  have hr := hB.r
  obtain ⟨d1, d2, -⟩ := h.2.2.2.2.1
  have hor := zOr_r hB.1 (tu := D 0 0) (zOr_st hB)
  refine k_B_step h.1.1 ⟨hn, fun q => hX σ _ _ (Or.inr ⟨by omega, rfl, rfl⟩) h zfB.rf, fun q => ⟨hn, fun q2 => ?_, fun q2 => hX σ _ _ (Or.inr ⟨by omega, rfl, rfl⟩) h zfB.rf⟩⟩
  refine s_forget h (fun σ1 c1 M1 f1 => ⟨rfl, ?_⟩)
  rintro x2 e2
  rw [c1.2.2.2.2.1.2.1] at e2
  refine zLP2_ind (fun x2 x3 σ2 => ∃ i : Nat, x3 = (i : Int) ∧ (i : Int) ≤ n ∧ x2 = zOr V (D 0 0) (D 0 1) i ∧ zCI σ2 V D t u ∧ zMm σ2 V (D 0 0) ∧ zfB σ σ2) (fun _ x3 _ => (n - x3).toNat) ?_ ⟨0, rfl, q, e2, c1, M1 _, f1⟩
  rintro K x2 x3 σ2 ⟨i, rfl, hi, rfl, c2, M2, f2⟩ hK
  have hoi := hor i
  refine ⟨by omega, fun hge => ?_, fun hlt => ⟨c2.1.2.2.2.1, ?_⟩⟩
  · have hie : i = n.toNat := by omega
    subst hie
    refine s_B_moveTo hB c2 ⟨hoi.1, hoi.2.1⟩ (fun σ' c f => ⟨rfl, ?_⟩)
    rw [c.2.2.2.2.1.2.1, (zmv_1 _ _).1]
    exact hX σ' _ _ (Or.inl ⟨⟨q, q2⟩, rfl, rfl⟩) c (f2.trans f)
  · rw [c2.2.2.2.2.1.1]
    refine s_after hB c2 (by omega) (by omega) M2 (fun σ' c M' f => ⟨_, rfl, ?_⟩)
    exact hK _ _ _ ⟨i + 1, by omega, by omega, rfl, c, M', f2.trans f⟩ (by omega)
/-- what round() answers -/
def zRnd (V D : zPH) (w x : Int) : Prop := (w = 0 ∧ x = ((zLd V (D 0 0) (D 0 1)).1 : Int)) ∨ (w = 1 ∧ x = ((zLd V (D 0 0) (D 0 1)).2 : Int) - ((zLd V (D 0 0) (D 0 1)).1 : Int)) ∨ (w = 2 ∧ x = zOr V (D 0 0) (D 0 1) (zLd V (D 0 0) (D 0 1)).1) ∨ (w = 3 ∧ zMn V (D 0 0) (D 0 1) x) ∨ ((w < 0 ∨ 3 < w) ∧ x = -1)
theorem s_B_round (hB : zBD V D) (h : zCI σ V D t u) {w : Int} (hw : zI w) (hX : ∀ σ' x, zRnd V D w x → zCI σ' V D t u → zfB σ σ' → X (some (iZ x)) σ') : MS G zm_B_round 7 [zr G 0, iZ w] σ X := by
  have hr := hB.r
  refine k_B_round h.1.1 (s_forget h (fun σ1 c1 M1 f1 => ⟨rfl, c1.1.2.2.2.1, ?_⟩))
  rw [c1.2.2.2.2.1.1, c1.2.2.2.2.1.2.1]
  refine s_walk hB c1 (by omega) (zOr_st hB) (M1 _) (fun σ2 c2 M2 f2 W => ⟨rfl, hw, fun q => ?_, fun q => ?_, fun q => ?_, fun q => ?_, fun q => hX σ2 _ (Or.inr (Or.inr (Or.inr (Or.inr ⟨q, rfl⟩)))) c2 (f1.trans f2)⟩)
  · obtain ⟨A, N, hq, hN, e5, e6, -⟩ := id W
    rw [e6, ← (zLd_of hq).1]
    exact hX σ2 _ (Or.inl ⟨q, rfl⟩) c2 (f1.trans f2)
  · exact s_C_roundLength W ⟨_, rfl, hX σ2 _ (Or.inr (Or.inl ⟨q, rfl⟩)) c2 (f1.trans f2)⟩
  · obtain ⟨A, N, hq, hN, e5, e6, hp, -⟩ := id W
    have := hq.1
    refine ⟨by omega, ?_⟩
    rw [e6, Int.toNat_natCast, (hp A hq.1).1]
    refine hX σ2 _ (Or.inr (Or.inr (Or.inl ⟨q, ?_⟩))) c2 (f1.trans f2)
    rw [(zLd_of hq).1]
  · exact s_C_leastOfRound hB.1 (zOr_st hB) W (fun r hr => ⟨_, rfl, hX σ2 _ (Or.inr (Or.inr (Or.inr (Or.inl ⟨q, hr⟩)))) c2 (f1.trans f2)⟩)
/-- what rests() answers -/
def zRes (V D : zPH) (k x : Int) : Prop := (∃ s : Nat, (s : Int) < 2 ^ (V 0 4).toNat ∧ zNx V (D 0 0) s = (s : Int) ∧ zcn (fun s => zNx V (D 0 0) s = (s : Int)) s = k ∧ x = (s : Int)) ∨ ((¬ ∃ s : Nat, (s : Int) < 2 ^ (V 0 4).toNat ∧ zNx V (D 0 0) s = (s : Int) ∧ zcn (fun s => zNx V (D 0 0) s = (s : Int)) s = k) ∧ x = if k = -1 then zcn (fun s => zNx V (D 0 0) s = (s : Int)) (2 ^ (V 0 4).toNat) else -1)
theorem s_B_rests (hB : zBD V D) (h : zCI σ V D t u) {k : Int} (hk : zI k) (hX : ∀ σ' x, zRes V D k x → zCI σ' V D t u → zfB σ σ' → X (some (iZ x)) σ') : MS G zm_B_rests 6 [zr G 0, iZ k] σ X := by
  have hr := hB.r
  have h64 := (zNx_r hB.1 (tu := 0) (st := 0)).2.2
  have hpc := zpow_c (V 0 4).toNat
  have hnn := zpow_nn (V 0 4).toNat
  refine k_B_rests h.1.1 (s_forget h (fun σ1 c1 M1 f1 => ⟨rfl, ?_⟩))
  refine zLP2_ind (fun x2 x3 σ2 => ∃ i : Nat, x3 = (i : Int) ∧ (i : Int) ≤ 2 ^ (V 0 4).toNat ∧ x2 = zcn (fun s => zNx V (D 0 0) s = (s : Int)) i ∧ (∀ s : Nat, s < i → ¬ (zNx V (D 0 0) s = (s : Int) ∧ zcn (fun s => zNx V (D 0 0) s = (s : Int)) s = k)) ∧ zCI σ2 V D t u ∧ zMm σ2 V (D 0 0) ∧ zfB σ σ2) (fun _ x3 _ => (64 - x3).toNat) ?_ ⟨0, rfl, hnn, rfl, fun s hs => by omega, c1, M1 _, f1⟩
  rintro K x2 x3 σ2 ⟨i, rfl, hi, rfl, hno, c2, M2, f2⟩ hK
  have hcr := zcn_r (fun s => zNx V (D 0 0) s = (s : Int)) i
  refine s_B_stateCount hB c2 ⟨_, rfl, by omega, fun hge => ?_, fun hlt => ⟨c2.1.2.2.2.1, ?_⟩⟩
  · have hie : i = 2 ^ (V 0 4).toNat := by omega
    have hnone : ¬ ∃ s : Nat, (s : Int) < 2 ^ (V 0 4).toNat ∧ zNx V (D 0 0) s = (s : Int) ∧ zcn (fun s => zNx V (D 0 0) s = (s : Int)) s = k := fun ⟨s, s1, s2⟩ => hno s (by omega) s2
    refine ⟨hk, fun q => hX σ2 _ (Or.inr ⟨hnone, by rw [if_neg q]⟩) c2 f2, fun q => hX σ2 _ (Or.inr ⟨hnone, by rw [if_pos q, hie]⟩) c2 f2⟩
  · rw [c2.2.2.2.2.1.1]
    refine s_after hB c2 (by omega) (by omega) M2 (fun σ' c M' f => ⟨_, rfl, ?_⟩)
    have hx := zNx_r hB.1 (tu := D 0 0) (st := (i : Int))
    refine ⟨by omega, fun q => ?_, fun q => ⟨by omega, fun q2 => ?_, fun q2 => ?_⟩⟩
    · refine hK _ _ _ ⟨i + 1, by omega, by omega, ?_, fun s hs => ?_, c, M', f2.trans f⟩ (by omega)
      · simp only [zcn]; rw [zbI_f q]; omega
      · rcases (show s < i ∨ s = i by omega) with q3 | rfl
        · exact hno s q3
        · exact fun z => q z.1
    · refine hK _ _ _ ⟨i + 1, by omega, by omega, ?_, fun s hs => ?_, c, M', f2.trans f⟩ (by omega)
      · simp only [zcn]; rw [zbI_t q]
      · rcases (show s < i ∨ s = i by omega) with q3 | rfl
        · exact hno s q3
        · exact fun z => q2 z.2
    · exact hX σ' _ (Or.inl ⟨i, hlt, q, q2, rfl⟩) c (f2.trans f)
theorem zRes_u {V D : zPH} {k x y : Int} (h : zRes V D k x) (h' : zRes V D k y) : x = y := by
  have mono : ∀ (P : Nat → Prop) (a b : Nat), a < b → P a → zcn P a < zcn P b := fun P a b hab hp => by
    rw [zcn_sp P (n := b) (a := a + 1) (b := b - (a + 1)) (by omega)]
    simp only [zcn]
    rw [zbI_t hp]
    have := (zcn_r (fun i => P (a + 1 + i)) (b - (a + 1))).1
    omega
  rcases h with ⟨s, s1, s2, s3, s4⟩ | ⟨s1, s2⟩ <;> rcases h' with ⟨s', s1', s2', s3', s4'⟩ | ⟨s1', s2'⟩
  · rcases Nat.lt_trichotomy s s' with q | q | q
    · have := mono (fun s => zNx V (D 0 0) s = (s : Int)) s s' q s2; omega
    · omega
    · have := mono (fun s => zNx V (D 0 0) s = (s : Int)) s' s q s2'; omega
  · exact absurd ⟨s, s1, s2, s3⟩ s1'
  · exact absurd ⟨s', s1', s2', s3'⟩ s1
  · rw [s2, s2']
/-- what drawn() answers -/
def zDrw (V D : zPH) (s x : Int) : Prop := ((0 ≤ s ∧ s < 2 ^ (V 0 4).toNat) ∧ x = zcn (fun f => ∃ j, (zLd V (D 0 0) (f : Int)).1 ≤ j ∧ j < (zLd V (D 0 0) (f : Int)).2 ∧ zOr V (D 0 0) (f : Int) j = s) (2 ^ (V 0 4).toNat)) ∨ (¬ (0 ≤ s ∧ s < 2 ^ (V 0 4).toNat) ∧ x = -1)
theorem s_B_drawn (hB : zBD V D) (h : zCI σ V D t u) {s : Int} (hs : zI s) (hX : ∀ σ' x, zDrw V D s x → zCI σ' V D t u → zfB σ σ' → X (some (iZ x)) σ') : MS G zm_B_drawn 7 [zr G 0, iZ s] σ X := by
  have hr := hB.r
  have h64 := (zNx_r hB.1 (tu := 0) (st := 0)).2.2
  have hpc := zpow_c (V 0 4).toNat
  have hnn := zpow_nn (V 0 4).toNat
  refine k_B_drawn h.1.1 (s_B_isState hB h hs (fun q1 q2 => Or.inr ⟨rfl, ?_⟩) (fun q => Or.inl ⟨rfl, hX σ _ (Or.inr ⟨q, rfl⟩) h zfB.rf⟩))
  refine s_forget h (fun σ1 c1 M1 f1 => ⟨rfl, ?_⟩)
  refine zLP2_ind (fun x2 x3 σ2 => ∃ i : Nat, x3 = (i : Int) ∧ (i : Int) ≤ 2 ^ (V 0 4).toNat ∧ x2 = zcn (fun f => ∃ j, (zLd V (D 0 0) (f : Int)).1 ≤ j ∧ j < (zLd V (D 0 0) (f : Int)).2 ∧ zOr V (D 0 0) (f : Int) j = s) i ∧ zCI σ2 V D t u ∧ zMm σ2 V (D 0 0) ∧ zfB σ σ2) (fun _ x3 _ => (64 - x3).toNat) ?_ ⟨0, rfl, hnn, rfl, c1, M1 _, f1⟩
  rintro K x2 x3 σ2 ⟨i, rfl, hi, rfl, c2, M2, f2⟩ hK
  refine s_B_stateCount hB c2 ⟨_, rfl, by omega, fun hge => ?_, fun hlt => ⟨c2.1.2.2.2.1, ?_⟩⟩
  · rw [show i = 2 ^ (V 0 4).toNat by omega]
    exact hX σ2 _ (Or.inl ⟨⟨q1, q2⟩, rfl⟩) c2 f2
  · rw [c2.2.2.2.2.1.1]
    refine s_walk hB c2 (by omega) ⟨by omega, hlt⟩ M2 (fun σ3 c3 M3 f3 W => ⟨rfl, ?_⟩)
    refine s_C_isInRound W (by omega) (fun q => Or.inr ⟨rfl, hK _ _ _ ⟨i + 1, by omega, by omega, ?_, c3, M3, f2.trans f3⟩ (by omega)⟩) (fun q => Or.inl ⟨rfl, hK _ _ _ ⟨i + 1, by omega, by omega, ?_, c3, M3, f2.trans f3⟩ (by omega)⟩)
    · simp only [zcn]; rw [zbI_t q]
    · simp only [zcn]; rw [zbI_f q]; omega
end CS
