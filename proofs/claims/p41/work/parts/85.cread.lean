/-! The class's reader: u its table -/
/-- in any case: tokens, where it stands, a table in bounds -/
def yRb (σ : zPH) (T : Nat → Int) (n u : Nat) : Prop := (∃ c at0 : Nat, zkv σ T n c ∧ σ 4 3 = (at0 : Int) ∧ at0 < c) ∧ σ 4 4 = ((u : Nat) : Int) ∧ zTs σ u ∧ (0 ≤ σ 4 8 ∧ σ 4 8 ≤ 160) ∧ (0 ≤ σ u 14 ∧ σ u 14 ≤ 533) ∧ (∀ e : Nat, (e : Int) < σ (u + 8) 3 → zI (σ (u + 10) e))
/-- the table under construction is W -/
def yRw (σ : zPH) (u : Nat) (W : zPH) : Prop := zTd σ u W ∧ zTn σ u W ∧ zTq σ u W ∧ zTm σ u W ∧ (σ u 14 = W 0 7 ∧ ∀ k : Nat, (k : Int) < W 0 7 → σ (u + 11) k = zpt W k ∧ W 11 k = 0) ∧ (∀ m : Nat, (m : Int) < W 0 4 → σ (u + 12) m = W 8 m) ∧ (∀ e : Nat, (e : Int) < W 0 5 → σ (u + 10) e = W 20 e) ∧ zT59 σ u ∧ ∀ q : Nat, zva W q → σ (u + 2) (zP W q) < W 0 6
/-- what is told of the sees: their count, rows 5, 6, 7 -/
abbrev ySn : Type := zPH → Int → (Nat → Int) → (Nat → Int) → (Nat → Int) → Prop
/-- the sees so far -/
def yRq : ySn := fun W c r5 r6 r7 => c = (ysn W (W 0 7).toNat : Int) ∧ ∀ k : Nat, (k : Int) < W 0 7 → W 9 k = 1 → r7 (ysn W k) = (k : Int) ∧ r5 (ysn W k) = W 13 k ∧ r6 (ysn W k) = W 14 k
/-- it reads, at p -/
def yRn (σ : zPH) (T : Nat → Int) (n u : Nat) (S : ySn) (W : zPH) (p : Nat) : Prop := yRb σ T n u ∧ (σ 4 0 = 0 ∧ σ 4 1 = -1) ∧ (zch T n (σ 4 3).toNat = p) ∧ yRw σ u W ∧ S W (σ 4 8) (σ 5) (σ 6) (σ 7) ∧ 0 ≤ W 0 7
/-- it has found a fault -/
def yRf (σ : zPH) (T : Nat → Int) (n u : Nat) (k pl : Int) : Prop := yRb σ T n u ∧ σ 4 0 = k ∧ σ 4 1 = pl ∧ 1 ≤ k ∧ k ≤ 6
/-- where f gives R, or R's fault -/
def yOc (σ : zPH) (T : Nat → Int) (n u : Nat) (S : ySn) (P : zPH → Nat → Prop) (f : zPH → Nat → zPR) (R : zPR) : Prop := (∃ W p, f W p = R ∧ P W p ∧ yRn σ T n u S W p) ∨ ∃ k pl, R = .inr (k, pl) ∧ yRf σ T n u k pl
/-- what the reader changes -/
def yfr (u : Nat) (σ σ' : zPH) : Prop := ∀ q, (q < 4 ∨ 12 < q) → (q < u ∨ u + 12 < q) → σ' q = σ q
theorem yfr.rf {u : Nat} {σ : zPH} : yfr u σ σ := fun _ _ _ => rfl
theorem yfr.trans {u : Nat} {σ σ1 σ2 : zPH} (h : yfr u σ σ1) (h2 : yfr u σ1 σ2) : yfr u σ σ2 := fun q a b => by rw [h2 q a b, h q a b]
theorem zkv.to {σ σ' : zPH} {T : Nat → Int} {n c : Nat} (h : zkv σ T n c) (r : ∀ q, 8 ≤ q → q ≤ 12 → σ' q = σ q) : zkv σ' T n c := by
  unfold zkv zke at *
  rw [r 8 (by omega) (by omega), r 9 (by omega) (by omega), r 10 (by omega) (by omega), r 11 (by omega) (by omega), r 12 (by omega) (by omega)]; exact h
section RD
variable {G : zG} {σ : zPH} {X : zX} {T : Nat → Int} {n u : Nat} {S : ySn}
theorem ztV_r (hT : ∀ k, 0 ≤ T k ∧ T k < 256) {p : Nat} (hp : p ≤ n) : zI (ztV T n p) := by
  have r := ztK_r T n p
  unfold ztV
  split
  · have := zow_r (zpkw T (ztS T n p) (ztE T n p - ztS T n p)); omega
  · split
    · rename_i h
      have := ztV_n hp h
      unfold ztV at this; rw [if_neg (by omega), if_pos h] at this
      omega
    · split
      · rename_i a b h
        have hc := (ztE_p hp (show ztK T n p ≠ 4 by omega)).2.2
        have hl : ¬ zleB (T (ztS T n p)) = true := fun y => by
          unfold ztK at h; rw [if_neg (by omega), if_pos y] at h
          split at h
          · omega
          · split at h
            · omega
            · split at h <;> omega
        have hd : zdiB (T (ztS T n p)) = true := by
          cases q : zdiB (T (ztS T n p)) with
          | true => rfl
          | false => unfold ztK at h; rw [if_neg (by omega), if_neg hl, q, if_neg (by decide)] at h; omega
        have hL : ztE T n p - ztS T n p ≤ 4 := by
          unfold ztK at h; rw [if_neg (by omega), if_neg hl, if_pos hd] at h
          split at h
          · omega
          · split at h <;> omega
        have hE : ztE T n p = zrE zdiB T n (ztS T n p) := by unfold ztE; rw [if_neg (by omega), if_neg hl, if_pos hd]
        have hr := (zrE_s (P := zdiB) (T := T) (n := n) (i := ztS T n p) (by omega)).2.1
        have := zpkd_r (T := T) (s := ztS T n p) (k := ztE T n p - ztS T n p) (fun j hj => zdiB_t.mp (hr _ (by omega) (by omega)))
        have h4 : (10 : Int) ^ (ztE T n p - ztS T n p) ≤ 10 ^ 4 := by exact_mod_cast Nat.pow_le_pow_right (n := 10) (by decide) hL
        have h44 : (10 : Int) ^ 4 = 10000 := by decide
        omega
      · split
        · have := hT (ztS T n p); omega
        · decide
/-- the token that is read next -/
theorem yRb.tk (hT : ∀ k, 0 ≤ T k ∧ T k < 256) (hn : n ≤ 1600) (h : yRb σ T n u) : ∃ at0 c : Nat, σ 4 3 = (at0 : Int) ∧ at0 < c ∧ zkv σ T n c ∧ (σ 4 3).toNat = at0 ∧ at0 < 1601 ∧ (σ 9 at0 = ztK T n (zch T n at0) ∧ σ 10 at0 = ztV T n (zch T n at0) ∧ σ 11 at0 = (ztS T n (zch T n at0) : Int) ∧ σ 12 at0 = (ztF T n (zch T n at0) : Int)) ∧ zch T n at0 ≤ n ∧ zI (σ 9 at0) ∧ zI (σ 10 at0) := by
  obtain ⟨⟨c, a, hk, ha, hlt⟩, -⟩ := h
  have e := hk.2.2.1 a hlt
  have hp := hk.2.2.2.2.2 a hlt
  refine ⟨a, c, ha, hlt, hk, by omega, by have := hk.2.1; omega, e, hp, ?_, ?_⟩
  · rw [e.1]; have := ztK_r T n (zch T n a); omega
  · rw [e.2.1]; exact ztV_r hT hp
theorem yRb.at (h : yRb σ T n u) {σ' : zPH} (r : ∀ q, q ≠ 4 → σ' q = σ q) (k : ∀ j, j ≠ 0 → j ≠ 1 → σ' 4 j = σ 4 j) (hu : 32 ≤ u) : yRb σ' T n u := by
  obtain ⟨⟨c, a, hk, ha, hlt⟩, h2, h3, h4, h5, h6⟩ := h
  refine ⟨⟨c, a, hk.to (fun q a b => r q (by omega)), by rw [k 3 (by decide) (by decide)]; exact ha, hlt⟩, by rw [k 4 (by decide) (by decide)]; exact h2, h3.to (fun q a b => r q (by omega)), by rw [k 8 (by decide) (by decide)]; exact h4, by rw [r u (by omega)]; exact h5, by rw [r (u + 8) (by omega), r (u + 10) (by omega)]; exact h6⟩
/-- a fault now -/
theorem s_R_refuse {k pl : Int} (hu : 32 ≤ u) (hb : yRb σ T n u) (h0 : σ 4 0 = 0) (hk : 1 ≤ k ∧ k ≤ 6) (hX : ∀ σ', yRf σ' T n u k pl → yfr u σ σ' → (∀ q, q ≠ 4 → σ' q = σ q) → X none σ') : MS G zm_R_refuse 0 [zr G 4, iZ k, iZ pl] σ X := by
  refine k_R_refuse ⟨by omega, fun z => absurd h0 z, fun _ => ?_⟩
  rintro σ1 e1 σ2 e2
  have r2 : ∀ q, q ≠ 4 → σ2 q = σ q := fun q a => by rw [e2, zupd_row a, e1, zupd_row a]
  exact hX σ2 ⟨hb.at r2 (fun j a b => by rw [e2, zupd_nk b, e1, zupd_nk a]) hu, by rw [e2, zupd_nk (by decide), e1, zupd_same], by rw [e2, zupd_same], hk⟩ (fun q a b => r2 q (by omega)) r2
theorem s_R_refuse' {k pl a b : Int} (h : yRf σ T n u a b) (hX : X none σ) : MS G zm_R_refuse 0 [zr G 4, iZ k, iZ pl] σ X :=
  k_R_refuse ⟨by have := h.2.1; have := h.2.2.2; omega, fun _ => hX, fun z => by have := h.2.1; have := h.2.2.2; omega⟩
theorem s_R_refuseToken (hT : ∀ k, 0 ≤ T k ∧ T k < 256) (hn : n ≤ 1600) (hu : 32 ≤ u) {W : zPH} {p : Nat} (h : yRn σ T n u S W p) (hX : ∀ σ', yRf σ' T n u 1 (ztF T n p) → yfr u σ σ' → X none σ') : MS G zm_R_refuseToken 1 [zr G 4] σ X := by
  obtain ⟨a, c, ha, hlt, hk, ht, h16, e, hp, i1, i2⟩ := h.1.tk hT hn
  refine k_R_refuseToken ⟨by omega, ?_⟩
  have hz := h.2.2.1
  rw [ht] at hz ⊢
  rw [e.2.2.2, hz]
  exact s_R_refuse hu h.1 h.2.1.1 (by decide) (fun σ' F f _ => ⟨rfl, hX σ' F f⟩)
theorem s_R_refuseToken' (hT : ∀ k, 0 ≤ T k ∧ T k < 256) (hn : n ≤ 1600) {a b : Int} (h : yRf σ T n u a b) (hX : X none σ) : MS G zm_R_refuseToken 1 [zr G 4] σ X := by
  obtain ⟨a, c, ha, hlt, hk, ht, h16, e, hp, i1, i2⟩ := h.1.tk hT hn
  exact k_R_refuseToken ⟨by omega, s_R_refuse' h ⟨rfl, hX⟩⟩
theorem s_R_advance {hT : ∀ k, 0 ≤ T k ∧ T k < 256} (hn : n ≤ 1600) (hu : 32 ≤ u) {W : zPH} {p : Nat} (h : yRn σ T n u S W p) (h4 : ztK T n p ≠ 4) (hX : ∀ σ', yRn σ' T n u S W (ztE T n p) → yfr u σ σ' → (∀ q, q ≠ 4 → σ' q = σ q) → X none σ') : MS G zm_R_advance 0 [zr G 4] σ X := by
  obtain ⟨hb, ⟨h0, h1⟩, hz, hw, hq, h07⟩ := h
  obtain ⟨⟨c, a, hk, ha, hlt⟩, b2, b3, b4, b5, b6⟩ := hb
  have ht : (σ 4 3).toNat = a := by omega
  rw [ht] at hz
  have hca : a + 1 < c := by
    by_cases y : a + 1 = c
    · exfalso; have := hk.2.2.2.2.1; rw [show c - 1 = a by omega, hz] at this; exact h4 this
    · omega
  have hc := hk.2.1
  refine k_R_advance ⟨by omega, fun z => absurd h0 z, fun _ => ⟨by rw [hk.1]; omega, fun z => by rw [hk.1] at z; omega, fun z => ?_⟩⟩
  rintro σ1 e1
  have r1 : ∀ q, q ≠ 4 → σ1 q = σ q := fun q y => by rw [e1, zupd_row y]
  have k1 : ∀ j, j ≠ 3 → σ1 4 j = σ 4 j := fun j y => by rw [e1, zupd_nk y]
  have v3 : σ1 4 3 = ((a + 1 : Nat) : Int) := by rw [e1, zupd_same, ha]; rfl
  refine hX σ1 ⟨⟨⟨c, a + 1, hk.to (fun q y1 y2 => r1 q (by omega)), v3, hca⟩, by rw [k1 4 (by decide)]; exact b2, b3.to (fun q y1 y2 => r1 q (by omega)), by rw [k1 8 (by decide)]; exact b4, by rw [r1 u (by omega)]; exact b5, by rw [r1 (u + 8) (by omega), r1 (u + 10) (by omega)]; exact b6⟩, ⟨by rw [k1 0 (by decide)]; exact h0, by rw [k1 1 (by decide)]; exact h1⟩, ?_, ?_, ?_, h07⟩ (fun q y1 y2 => r1 q (by omega)) r1
  · rw [v3, Int.toNat_natCast]; show ztE T n (zch T n a) = ztE T n p; rw [hz]
  · unfold yRw zTd zTn zTq zTm zT59 at *
    rw [r1 u (by omega), r1 (u + 1) (by omega), r1 (u + 2) (by omega), r1 (u + 3) (by omega), r1 (u + 4) (by omega), r1 (u + 5) (by omega), r1 (u + 6) (by omega), r1 (u + 7) (by omega), r1 (u + 8) (by omega), r1 (u + 9) (by omega), r1 (u + 10) (by omega), r1 (u + 11) (by omega), r1 (u + 12) (by omega)]
    exact hw
  · rw [k1 8 (by decide), r1 5 (by decide), r1 6 (by decide), r1 7 (by decide)]; exact hq
theorem s_R_advance' {a b : Int} (h : yRf σ T n u a b) (hX : X none σ) : MS G zm_R_advance 0 [zr G 4] σ X :=
  k_R_advance ⟨by have := h.2.1; have := h.2.2.2; omega, fun _ => hX, fun z => by have := h.2.1; have := h.2.2.2; omega⟩
theorem s_R_isWord (hT : ∀ k, 0 ≤ T k ∧ T k < 256) (hn : n ≤ 1600) {W : zPH} {p : Nat} {w : Int} (h : yRn σ T n u S W p) (hw : zI w) (h1 : yIs T n p 0 w → X (some (iZ 1)) σ) (h0 : ¬ yIs T n p 0 w → X (some (iZ 0)) σ) : MS G zm_R_isWord 0 [zr G 4, iZ w] σ X := by
  obtain ⟨a, c, ha, hlt, hk, ht, h16, e, hp, i1, i2⟩ := h.1.tk hT hn
  have hz := h.2.2.1
  have h00 := h.2.1.1
  rw [ht] at hz
  unfold yIs at h1 h0
  rw [hz] at e
  refine k_R_isWord ⟨by omega, fun z => absurd h00 z, fun _ => ⟨by omega, ?_⟩⟩
  rw [ht]
  exact ⟨i1, fun z => h0 (fun y => z (by rw [e.1]; exact y.1)), fun z => ⟨by omega, ⟨i2, hw⟩, fun y => h0 (fun v => y (by rw [e.2.1]; exact v.2)), fun y => h1 ⟨by rw [← e.1]; exact z, by rw [← e.2.1]; exact y⟩⟩⟩
theorem s_R_isWord' {a b w : Int} (h : yRf σ T n u a b) (hX : X (some (iZ 0)) σ) : MS G zm_R_isWord 0 [zr G 4, iZ w] σ X :=
  k_R_isWord ⟨by have := h.2.1; have := h.2.2.2; omega, fun _ => hX, fun z => by have := h.2.1; have := h.2.2.2; omega⟩
theorem s_R_isSign (hT : ∀ k, 0 ≤ T k ∧ T k < 256) (hn : n ≤ 1600) {W : zPH} {p : Nat} {w : Int} (h : yRn σ T n u S W p) (hw : zI w) (h1 : yIs T n p 3 w → X (some (iZ 1)) σ) (h0 : ¬ yIs T n p 3 w → X (some (iZ 0)) σ) : MS G zm_R_isSign 0 [zr G 4, iZ w] σ X := by
  obtain ⟨a, c, ha, hlt, hk, ht, h16, e, hp, i1, i2⟩ := h.1.tk hT hn
  have hz := h.2.2.1
  have h00 := h.2.1.1
  rw [ht] at hz
  unfold yIs at h1 h0
  rw [hz] at e
  refine k_R_isSign ⟨by omega, fun z => absurd h00 z, fun _ => ⟨by omega, ?_⟩⟩
  rw [ht]
  exact ⟨i1, fun z => h0 (fun y => z (by rw [e.1]; exact y.1)), fun z => ⟨by omega, ⟨i2, hw⟩, fun y => h0 (fun v => y (by rw [e.2.1]; exact v.2)), fun y => h1 ⟨by rw [← e.1]; exact z, by rw [← e.2.1]; exact y⟩⟩⟩
theorem s_R_isSign' {a b w : Int} (h : yRf σ T n u a b) (hX : X (some (iZ 0)) σ) : MS G zm_R_isSign 0 [zr G 4, iZ w] σ X :=
  k_R_isSign ⟨by have := h.2.1; have := h.2.2.2; omega, fun _ => hX, fun z => by have := h.2.1; have := h.2.2.2; omega⟩
variable {P : zPH → Nat → Prop} {R : zPR}
theorem s_R_expectO (hT : ∀ k, 0 ≤ T k ∧ T k < 256) (hn : n ≤ 1600) (hu : 32 ≤ u) {w : Int} (hw : zI w) (Q : zPH → Nat → Prop) (f : zPH → Nat → zPR) (h : yOc σ T n u S P (fun W p => ybn (yEx T n 0 w W p) f) R) (hPQ : ∀ W p, P W p → yIs T n p 0 w → Q W (ztE T n p)) (hX : ∀ σ', yOc σ' T n u S Q f R → yfr u σ σ' → X none σ') : MS G zm_R_expect 2 [zr G 4, iZ w] σ X := by
  obtain ⟨W, p, e, hP, h⟩ | ⟨k, pl, e, h⟩ := h
  · dsimp only at e
    refine k_R_expect (s_R_isWord hT hn h hw (fun q => Or.inr ⟨rfl, ?_⟩) (fun q => Or.inl ⟨rfl, ?_⟩))
    · refine s_R_advance (hT := hT) hn hu h (by have := q.1; omega) (fun σ1 h1 f1 _ => ⟨rfl, hX σ1 (Or.inl ⟨W, _, ?_, hPQ W p hP q, h1⟩) f1⟩)
      rw [yEx_y q] at e; exact e
    · refine s_R_refuseToken hT hn hu h (fun σ1 h1 f1 => ⟨rfl, hX σ1 (Or.inr ⟨1, _, ?_, h1⟩) f1⟩)
      rw [yEx_n q] at e; exact e.symm
  · exact k_R_expect (s_R_isWord' h (Or.inl ⟨rfl, s_R_refuseToken' hT hn h ⟨rfl, hX σ (Or.inr ⟨k, pl, e, h⟩) yfr.rf⟩⟩))
theorem s_R_expectSignO (hT : ∀ k, 0 ≤ T k ∧ T k < 256) (hn : n ≤ 1600) (hu : 32 ≤ u) {w : Int} (hw : zI w) (Q : zPH → Nat → Prop) (f : zPH → Nat → zPR) (h : yOc σ T n u S P (fun W p => ybn (yEx T n 3 w W p) f) R) (hPQ : ∀ W p, P W p → yIs T n p 3 w → Q W (ztE T n p)) (hX : ∀ σ', yOc σ' T n u S Q f R → yfr u σ σ' → X none σ') : MS G zm_R_expectSign 2 [zr G 4, iZ w] σ X := by
  obtain ⟨W, p, e, hP, h⟩ | ⟨k, pl, e, h⟩ := h
  · dsimp only at e
    refine k_R_expectSign (s_R_isSign hT hn h hw (fun q => Or.inr ⟨rfl, ?_⟩) (fun q => Or.inl ⟨rfl, ?_⟩))
    · refine s_R_advance (hT := hT) hn hu h (by have := q.1; omega) (fun σ1 h1 f1 _ => ⟨rfl, hX σ1 (Or.inl ⟨W, _, ?_, hPQ W p hP q, h1⟩) f1⟩)
      rw [yEx_y q] at e; exact e
    · refine s_R_refuseToken hT hn hu h (fun σ1 h1 f1 => ⟨rfl, hX σ1 (Or.inr ⟨1, _, ?_, h1⟩) f1⟩)
      rw [yEx_n q] at e; exact e.symm
  · exact k_R_expectSign (s_R_isSign' h (Or.inl ⟨rfl, s_R_refuseToken' hT hn h ⟨rfl, hX σ (Or.inr ⟨k, pl, e, h⟩) yfr.rf⟩⟩))
/-- one of some own words: how far from the first -/
theorem s_R_chooseO (hT : ∀ k, 0 ≤ T k ∧ T k < 256) (hn : n ≤ 1600) (hu : 32 ≤ u) {a b : Int} (hab : 0 ≤ a ∧ a ≤ 26 ∧ a ≤ b ∧ b ≤ 26) (Q : Int → zPH → Nat → Prop) (f : Int → zPH → Nat → zPR) (h : yOc σ T n u S P (yCh T n a b f) R) (hPQ : ∀ W p, P W p → ztK T n p = 0 → a ≤ ztV T n p → ztV T n p ≤ b → Q (ztV T n p - a) W (ztE T n p)) (hX : ∀ σ' x, 0 ≤ x → x ≤ b - a → yOc σ' T n u S (Q x) (f x) R → yfr u σ σ' → X (some (iZ x)) σ') : MS G zm_R_choose 1 [zr G 4, iZ a, iZ b] σ X := by
  have fault : ∀ (k pl : Int), R = .inr (k, pl) → yRf σ T n u k pl → MS G zm_R_choose 1 [zr G 4, iZ a, iZ b] σ X := fun k pl e h => by
    obtain ⟨at0, c, ha, hlt, hk, ht, h16, e4, hp, i1, i2⟩ := h.1.tk hT hn
    refine k_R_choose ⟨by omega, ?_⟩
    rw [ht]
    have b42 : b_R_choose_42 G a b X σ := ⟨by omega, s_R_refuse' h ⟨rfl, hX σ 0 (by decide) (by omega) (Or.inr ⟨k, pl, e, h⟩) yfr.rf⟩⟩
    have b31 : ∀ s0 : Int, zI s0 → b_R_choose_31 G a b X s0 σ := fun s0 hs => ⟨by omega, fun _ => b42, fun y => ⟨by omega, fun z => s_R_advance' h ⟨rfl, hX σ _ (by omega) (by omega) (Or.inr ⟨k, pl, e, h⟩) yfr.rf⟩, fun _ => b42⟩⟩
    exact ⟨i1, fun _ => b31 (-1) (by decide), fun _ => ⟨by omega, b31 _ i2⟩⟩
  obtain ⟨W, p, e, hP, h⟩ | ⟨k, pl, e, h⟩ := h
  · obtain ⟨at0, c, ha, hlt, hk, ht, h16, e4, hp, i1, i2⟩ := h.1.tk hT hn
    have hz := h.2.2.1
    rw [ht] at hz
    rw [hz] at e4 hp
    refine k_R_choose ⟨by omega, ?_⟩
    rw [ht]
    have b42 : ¬ (ztK T n p = 0 ∧ a ≤ ztV T n p ∧ ztV T n p ≤ b) → b_R_choose_42 G a b X σ := fun q => by
      refine ⟨by omega, ?_⟩
      rw [ht, e4.2.2.2]
      refine s_R_refuse hu h.1 h.2.1.1 (by decide) (fun σ1 h1 f1 _ => ⟨rfl, hX σ1 0 (by decide) (by omega) (Or.inr ⟨1, _, ?_, h1⟩) f1⟩)
      rw [← e, yCh_n q]; rfl
    refine ⟨i1, fun z => ⟨by omega, fun _ => b42 (fun y => z (by rw [e4.1]; exact y.1)), fun y => by omega⟩, fun z => ⟨by omega, ?_⟩⟩
    rw [e4.2.1] at i2 ⊢
    refine ⟨by omega, fun y => b42 (fun v => by omega), fun y => ⟨by omega, fun v => ?_, fun v => b42 (fun v2 => by omega)⟩⟩
    have hk0 : ztK T n p = 0 := by rw [← e4.1]; exact z
    refine s_R_advance (hT := hT) hn hu h (by omega) (fun σ1 h1 f1 _ => ⟨rfl, hX σ1 _ (by omega) (by omega) (Or.inl ⟨W, _, ?_, hPQ W p hP hk0 y v, h1⟩) f1⟩)
    rw [← e, yCh_y ⟨hk0, y, v⟩]
  · exact fault k pl e h
theorem s_R_colourOf {x : Int} (hx : 0 ≤ x ∧ x ≤ 3) (hX : X (some (iZ (yco x))) σ) : MS G zm_R_colourOf 0 [iZ x] σ X := by
  refine k_R_colourOf ⟨by omega, fun z => ⟨by omega, ?_⟩, fun z => ?_⟩
  · rw [show (1 : Int) * 2 ^ x.toNat = yco x by unfold yco; rw [if_neg z]; omega]; exact hX
  · rw [show (7 : Int) = yco x by unfold yco; rw [if_pos z]]; exact hX
end RD
