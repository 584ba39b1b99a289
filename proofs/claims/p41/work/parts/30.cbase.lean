/-! What is kept beside the board: D 0: mirrors turned, the state, how many settings, the tape's length, fault, its place, the image's length; D 1 wishes; D 2, D 3 settings; D 4 the tape; D 5 the image. V 20: names -/
def zDr (V D : zPH) : Prop := (0 ≤ D 0 0 ∧ D 0 0 < 2 ^ (V 0 3).toNat) ∧ (0 ≤ D 0 1 ∧ D 0 1 < 2 ^ (V 0 4).toNat) ∧ (0 ≤ D 0 2 ∧ D 0 2 ≤ 16) ∧ (0 ≤ D 0 3 ∧ D 0 3 ≤ 1600) ∧ (zI (D 0 4) ∧ zI (D 0 5)) ∧ (0 ≤ D 0 6 ∧ D 0 6 ≤ 14) ∧ (∀ e, 0 ≤ D 1 e ∧ D 1 e ≤ 2) ∧ (∀ j : Nat, (j : Int) < D 0 2 → (0 ≤ D 2 j ∧ D 2 j < 2 ^ (V 0 3).toNat) ∧ 0 ≤ D 3 j ∧ D 3 j < 2 ^ (V 0 4).toNat) ∧ (∀ j, 0 ≤ D 4 j ∧ D 4 j < 256)
def zDc (σ V D : zPH) : Prop := (σ 0 7 = D 0 0 ∧ σ 0 8 = D 0 1 ∧ σ 29 2 = D 0 2 ∧ σ 0 1 = D 0 3 ∧ σ 4 0 = D 0 4 ∧ σ 4 1 = D 0 5 ∧ σ 0 13 = D 0 6) ∧ ((0 ≤ σ 0 9 ∧ ∀ e : Nat, zbt (σ 0 9) e ↔ (e : Int) < V 0 5 ∧ D 1 e = 1) ∧ 0 ≤ σ 0 10 ∧ ∀ e : Nat, zbt (σ 0 10) e ↔ (e : Int) < V 0 5 ∧ D 1 e = 2) ∧ (∀ j : Nat, (j : Int) < D 0 2 → σ 30 j = D 2 j ∧ σ 31 j = D 3 j) ∧ (∀ j, σ 1 j = D 4 j) ∧ (∀ j : Nat, (j : Int) < D 0 6 → σ 3 j = D 5 j)
def zNc (σ : zPH) (t : Nat) (V : zPH) : Prop := ∀ e : Nat, (e : Int) < V 0 5 → σ (t + 10) e = V 20 e ∧ 0 ≤ V 20 e ∧ V 20 e < 387420489
/-- the class's object is the board V with D -/
def zCI (σ V D : zPH) (t u : Nat) : Prop := (zisT t ∧ zisT u ∧ t ≠ u ∧ σ 0 3 = ((t : Nat) : Int) ∧ σ 4 4 = ((u : Nat) : Int)) ∧ (zTV σ t V ∧ zT59 σ t ∧ zNc σ t V) ∧ zTs σ u ∧ (zLG σ 19 ∧ zLG σ 24) ∧ zDc σ V D
/-- a board and what is kept -/
def zBD (V D : zPH) : Prop := zVd V ∧ zVt V ∧ zDr V D
/-- nothing of the reference has changed -/
def zfB (σ σ' : zPH) : Prop := ∀ q, 58 ≤ q → σ' q = σ q
theorem zfB.rf {σ : zPH} : zfB σ σ := fun _ _ => rfl
theorem zfB.trans {σ σ1 σ2 : zPH} (h1 : zfB σ σ1) (h2 : zfB σ1 σ2) : zfB σ σ2 := fun q h => by rw [h2 q h, h1 q h]
theorem zCI.to {σ σ' V D : zPH} {t u : Nat} (h : zCI σ V D t u) (r : ∀ q, q ≠ 2 → (q < 14 ∨ 28 < q) → q < 58 → σ' q = σ q) (g1 : zLG σ' 19) (g2 : zLG σ' 24) : zCI σ' V D t u := by
  obtain ⟨⟨a1, a2, a3, a4, a5⟩, ⟨b1, b2, b3⟩, c, -, d⟩ := h
  have ht : t = 32 ∨ t = 45 := a1
  have hu : u = 32 ∨ u = 45 := a2
  have tb : ∀ q, t ≤ q → q ≤ t + 12 → σ' q = σ q := fun q h1 h2 => r q (by omega) (by omega) (by omega)
  refine ⟨⟨a1, a2, a3, by rw [r 0 (by decide) (by decide) (by decide)]; exact a4, by rw [r 4 (by decide) (by decide) (by decide)]; exact a5⟩, ⟨b1.to tb, ?_, ?_⟩, c.to (fun q h1 h2 => r q (by omega) (by omega) (by omega)), ⟨g1, g2⟩, ?_⟩
  · unfold zT59 at *; rw [tb _ (by omega) (by omega)]; exact b2
  · unfold zNc at *; rw [tb _ (by omega) (by omega)]; exact b3
  · unfold zDc at *
    rw [r 0 (by decide) (by decide) (by decide), r 29 (by decide) (by decide) (by decide), r 4 (by decide) (by decide) (by decide), r 30 (by decide) (by decide) (by decide), r 31 (by decide) (by decide) (by decide), r 1 (by decide) (by decide) (by decide), r 3 (by decide) (by decide) (by decide)]
    exact d
theorem zLG_to {σ σ' : zPH} {a : Nat} (h : zLG σ a) (r : ∀ q, a ≤ q → q ≤ a + 4 → σ' q = σ q) : zLG σ' a := by
  unfold zLG
  rw [r a (by omega) (by omega), r (a + 1) (by omega) (by omega), r (a + 3) (by omega) (by omega)]
  exact h
theorem zBD.r {V D : zPH} (h : zBD V D) : (0 ≤ D 0 0 ∧ D 0 0 < 256) ∧ 0 ≤ D 0 1 ∧ D 0 1 < 64 := by
  obtain ⟨hV, -, hD⟩ := h
  have h1 := hV.2.1
  have e1 := zpow_le (show (V 0 3).toNat ≤ 8 by omega)
  have e2 := zpow_le (show (V 0 4).toNat ≤ 6 by omega)
  rw [show (2 : Int) ^ 8 = 256 from rfl] at e1
  rw [show (2 : Int) ^ 6 = 64 from rfl] at e2
  have a := hD.1
  have b := hD.2.1
  omega
theorem zVd.cnt {V : zPH} (h : zVd V) (g : Nat) (hg : g < 4) : 0 ≤ V 0 (2 + g) ∧ V 0 (2 + g) ≤ 8 := by
  have := h.2.1
  rcases (show g = 0 ∨ g = 1 ∨ g = 2 ∨ g = 3 by omega) with rfl | rfl | rfl | rfl
  · exact ⟨this.1, this.2.1⟩
  · exact ⟨this.2.2.1, this.2.2.2.1⟩
  · exact ⟨this.2.2.2.2.1, by have := this.2.2.2.2.2.1; show V 0 4 ≤ 8; omega⟩
  · exact ⟨this.2.2.2.2.2.2.1, this.2.2.2.2.2.2.2⟩
theorem zTd.cnt {σ V : zPH} {t : Nat} (h : zTd σ t V) (g : Nat) (hg : g < 4) : σ (t + 8) g = V 0 (2 + g) := by
  obtain ⟨-, -, a, b, c, d, -⟩ := h
  rcases (show g = 0 ∨ g = 1 ∨ g = 2 ∨ g = 3 by omega) with rfl | rfl | rfl | rfl
  · exact a
  · exact b
  · exact c
  · exact d
section CB
variable {G : zG} {σ V D : zPH} {X : zX} {t u : Nat}
theorem s_B_isNumber (hB : zBD V D) (h : zCI σ V D t u) {n z : Int} {g : Nat} (hz : z = (g : Int)) (hg : g < 4) (hn : zI n) (h1 : 0 ≤ n → n < V 0 (2 + g) → X (some (iZ 1)) σ) (h0 : ¬ (0 ≤ n ∧ n < V 0 (2 + g)) → X (some (iZ 0)) σ) : MS G zm_B_isNumber 0 [zr G 0, iZ n, iZ z] σ X := by
  subst hz
  have e := zTd.cnt h.2.1.1.2.1 g hg
  have c := hB.1.cnt g hg
  refine k_B_isNumber h.1.1 ⟨hn, fun q => h0 (fun z => by omega), fun q => ⟨h.1.2.2.2.1, by omega, ?_⟩⟩
  rw [Int.toNat_natCast, e]
  exact ⟨⟨hn, by omega⟩, fun q2 => h0 (fun z => by omega), fun q2 => h1 q q2⟩
/-- the light of some lamps in some colours -/
theorem s_B_lightOf (hB : zBD V D) (h : zCI σ V D t u) {la co : Int} (hla : 0 ≤ la ∧ la < 2147483648) (hco : 0 ≤ co ∧ co < 8) (hX : ∀ σ', zCI σ' V D t u → zfB σ σ' → zLi σ' 19 V (D 0 0) (D 0 1) la co → X (some (zr G 19)) σ') : MS G zm_B_lightOf 4 [zr G 0, iZ la, iZ co] σ X := by
  have hr := hB.r
  obtain ⟨d1, d2, -⟩ := h.2.2.2.2.1
  refine k_B_lightOf h.1.1 ⟨h.1.2.2.2.1, ?_⟩
  rw [d1, d2]
  refine s_shine_v (Or.inl rfl) h.1.1 h.2.2.2.1.1 hB.1 h.2.1.1 (by omega) (by omega) hla hco (fun σ' g F li => ⟨rfl, hX σ' (h.to (fun q h1 h2 h3 => F q (by omega) (by omega) (by omega) (by omega) (by omega)) g (zLG_to h.2.2.2.1.2 (fun q h1 h2 => F q (by omega) (by omega) (by omega) (by omega) (by omega)))) (fun q hq => F q (by omega) (by omega) (by omega) (by omega) (by omega)) li⟩)
theorem s_B_lightNow (hB : zBD V D) (h : zCI σ V D t u) (hX : ∀ σ', zCI σ' V D t u → zfB σ σ' → zLi σ' 19 V (D 0 0) (D 0 1) 255 7 → X (some (zr G 19)) σ') : MS G zm_B_lightNow 5 [zr G 0] σ X :=
  k_B_lightNow (s_B_lightOf hB h (by decide) (by decide) (fun σ' c f li => ⟨rfl, hX σ' c f li⟩))
def zHss (V : zPH) (w : Int) : Int := if 0 ≤ w ∧ w ≤ 6 then V 0 w.toNat else -1
theorem s_B_has (h : zCI σ V D t u) {w : Int} (hw : zI w) (hX : X (some (iZ (zHss V w))) σ) : MS G zm_B_has 0 [zr G 0, iZ w] σ X := by
  obtain ⟨a1, a2, a3, a4, a5, a6, a7⟩ := h.2.1.1.2.1
  have e := h.1.2.2.2.1
  unfold zHss at hX
  refine k_B_has h.1.1 ⟨hw, fun q => ⟨e, ?_⟩, fun q => ⟨e, ?_⟩, fun q => ⟨e, ?_⟩, fun q => ⟨e, ?_⟩, fun q => ⟨e, ?_⟩, fun q => ⟨e, ?_⟩, fun q => ⟨e, ?_⟩, fun q => ?_⟩
  · subst q; rw [a1]; exact hX
  · subst q; rw [a2]; exact hX
  · subst q; rw [a3]; exact hX
  · subst q; rw [a4]; exact hX
  · subst q; rw [a5]; exact hX
  · subst q; rw [a6]; exact hX
  · subst q; rw [a7]; exact hX
  · rw [if_neg (by omega)] at hX; exact hX
/-- what light() answers -/
def zLgt (V D : zPH) (c r w x : Int) : Prop := (zin_ V c r ∧ (0 ≤ w ∧ w < 4) ∧ x = zLv V (D 0 0) (D 0 1) 255 7 (4 * zqo c r + w.toNat)) ∨ (¬ (zin_ V c r ∧ 0 ≤ w ∧ w < 4) ∧ x = -1)
theorem s_B_light (hB : zBD V D) (h : zCI σ V D t u) {c r w : Int} (hc : zI c) (hr : zI r) (hw : zI w) (hX : ∀ σ' x, zLgt V D c r w x → zCI σ' V D t u → zfB σ σ' → X (some (iZ x)) σ') : MS G zm_B_light 6 [zr G 0, iZ c, iZ r, iZ w] σ X := by
  refine k_B_light h.1.1 ⟨h.1.2.2.2.1, ?_⟩
  refine s_T_squareAt h.1.1 hB.1 h.2.1.1.2.1 hc hr (fun hi => ?_) (fun hi => ⟨_, rfl, by decide, fun _ => hX σ _ (Or.inr ⟨fun q => hi q.1, rfl⟩) h zfB.rf, fun q => absurd rfl q⟩)
  obtain ⟨hv, he⟩ := zqo_va hB.1 hi
  have hlt := (zP_lt hB.1 hv).2
  refine ⟨_, rfl, by omega, fun q => by omega, fun _ => ⟨hw, fun q => hX σ _ (Or.inr ⟨fun z => by omega, rfl⟩) h zfB.rf, fun q => ⟨hw, fun q2 => ?_, fun q2 => hX σ _ (Or.inr ⟨fun z => by omega, rfl⟩) h zfB.rf⟩⟩⟩
  refine s_B_lightNow hB h (fun σ' c' f li => ⟨rfl, by omega, ?_⟩)
  have e : ((zP V (zqo c r) : Int) * 4 + w).toNat = zE V (4 * zqo c r + w.toNat) := by rw [zE_4 (by omega)]; omega
  rw [e, show (20 : Nat) = 19 + 1 from rfl, li.1 _ (by rw [show (4 * zqo c r + w.toNat) / 4 = zqo c r by omega]; exact hv)]
  exact hX σ' _ (Or.inl ⟨hi, ⟨q, q2⟩, rfl⟩) c' f
/-- what sees() answers -/
def zSee (V D : zPH) (e x : Int) : Prop := ((0 ≤ e ∧ e < V 0 5) ∧ x = zSe V (D 0 0) (D 0 1) 255 7 e.toNat) ∨ (¬ (0 ≤ e ∧ e < V 0 5) ∧ x = -1)
theorem s_B_sees (hB : zBD V D) (h : zCI σ V D t u) {e : Int} (he : zI e) (hX : ∀ σ' x, zSee V D e x → zCI σ' V D t u → zfB σ σ' → X (some (iZ x)) σ') : MS G zm_B_sees 6 [zr G 0, iZ e] σ X := by
  refine k_B_sees ?_
  have c := hB.1.cnt 3 (by decide)
  refine s_B_isNumber hB h (g := 3) rfl (by decide) he (fun q1 q2 => Or.inr ⟨rfl, ?_⟩) (fun q => Or.inl ⟨rfl, hX σ _ (Or.inr ⟨q, rfl⟩) h zfB.rf⟩)
  have q3 : e < V 0 5 := q2
  have c3 : V 0 5 ≤ 8 := c.2
  refine s_B_lightNow hB h (fun σ' c' f li => ⟨rfl, by omega, ?_⟩)
  rw [show (21 : Nat) = 19 + 2 from rfl, li.2.2.1 e.toNat (by omega)]
  exact hX σ' _ (Or.inl ⟨⟨q1, q2⟩, rfl⟩) c' f
end CB
