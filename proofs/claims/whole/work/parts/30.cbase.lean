/-! What is kept beside the board: D 0: mirrors turned, the state, how many settings, the tape's length, fault, its place, the image's length; D 1 wishes; D 2, D 3 settings; D 4 the tape; D 5 the image. V 20: names -/
def zDr (V D : zPH) : Prop := (0 ≤ D 0 0 ∧ D 0 0 < 2 ^ (V 0 3).toNat) ∧ (0 ≤ D 0 1 ∧ D 0 1 < 2 ^ (V 0 4).toNat) ∧ (0 ≤ D 0 2 ∧ D 0 2 ≤ 16) ∧ (0 ≤ D 0 3 ∧ D 0 3 ≤ 1600) ∧ (zI (D 0 4) ∧ zI (D 0 5)) ∧ (0 ≤ D 0 6 ∧ D 0 6 ≤ 14) ∧ (∀ e, 0 ≤ D 1 e ∧ D 1 e ≤ 2) ∧ (∀ j : Nat, (j : Int) < D 0 2 → (0 ≤ D 2 j ∧ D 2 j < 2 ^ (V 0 3).toNat) ∧ 0 ≤ D 3 j ∧ D 3 j < 2 ^ (V 0 4).toNat) ∧ (∀ j, 0 ≤ D 4 j ∧ D 4 j < 256)
def zDc (σ V D : zPH) : Prop := (σ 0 7 = D 0 0 ∧ σ 0 8 = D 0 1 ∧ σ 29 2 = D 0 2 ∧ σ 0 1 = D 0 3 ∧ σ 4 0 = D 0 4 ∧ σ 4 1 = D 0 5 ∧ σ 0 13 = D 0 6) ∧ ((0 ≤ σ 0 9 ∧ ∀ e : Nat, zbt (σ 0 9) e ↔ (e : Int) < V 0 5 ∧ D 1 e = 1) ∧ 0 ≤ σ 0 10 ∧ ∀ e : Nat, zbt (σ 0 10) e ↔ (e : Int) < V 0 5 ∧ D 1 e = 2) ∧ (∀ j : Nat, (j : Int) < D 0 2 → σ 30 j = D 2 j ∧ σ 31 j = D 3 j) ∧ (∀ j, σ 1 j = D 4 j) ∧ (∀ j : Nat, (j : Int) < D 0 6 → σ 3 j = D 5 j)
def zNc (σ : zPH) (t : Nat) (V : zPH) : Prop := ∀ e : Nat, (e : Int) < V 0 5 → σ (t + 10) e = V 20 e ∧ 0 ≤ V 20 e ∧ V 20 e < 387420489
/-- the class's object is the board V with D -/
def zCI (σ V D : zPH) (t u : Nat) : Prop := (zisT t ∧ zisT u ∧ t ≠ u ∧ σ 0 3 = ((t : Nat) : Int) ∧ σ 4 4 = ((u : Nat) : Int)) ∧ (zTV σ t V ∧ zT59 σ t ∧ zNc σ t V) ∧ zTs σ u ∧ (zLG σ 19 ∧ zLG σ 24) ∧ zDc σ V D
/-- a board and what is kept -/
def zBD (V D : zPH) : Prop := zVd V ∧ zVt V ∧ zDr V D
/-- nothing of the reference has changed -/
def zfB (σ σ' : zPH) : Prop := ∀ q, 58 ≤ q → σ' q = σ q
theorem zfB.rf {σ : zPH} : zfB σ σ := fun _ _ => rfl
theorem zfB.trans {σ σ1 σ2 : zPH} (h1 : zfB σ σ1) (h2 : zfB σ1 σ2) : zfB σ σ2 := fun q h => by rw [h2 q h, h1 q h]
theorem zCI.to {σ σ' V D : zPH} {t u : Nat} (h : zCI σ V D t u) (r : ∀ q, q ≠ 2 → (q < 14 ∨ 28 < q) → q < 58 → σ' q = σ q) (g1 : zLG σ' 19) (g2 : zLG σ' 24) : zCI σ' V D t u := by
  obtain ⟨⟨a1, a2, a3, a4, a5⟩, ⟨b1, b2, b3⟩, c, -, d⟩ := h
  have ht : t = 32 ∨ t = 45 := a1
  have hu : u = 32 ∨ u = 45 := a2
  have tb : ∀ q, t ≤ q → q ≤ t + 12 → σ' q = σ q := fun q h1 h2 => r q (by omega) (by omega) (by omega)
  refine ⟨⟨a1, a2, a3, by rw [r 0 (by decide) (by decide) (by decide)]; exact a4, by rw [r 4 (by decide) (by decide) (by decide)]; exact a5⟩, ⟨b1.to tb, ?_, ?_⟩, c.to (fun q h1 h2 => r q (by omega) (by omega) (by omega)), ⟨g1, g2⟩, ?_⟩
  · unfold zT59 at *; rw [tb _ (by omega) (by omega)]; exact b2
  · unfold zNc at *; rw [tb _ (by omega) (by omega)]; exact b3
  · unfold zDc at *
    rw [r 0 (by decide) (by decide) (by decide), r 29 (by decide) (by decide) (by decide), r 4 (by decide) (by decide) (by decide), r 30 (by decide) (by decide) (by decide), r 31 (by decide) (by decide) (by decide), r 1 (by decide) (by decide) (by decide), r 3 (by decide) (by decide) (by decide)]
    exact d
theorem zLG_to {σ σ' : zPH} {a : Nat} (h : zLG σ a) (r : ∀ q, a ≤ q → q ≤ a + 4 → σ' q = σ q) : zLG σ' a := by
  unfold zLG
  rw [r a (by omega) (by omega), r (a + 1) (by omega) (by omega), r (a + 3) (by omega) (by omega)]
  exact h
theorem zBD.r {V D : zPH} (h : zBD V D) : (0 ≤ D 0 0 ∧ D 0 0 < 256) ∧ 0 ≤ D 0 1 ∧ D 0 1 < 64 := by
  obtain ⟨hV, -, hD⟩ := h
  have h1 := hV.2.1
  have e1 := zpow_le (show (V 0 3).toNat ≤ 8 by omega)
  have e2 := zpow_le (show (V 0 4).toNat ≤ 6 by omega)
  rw [show (2 : Int) ^ 8 = 256 from rfl] at e1
  rw [show (2 : Int) ^ 6 = 64 from rfl] at e2
  have a := hD.1
  have b := hD.2.1
  omega
theorem zVd.cnt {V : zPH} (h : zVd V) (g : Nat) (hg : g < 4) : 0 ≤ V 0 (2 + g) ∧ V 0 (2 + g) ≤ 8 := by
  have := h.2.1
  rcases (show g = 0 ∨ g = 1 ∨ g = 2 ∨ g = 3 by omega) with rfl | rfl | rfl | rfl
  · exact ⟨this.1, this.2.1⟩
  · exact ⟨this.2.2.1, this.2.2.2.1⟩
  · exact ⟨this.2.2.2.2.1, by have := this.2.2.2.2.2.1; show V 0 4 ≤ 8; omega⟩
  · exact ⟨this.2.2.2.2.2.2.1, this.2.2.2.2.2.2.2⟩
theorem zTd.cnt {σ V : zPH} {t : Nat} (h : zTd σ t V) (g : Nat) (hg : g < 4) : σ (t + 8) g = V 0 (2 + g) := by
  obtain ⟨-, -, a, b, c, d, -⟩ := h
  rcases (show g = 0 ∨ g = 1 ∨ g = 2 ∨ g = 3 by omega) with rfl | rfl | rfl | rfl
  · exact a
  · exact b
  · exact c
  · exact d
section CB
variable {G : zG} {σ V D : zPH} {X : zX} {t u : Nat}
theorem s_B_isNumber (hB : zBD V D) (h : zCI σ V D t u) {n z : Int} {g : Nat} (hz : z = (g : Int)) (hg : g < 4) (hn : zI n) (h1 : 0 ≤ n → n < V 0 (2 + g) → X (some (iZ 1)) σ) (h0 : ¬ (0 ≤ n ∧ n < V 0 (2 + g)) → X (some (iZ 0)) σ) : MS G zm_B_isNumber 0 [zr G 0, iZ n, iZ z] σ X := by
  subst hz
  have e := zTd.cnt h.2.1.1.2.1 g hg
  have c := hB.1.cnt g hg
  refine k_B_isNumber h.1.1 ⟨hn, fun q => h0 (fun z => by omega), fun q => ⟨h.1.2.2.2.1, by omega, ?_⟩⟩
  rw [Int.toNat_natCast, e]
  exact ⟨⟨hn, by omega⟩, fun q2 => h0 (fun z => by omega), fun q2 => h1 q q2⟩
theorem s_B_allOf (hB : zBD V D) (h : zCI σ V D t u) {z : Int} {g : Nat} (hz : z = (g : Int)) (hg : g < 4) (hX : X (some (iZ (2 ^ (V 0 (2 + g)).toNat - 1))) σ) : MS G zm_B_allOf 0 [zr G 0, iZ z] σ X := by
  subst hz
  have e := zTd.cnt h.2.1.1.2.1 g hg
  have c := hB.1.cnt g hg
  refine k_B_allOf h.1.1 ⟨h.1.2.2.2.1, by omega, ?_⟩
  rw [Int.toNat_natCast, e, Int.one_mul]
  exact ⟨by omega, hX⟩
theorem s_B_stateCount (hB : zBD V D) (h : zCI σ V D t u) (hX : X (some (iZ (2 ^ (V 0 4).toNat))) σ) : MS G zm_B_stateCount 0 [zr G 0] σ X := by
  have e := zTd.cnt h.2.1.1.2.1 2 (by decide)
  have c := hB.1.cnt 2 (by decide)
  refine k_B_stateCount h.1.1 ⟨h.1.2.2.2.1, ?_⟩
  rw [e, Int.one_mul]
  exact ⟨by omega, hX⟩
theorem s_B_isState (hB : zBD V D) (h : zCI σ V D t u) {s : Int} (hs : zI s) (h1 : 0 ≤ s → s < 2 ^ (V 0 4).toNat → X (some (iZ 1)) σ) (h0 : ¬ (0 ≤ s ∧ s < 2 ^ (V 0 4).toNat) → X (some (iZ 0)) σ) : MS G zm_B_isState 1 [zr G 0, iZ s] σ X := by
  have hp := (zNx_r hB.1 (tu := 0) (st := 0)).2.2
  have hp0 := zpow_nn (V 0 4).toNat
  refine k_B_isState ⟨hs, fun q => h0 (fun z => by omega), fun q => s_B_stateCount hB h ⟨_, rfl, ⟨hs, by omega⟩, fun q2 => h0 (fun z => by omega), fun q2 => h1 q q2⟩⟩
theorem s_B_isOneColour {c : Int} (hc : zI c) (h1 : (c = 1 ∨ c = 2 ∨ c = 4) → X (some (iZ 1)) σ) (h0 : ¬ (c = 1 ∨ c = 2 ∨ c = 4) → X (some (iZ 0)) σ) : MS G zm_B_isOneColour 0 [iZ c] σ X :=
  k_B_isOneColour ⟨hc, fun q => h1 (by omega), fun q => ⟨hc, fun q2 => h1 (by omega), fun q2 => ⟨hc, fun q3 => h0 (by omega), fun q3 => h1 (by omega)⟩⟩⟩
/-- the light of some lamps in some colours -/
theorem s_B_lightOf (hB : zBD V D) (h : zCI σ V D t u) {la co : Int} (hla : 0 ≤ la ∧ la < 2147483648) (hco : 0 ≤ co ∧ co < 8) (hX : ∀ σ', zCI σ' V D t u → zfB σ σ' → zLi σ' 19 V (D 0 0) (D 0 1) la co → X (some (zr G 19)) σ') : MS G zm_B_lightOf 4 [zr G 0, iZ la, iZ co] σ X := by
  have hr := hB.r
  obtain ⟨d1, d2, -⟩ := h.2.2.2.2.1
  refine k_B_lightOf h.1.1 ⟨h.1.2.2.2.1, ?_⟩
  rw [d1, d2]
  refine s_shine_v (Or.inl rfl) h.1.1 h.2.2.2.1.1 hB.1 h.2.1.1 (by omega) (by omega) hla hco (fun σ' g F li => ⟨rfl, hX σ' (h.to (fun q h1 h2 h3 => F q (by omega) (by omega) (by omega) (by omega) (by omega)) g (zLG_to h.2.2.2.1.2 (fun q h1 h2 => F q (by omega) (by omega) (by omega) (by omega) (by omega)))) (fun q hq => F q (by omega) (by omega) (by omega) (by omega) (by omega)) li⟩)
theorem s_B_lightNow (hB : zBD V D) (h : zCI σ V D t u) (hX : ∀ σ', zCI σ' V D t u → zfB σ σ' → zLi σ' 19 V (D 0 0) (D 0 1) 255 7 → X (some (zr G 19)) σ') : MS G zm_B_lightNow 5 [zr G 0] σ X :=
  k_B_lightNow (s_B_lightOf hB h (by decide) (by decide) (fun σ' c f li => ⟨rfl, hX σ' c f li⟩))
theorem s_B_turned (h : zCI σ V D t u) (hX : X (some (iZ (D 0 0))) σ) : MS G zm_B_turned 0 [zr G 0] σ X := by
  refine k_B_turned ?_
  unfold w_B_turned
  rw [h.2.2.2.2.1.1]; exact hX
theorem s_B_state (h : zCI σ V D t u) (hX : X (some (iZ (D 0 1))) σ) : MS G zm_B_state 0 [zr G 0] σ X := by
  refine k_B_state ?_
  unfold w_B_state
  rw [h.2.2.2.2.1.2.1]; exact hX
def zHss (V : zPH) (w : Int) : Int := if 0 ≤ w ∧ w ≤ 6 then V 0 w.toNat else -1
theorem s_B_has (h : zCI σ V D t u) {w : Int} (hw : zI w) (hX : X (some (iZ (zHss V w))) σ) : MS G zm_B_has 0 [zr G 0, iZ w] σ X := by
  obtain ⟨a1, a2, a3, a4, a5, a6, a7⟩ := h.2.1.1.2.1
  have e := h.1.2.2.2.1
  unfold zHss at hX
  refine k_B_has h.1.1 ⟨hw, fun q => ⟨e, ?_⟩, fun q => ⟨e, ?_⟩, fun q => ⟨e, ?_⟩, fun q => ⟨e, ?_⟩, fun q => ⟨e, ?_⟩, fun q => ⟨e, ?_⟩, fun q => ⟨e, ?_⟩, fun q => ?_⟩
  · subst q; rw [a1]; exact hX
  · subst q; rw [a2]; exact hX
  · subst q; rw [a3]; exact hX
  · subst q; rw [a4]; exact hX
  · subst q; rw [a5]; exact hX
  · subst q; rw [a6]; exact hX
  · subst q; rw [a7]; exact hX
  · rw [if_neg (by omega)] at hX; exact hX
def zFau (D : zPH) (w : Int) : Int := if w = 0 then D 0 4 else if w = 1 then D 0 5 else -1
theorem s_B_fault (h : zCI σ V D t u) {w : Int} (hw : zI w) (hX : X (some (iZ (zFau D w))) σ) : MS G zm_B_fault 0 [zr G 0, iZ w] σ X := by
  obtain ⟨-, -, -, -, a, b, -⟩ := h.2.2.2.2.1
  unfold zFau at hX
  refine k_B_fault ⟨hw, fun q => ⟨hw, fun q2 => ?_, fun q2 => ?_⟩, fun q => ?_⟩
  · rw [if_neg q, if_neg q2] at hX; exact hX
  · rw [if_neg q, if_pos q2] at hX; rw [b]; exact hX
  · rw [if_pos q] at hX; rw [a]; exact hX
/-- what light() answers -/
def zLgt (V D : zPH) (c r w x : Int) : Prop := (zin_ V c r ∧ (0 ≤ w ∧ w < 4) ∧ x = zLv V (D 0 0) (D 0 1) 255 7 (4 * zqo c r + w.toNat)) ∨ (¬ (zin_ V c r ∧ 0 ≤ w ∧ w < 4) ∧ x = -1)
theorem s_B_light (hB : zBD V D) (h : zCI σ V D t u) {c r w : Int} (hc : zI c) (hr : zI r) (hw : zI w) (hX : ∀ σ' x, zLgt V D c r w x → zCI σ' V D t u → zfB σ σ' → X (some (iZ x)) σ') : MS G zm_B_light 6 [zr G 0, iZ c, iZ r, iZ w] σ X := by
  refine k_B_light h.1.1 ⟨h.1.2.2.2.1, ?_⟩
  refine s_T_squareAt h.1.1 hB.1 h.2.1.1.2.1 hc hr (fun hi => ?_) (fun hi => ⟨_, rfl, by decide, fun _ => hX σ _ (Or.inr ⟨fun q => hi q.1, rfl⟩) h zfB.rf, fun q => absurd rfl q⟩)
  obtain ⟨hv, he⟩ := zqo_va hB.1 hi
  have hlt := (zP_lt hB.1 hv).2
  refine ⟨_, rfl, by omega, fun q => by omega, fun _ => ⟨hw, fun q => hX σ _ (Or.inr ⟨fun z => by omega, rfl⟩) h zfB.rf, fun q => ⟨hw, fun q2 => ?_, fun q2 => hX σ _ (Or.inr ⟨fun z => by omega, rfl⟩) h zfB.rf⟩⟩⟩
  refine s_B_lightNow hB h (fun σ' c' f li => ⟨rfl, by omega, ?_⟩)
  have e : ((zP V (zqo c r) : Int) * 4 + w).toNat = zE V (4 * zqo c r + w.toNat) := by rw [zE_4 (by omega)]; omega
  rw [e, show (20 : Nat) = 19 + 1 from rfl, li.1 _ (by rw [show (4 * zqo c r + w.toNat) / 4 = zqo c r by omega]; exact hv)]
  exact hX σ' _ (Or.inl ⟨hi, ⟨q, q2⟩, rfl⟩) c' f
/-- how many of the first n -/
noncomputable def zcn (P : Nat → Prop) : Nat → Int
  | 0 => 0
  | n + 1 => zcn P n + zbI (P n)
theorem zcn_r (P : Nat → Prop) (n : Nat) : 0 ≤ zcn P n ∧ zcn P n ≤ n := by
  induction n with
  | zero => simp [zcn]
  | succ n ih => simp only [zcn]; have := zbI_01 (P n); omega
theorem zcn_cg {P Q : Nat → Prop} {n : Nat} (h : ∀ i, i < n → (P i ↔ Q i)) : zcn P n = zcn Q n := by
  induction n with
  | zero => rfl
  | succ n ih => simp only [zcn]; rw [ih (fun i hi => h i (by omega)), show P n = Q n from propext (h n (by omega))]
theorem zcn_add (P : Nat → Prop) (n m : Nat) : zcn P (n + m) = zcn P n + zcn (fun i => P (n + i)) m := by
  induction m with
  | zero => simp [zcn]
  | succ m ih => rw [← Nat.add_assoc]; simp only [zcn]; rw [ih]; omega
theorem zcn_sp (P : Nat → Prop) {n a b : Nat} (h : n = a + b) : zcn P n = zcn P a + zcn (fun i => P (a + i)) b := by rw [h, zcn_add]
theorem zcn_0 {P : Nat → Prop} {n : Nat} (h : ∀ i, i < n → ¬ P i) : zcn P n = 0 := by
  induction n with
  | zero => rfl
  | succ n ih => simp only [zcn]; rw [ih (fun i hi => h i (by omega)), zbI_f (h n (by omega))]; rfl
/-- the squares, counted by places or by twelve a row -/
theorem zcn_sq {V : zPH} (hV : zVd V) {P Q : Nat → Prop} (hPQ : ∀ q, zva V q → (Q (zP V q) ↔ P q)) : zcn Q (V 0 0 * V 0 1).toNat = zcn (fun q => zva V q ∧ P q) 144 := by
  obtain ⟨⟨a, b, c, d⟩, -⟩ := hV
  obtain ⟨x, hx⟩ := Int.eq_ofNat_of_zero_le a
  obtain ⟨y, hy⟩ := Int.eq_ofNat_of_zero_le c
  have hrow : ∀ r, r < y → zcn (fun i => zva V (12 * r + i) ∧ P (12 * r + i)) 12 = zcn (fun i => Q (r * x + i)) x := fun r hr => by
    rw [zcn_sp _ (a := x) (b := 12 - x) (by omega), zcn_0 (n := 12 - x), Int.add_zero]
    · refine zcn_cg (fun i hi => ?_)
      have hv : zva V (12 * r + i) := by unfold zva; omega
      have hp : zP V (12 * r + i) = r * x + i := by
        unfold zP
        rw [show (12 * r + i) / 12 = r by omega, show (12 * r + i) % 12 = i by omega, hx, Int.toNat_natCast]
      rw [← hp]
      exact ⟨fun z => (hPQ _ hv).mpr z.2, fun z => ⟨hv, (hPQ _ hv).mp z⟩⟩
    · intro i hi z
      have := z.1.1
      omega
  have hrows : ∀ r, r ≤ y → zcn (fun q => zva V q ∧ P q) (12 * r) = zcn Q (r * x) := by
    intro r
    induction r with
    | zero => intro _; simp [zcn]
    | succ r ih =>
      intro hr
      rw [zcn_sp _ (a := 12 * r) (b := 12) (by omega), zcn_sp Q (n := (r + 1) * x) (a := r * x) (b := x) (by rw [Nat.add_mul, Nat.one_mul]), ih (by omega), hrow r (by omega)]
  rw [hx, hy]
  have e4 : ((x : Int) * (y : Int)).toNat = y * x := by
    rw [show ((x : Int) * (y : Int)) = ((y * x : Nat) : Int) by rw [Nat.mul_comm y x]; push_cast; rfl, Int.toNat_natCast]
  rw [e4, ← hrows y (by omega)]
  rw [zcn_sp (fun q => zva V q ∧ P q) (n := 144) (a := 12 * y) (b := 144 - 12 * y) (by omega), zcn_0 (n := 144 - 12 * y), Int.add_zero]
  intro i hi z
  have := z.1.2
  omega
/-- what lit() answers -/
def zLtt (V D : zPH) (co x : Int) : Prop := ((co = 1 ∨ co = 2 ∨ co = 4 ∨ co = 7) ∧ x = zcn (fun q => zva V q ∧ zand (zSq V (D 0 0) (D 0 1) 255 7 q) co ≠ 0) 144) ∨ (¬ (co = 1 ∨ co = 2 ∨ co = 4 ∨ co = 7) ∧ x = -1)
theorem s_B_lit (hB : zBD V D) (h : zCI σ V D t u) {co : Int} (hc : zI co) (hX : ∀ σ' x, zLtt V D co x → zCI σ' V D t u → zfB σ σ' → X (some (iZ x)) σ') : MS G zm_B_lit 6 [zr G 0, iZ co] σ X := by
  refine k_B_lit h.1.1 ?_
  have key : (co = 1 ∨ co = 2 ∨ co = 4 ∨ co = 7) → b_B_lit_15 G t co X σ := fun hco => by
    refine s_B_lightNow hB h (fun σ1 c1 f1 li => ⟨rfl, ?_⟩)
    have hd := c1.2.1.1.2.1
    have hV1 := hB.1.1
    have hsq := zcn_sq hB.1 (P := fun q => zand (zSq V (D 0 0) (D 0 1) 255 7 q) co ≠ 0) (Q := fun p => zand (zci σ1 19 (p : Int)) co ≠ 0) (fun q hq => by rw [zci_v li.1 hq])
    have hN : 0 ≤ V 0 0 * V 0 1 := Int.mul_nonneg hV1.1 hV1.2.2.1
    have hN2 : V 0 0 * V 0 1 ≤ 144 := by
      have e1 := Int.mul_le_mul_of_nonneg_right hV1.2.1 hV1.2.2.1
      omega
    refine zLP2_ind (fun x3 x4 σ2 => σ2 = σ1 ∧ ∃ i : Nat, x4 = (i : Int) ∧ (i : Int) ≤ V 0 0 * V 0 1 ∧ x3 = zcn (fun p => zand (zci σ1 19 (p : Int)) co ≠ 0) i) (fun _ x4 _ => (144 - x4).toNat) ?_ ⟨rfl, 0, rfl, hN, rfl⟩
    rintro K x3 x4 σ2 ⟨rfl, i, rfl, hi, rfl⟩ hK
    refine ⟨c1.1.2.2.2.1, k_T_squareCount c1.1.1 ?_⟩
    unfold w_T_squareCount
    rw [hd.1, hd.2.1]
    refine ⟨_, rfl, by omega, fun hge => ?_, fun hlt => ?_⟩
    · refine hX σ2 _ (Or.inl ⟨hco, ?_⟩) c1 f1
      rw [← hsq, show i = (V 0 0 * V 0 1).toNat by omega]
    · refine s_L_comesInto (Or.inl rfl) c1.2.2.2.1.1.2.1 (by omega) ⟨_, rfl, ?_⟩
      have hz8 : 0 ≤ zci σ2 19 (i : Int) ∧ zci σ2 19 (i : Int) < 8 := by
        have q := c1.2.2.2.1.1.2.1
        unfold zci
        rw [if_neg (by omega)]
        exact ⟨zor_nn _ _, zor_lt 3 (zor_lt 3 (zor_lt 3 (q _).2 (q _).2) (q _).2) (q _).2⟩
      have h1 := zand_nn (zci σ2 19 (i : Int)) co
      have h2 := zand_le (y := co) hz8.1
      refine ⟨⟨hz8.1, by omega⟩, by omega, fun hz => hK _ _ _ ⟨rfl, i + 1, by omega, by omega, ?_⟩ (by omega), fun hz => hK _ _ _ ⟨rfl, i + 1, by omega, by omega, ?_⟩ (by omega)⟩
      · simp only [zcn]; rw [zbI_f (fun q => q hz)]; omega
      · simp only [zcn]; rw [zbI_t hz]
  refine ⟨hc, fun q => key (by omega), fun q => s_B_isOneColour hc (fun q2 => Or.inr ⟨rfl, key (by omega)⟩) (fun q2 => Or.inl ⟨rfl, hX σ _ (Or.inr ⟨by omega, rfl⟩) h zfB.rf⟩)⟩
/-- what sees() answers -/
def zSee (V D : zPH) (e x : Int) : Prop := ((0 ≤ e ∧ e < V 0 5) ∧ x = zSe V (D 0 0) (D 0 1) 255 7 e.toNat) ∨ (¬ (0 ≤ e ∧ e < V 0 5) ∧ x = -1)
theorem s_B_sees (hB : zBD V D) (h : zCI σ V D t u) {e : Int} (he : zI e) (hX : ∀ σ' x, zSee V D e x → zCI σ' V D t u → zfB σ σ' → X (some (iZ x)) σ') : MS G zm_B_sees 6 [zr G 0, iZ e] σ X := by
  refine k_B_sees ?_
  have c := hB.1.cnt 3 (by decide)
  refine s_B_isNumber hB h (g := 3) rfl (by decide) he (fun q1 q2 => Or.inr ⟨rfl, ?_⟩) (fun q => Or.inl ⟨rfl, hX σ _ (Or.inr ⟨q, rfl⟩) h zfB.rf⟩)
  have q3 : e < V 0 5 := q2
  have c3 : V 0 5 ≤ 8 := c.2
  refine s_B_lightNow hB h (fun σ' c' f li => ⟨rfl, by omega, ?_⟩)
  rw [show (21 : Nat) = 19 + 2 from rfl, li.2.2.1 e.toNat (by omega)]
  exact hX σ' _ (Or.inl ⟨⟨q1, q2⟩, rfl⟩) c' f
end CB
