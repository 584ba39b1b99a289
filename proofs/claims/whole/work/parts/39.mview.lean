/-! The model's board, as V: bank s 58 13; 45 a square that is empty, 46, 47, 48 a piece more, 49, 50 two squares that change places, 51, 52 a glass of another colour -/
def zmF (σ : zPH) (q : Int) : Int := 144 * σ 58 13 + (if q = σ 58 49 then σ 58 50 else if q = σ 58 50 then σ 58 49 else q)
def zmS (σ : zPH) (q : Int) : Int := if q = σ 58 45 then 0 else if q = σ 58 46 then σ 58 47 else σ 67 (zmF σ q).toNat
def zmA (σ : zPH) : Prop := (σ 58 13 = 0 ∨ σ 58 13 = 1) ∧ (-1 ≤ σ 58 45 ∧ σ 58 45 < 144) ∧ (-1 ≤ σ 58 46 ∧ σ 58 46 < 144) ∧ (-1 ≤ σ 58 49 ∧ σ 58 49 < 144) ∧ (-1 ≤ σ 58 50 ∧ σ 58 50 < 144) ∧ (-1 ≤ σ 58 51 ∧ σ 58 51 < 144) ∧ (σ 58 49 = -1 ↔ σ 58 50 = -1)
def zmB (σ : zPH) (b : Nat) (V : zPH) : Prop := σ 60 b = V 0 0 ∧ σ 61 b = V 0 1 ∧ σ 62 b = V 0 6 ∧ σ 63 b = V 0 2 ∧ σ 64 b = V 0 3 ∧ σ 65 b = V 0 4 ∧ σ 66 b = V 0 5
def zmC (σ V : zPH) : Prop := ∀ q : Nat, q < 144 → (zva V q → zmS σ q = V 1 q) ∧ (¬ zva V q → zmS σ q ≠ 1 ∧ zI (zmS σ q))
def zmD (σ V : zPH) : Prop := ∀ q : Nat, zva V q → V 1 q ≠ 0 → V 1 q ≠ 5 → V 1 q ≠ 6 → V 1 q ≠ 7 → ((q : Int) = σ 58 46 ∧ V 3 q = σ 58 48 ∧ V 2 q = -1) ∨ ((q : Int) ≠ σ 58 46 ∧ (q : Int) = σ 58 51 ∧ V 1 q = 4 ∧ V 3 q = σ 58 52) ∨ ((q : Int) ≠ σ 58 46 ∧ (q : Int) ≠ σ 58 51 ∧ V 1 q = σ 67 (zmF σ q).toNat ∧ (V 1 q ≠ 8 → V 3 q = σ 69 (zmF σ q).toNat) ∧ (V 1 q ≠ 4 → V 2 q = σ 68 (zmF σ q).toNat ∧ 0 ≤ V 2 q))
def zmE (σ V : zPH) : Prop := ∀ q : Nat, zva V q → (q : Int) ≠ σ 58 46 → (V 1 q = 1 → σ 70 (zmF σ q).toNat = V 4 q) ∧ (V 1 q ≠ 0 → V 1 q ≠ 4 → V 1 q ≠ 5 → V 1 q ≠ 6 → σ 68 (zmF σ q).toNat = V 2 q)
def zmG (σ V : zPH) (b : Nat) : Prop := (∀ e : Nat, (e : Int) < V 0 5 → (0 ≤ σ 72 (8 * b + e) ∧ σ 72 (8 * b + e) < 144) ∧ ((zmF σ (σ 72 (8 * b + e)) - 144 * σ 58 13 = σ 58 45 ∧ V 5 e = -1) ∨ (zmF σ (σ 72 (8 * b + e)) - 144 * σ 58 13 ≠ σ 58 45 ∧ V 5 e = zmF σ (σ 72 (8 * b + e)) - 144 * σ 58 13 ∧ 0 ≤ V 5 e)))
def zmM (σ V : zPH) : Prop := (σ 58 45 ≠ -1 → zI (σ 67 (144 * σ 58 13 + σ 58 45).toNat) ∧ (8 ≤ σ 67 (144 * σ 58 13 + σ 58 45).toNat → 0 ≤ σ 68 (zmF σ (σ 58 45)).toNat ∧ σ 68 (zmF σ (σ 58 45)).toNat < V 0 4)) ∧ ∀ m : Nat, (m : Int) < V 0 4 → (V 6 m = -1 ↔ σ 58 45 ≠ -1 ∧ 8 ≤ σ 67 (144 * σ 58 13 + σ 58 45).toNat ∧ σ 68 (zmF σ (σ 58 45)).toNat = (m : Int))
def zmT (σ V : zPH) (b : Nat) : Prop := ∀ m : Nat, (m : Int) < V 0 4 → σ 73 (6 * b + m) = V 7 m ∧ σ 74 (6 * b + m) = V 8 m ∧ ∀ k : Nat, V 7 m ≤ (k : Int) → (k : Int) < V 8 m → σ 75 (1600 * b + k) = V 9 k ∧ (V 9 k = 1 → σ 76 (1600 * b + k) = V 10 k ∧ σ 77 (1600 * b + k) = V 11 k)
def zMV (σ V : zPH) : Prop := zmA σ ∧ zmB σ (σ 58 13).toNat V ∧ zmC σ V ∧ zmD σ V ∧ zmE σ V ∧ zmG σ V (σ 58 13).toNat ∧ zmM σ V ∧ zmT σ V (σ 58 13).toNat
theorem zMV.to {σ σ' V : zPH} (h : zMV σ V) (r : ∀ q, 60 ≤ q → q ≤ 77 → σ' q = σ q) (r0 : ∀ k, k = 13 ∨ (45 ≤ k ∧ k ≤ 52) → σ' 58 k = σ 58 k) : zMV σ' V := by
  unfold zMV zmA zmB zmC zmD zmE zmG zmM zmT zmS zmF at *
  rw [r0 13 (by omega), r0 45 (by omega), r0 46 (by omega), r0 47 (by omega), r0 48 (by omega), r0 49 (by omega), r0 50 (by omega), r0 51 (by omega), r0 52 (by omega), r 60 (by omega) (by omega), r 61 (by omega) (by omega), r 62 (by omega) (by omega), r 63 (by omega) (by omega), r 64 (by omega) (by omega), r 65 (by omega) (by omega), r 66 (by omega) (by omega), r 67 (by omega) (by omega), r 68 (by omega) (by omega), r 69 (by omega) (by omega), r 70 (by omega) (by omega), r 72 (by omega) (by omega), r 73 (by omega) (by omega), r 74 (by omega) (by omega), r 75 (by omega) (by omega), r 76 (by omega) (by omega), r 77 (by omega) (by omega)]
  exact h
/-- the board as it is kept, without a change -/
def zmBs (σ V : zPH) : Prop := (σ 58 13 = 0 ∨ σ 58 13 = 1) ∧ zmB σ (σ 58 13).toNat V ∧ (∀ q : Nat, q < 144 → (zva V q → σ 67 (144 * (σ 58 13).toNat + q) = V 1 q) ∧ (¬ zva V q → σ 67 (144 * (σ 58 13).toNat + q) ≠ 1 ∧ zI (σ 67 (144 * (σ 58 13).toNat + q)))) ∧ (∀ q : Nat, zva V q → (V 1 q ≠ 0 → V 1 q ≠ 5 → V 1 q ≠ 6 → V 1 q ≠ 7 → (V 1 q ≠ 8 → σ 69 (144 * (σ 58 13).toNat + q) = V 3 q) ∧ (V 1 q ≠ 4 → 0 ≤ V 2 q)) ∧ (V 1 q = 1 → σ 70 (144 * (σ 58 13).toNat + q) = V 4 q) ∧ (V 1 q ≠ 0 → V 1 q ≠ 4 → V 1 q ≠ 5 → V 1 q ≠ 6 → σ 68 (144 * (σ 58 13).toNat + q) = V 2 q)) ∧ (∀ e : Nat, (e : Int) < V 0 5 → (0 ≤ σ 72 (8 * (σ 58 13).toNat + e) ∧ σ 72 (8 * (σ 58 13).toNat + e) < 144) ∧ V 5 e = σ 72 (8 * (σ 58 13).toNat + e)) ∧ (∀ m : Nat, (m : Int) < V 0 4 → V 6 m ≠ -1) ∧ zmT σ V (σ 58 13).toNat
theorem zmBs.to {σ σ' V : zPH} (h : zmBs σ V) (r : ∀ q, 60 ≤ q → q ≤ 77 → σ' q = σ q) (r0 : σ' 58 13 = σ 58 13) : zmBs σ' V := by
  unfold zmBs zmB zmT at *
  rw [r0, r 60 (by omega) (by omega), r 61 (by omega) (by omega), r 62 (by omega) (by omega), r 63 (by omega) (by omega), r 64 (by omega) (by omega), r 65 (by omega) (by omega), r 66 (by omega) (by omega), r 67 (by omega) (by omega), r 68 (by omega) (by omega), r 69 (by omega) (by omega), r 70 (by omega) (by omega), r 72 (by omega) (by omega), r 73 (by omega) (by omega), r 74 (by omega) (by omega), r 75 (by omega) (by omega), r 76 (by omega) (by omega), r 77 (by omega) (by omega)]
  exact h
theorem zmF_r {σ : zPH} (h : zmA σ) {q : Int} (hq : 0 ≤ q ∧ q < 144) : 144 * σ 58 13 ≤ zmF σ q ∧ zmF σ q < 144 * σ 58 13 + 144 ∧ 0 ≤ zmF σ q ∧ zmF σ q < 288 := by
  obtain ⟨h0, h1, h2, h3, h4, h5, h6⟩ := h
  unfold zmF
  split
  · omega
  · split <;> omega
section MV
variable {G : zG} {σ V : zPH} {X : zX}
theorem s_M_is {a b c : Int} (ha : zI a) (hb : zI b) (hc : zI c) (h1 : b ≤ a → a ≤ c → X (some (iZ 1)) σ) (h0 : ¬ (b ≤ a ∧ a ≤ c) → X (some (iZ 0)) σ) : MS G zm_M_is 0 [iZ a, iZ b, iZ c] σ X :=
  k_M_is ⟨⟨ha, hb⟩, fun q => h0 (by omega), fun q => ⟨⟨ha, hc⟩, fun q2 => h0 (by omega), fun q2 => h1 q q2⟩⟩
theorem zMV.dim (h : zMV σ V) : σ 60 (σ 58 13).toNat = V 0 0 ∧ σ 61 (σ 58 13).toNat = V 0 1 ∧ σ 62 (σ 58 13).toNat = V 0 6 ∧ σ 63 (σ 58 13).toNat = V 0 2 ∧ σ 64 (σ 58 13).toNat = V 0 3 ∧ σ 65 (σ 58 13).toNat = V 0 4 ∧ σ 66 (σ 58 13).toNat = V 0 5 := h.2.1
theorem s_M_isSquare (hV : zVd V) (h : zMV σ V) {c r : Int} (hc : zI c) (hr : zI r) (h1 : zin_ V c r → X (some (iZ 1)) σ) (h0 : ¬ zin_ V c r → X (some (iZ 0)) σ) : MS G zm_M_isSquare 1 [zr G 58, iZ c, iZ r] σ X := by
  obtain ⟨e0, e1, -⟩ := h.2.1
  have hd := hV.1
  have hb := h.1.1
  unfold zin_ at h1 h0
  refine k_M_isSquare ⟨by omega, ?_⟩
  rw [e0]
  refine s_M_is hc (by decide) (by omega) (fun q1 q2 => Or.inr ⟨rfl, by omega, ?_⟩) (fun q => Or.inl ⟨rfl, h0 (by omega)⟩)
  rw [e1]
  exact s_M_is hr (by decide) (by omega) (fun q3 q4 => Or.inr ⟨rfl, h1 (by omega)⟩) (fun q => Or.inl ⟨rfl, h0 (by omega)⟩)
theorem s_M_from (h : zmA σ) {q : Int} (hq : zI q) (hX : X (some (iZ (zmF σ q))) σ) : MS G zm_M_from 0 [zr G 58, iZ q] σ X := by
  obtain ⟨h0, h1, h2, h3, h4, h5, h6⟩ := h
  unfold zmF at hX
  refine k_M_from ⟨by omega, fun q1 => ⟨by omega, fun q2 => ?_, fun q2 => ?_⟩, fun q1 => ?_⟩
  · rw [if_neg q1, if_neg q2] at hX; exact hX
  · rw [if_neg q1, if_pos q2] at hX; exact hX
  · rw [if_pos q1] at hX; exact hX
theorem s_M_sortAt' (h : zmA σ) {q : Int} (hq : 0 ≤ q ∧ q < 144) (hX : X (some (iZ (zmS σ q))) σ) : MS G zm_M_sortAt 1 [zr G 58, iZ q] σ X := by
  have hf := zmF_r h hq
  obtain ⟨h0, h1, h2, h3, h4, h5, h6⟩ := id h
  unfold zmS at hX
  refine k_M_sortAt ⟨by omega, fun q1 => ⟨by omega, fun q2 => ?_, fun q2 => ?_⟩, fun q1 => ?_⟩
  · rw [if_neg q1, if_neg q2] at hX
    exact s_M_from h (by omega) ⟨_, rfl, by omega, hX⟩
  · rw [if_neg q1, if_pos q2] at hX; exact hX
  · rw [if_pos q1] at hX; exact hX
theorem s_M_sortAt (hV : zVd V) (h : zMV σ V) {q : Nat} {z : Int} (hz : z = (q : Int)) (hq : zva V q) (hX : X (some (iZ (V 1 q))) σ) : MS G zm_M_sortAt 1 [zr G 58, iZ z] σ X := by
  subst hz
  have hl := (zva.lt hV hq).1
  refine s_M_sortAt' h.1 (by omega) ?_
  rw [((h.2.2.1 q hl).1 hq)]; exact hX
theorem s_M_numberAt' (h : zmA σ) {q : Int} (hq : 0 ≤ q ∧ q < 144) (hX : X (some (iZ (σ 68 (zmF σ q).toNat))) σ) : MS G zm_M_numberAt 1 [zr G 58, iZ q] σ X := by
  have hf := zmF_r h hq
  exact k_M_numberAt (s_M_from h (by omega) ⟨_, rfl, by omega, hX⟩)
theorem s_M_formAt (hV : zVd V) (h : zMV σ V) {q : Nat} {z st : Int} (hz : z = (q : Int)) (hq : zva V q) (h0 : V 1 q ≠ 0) (h5 : V 1 q ≠ 5) (h6 : V 1 q ≠ 6) (h7 : V 1 q ≠ 7) (htu : zI (σ 58 42) ∧ 0 ≤ σ 58 42) (hst : zI st ∧ 0 ≤ st) (hX : X (some (iZ (zFm V (σ 58 42) st q))) σ) : MS G zm_M_formAt 2 [zr G 58, iZ z, iZ st] σ X := by
  subst hz
  have hl := (zva.lt hV hq).1
  have hA := h.1
  have hf := zmF_r hA (q := (q : Int)) (by omega)
  obtain ⟨a0, a1, a2, a3, a4, a5, a6⟩ := id hA
  obtain ⟨v1, v2, v3, v4, v5, v6, v7, v8⟩ := hV.2.2.1 q hq
  have c3 := hV.2.1
  unfold zFm at hX
  rw [if_neg h0] at hX
  unfold zlkv at hX
  rcases h.2.2.2.1 q hq h0 h5 h6 h7 with ⟨d1, d2, d3⟩ | ⟨d0, d1, d2, d3⟩ | ⟨d0, d1, d2, d3, d4⟩
  · refine k_M_formAt ⟨by omega, fun z => absurd d1 z, fun _ => ?_⟩
    rw [← d2]
    rw [d3] at hX v2 v7
    by_cases q23 : V 1 q = 2 ∨ V 1 q = 3
    · rw [if_pos q23, if_pos rfl] at hX; exact hX
    · rw [if_neg q23, if_neg (fun z => by have := (v7 z).1; omega)] at hX; exact hX
  · refine k_M_formAt ⟨by omega, fun _ => ⟨by omega, fun z => absurd d1 z, fun _ => ?_⟩, fun z => absurd z d0⟩
    rw [← d3]
    rw [if_neg (by omega), if_neg (by omega)] at hX; exact hX
  · refine k_M_formAt ⟨by omega, fun _ => ⟨by omega, fun _ => ?_, fun z => absurd z d1⟩, fun z => absurd z d0⟩
    refine s_M_from hA (by omega) ⟨_, rfl, by omega, ?_⟩
    rintro x3 e3
    refine s_M_from hA (by omega) ⟨_, rfl, by omega, ?_⟩
    rintro x4 e4
    rw [← d2] at e4
    subst e4
    by_cases h8 : V 1 q = 8
    · obtain ⟨d5, d6⟩ := d4 (by omega)
      have v7' := v7 (Or.inl h8)
      have i1 : zI (V 1 q) := by omega
      refine ⟨i1, fun z => by omega, fun _ => ⟨i1, fun _ => ⟨i1, fun _ => ⟨i1, fun z => absurd h8 z, fun _ => ?_⟩, fun z => by omega⟩, fun z => by omega⟩⟩
      refine s_M_numberAt' hA (by omega) ⟨_, rfl, ?_⟩
      rw [← d5]
      refine ⟨⟨hst.1, by omega, by omega⟩, ?_⟩
      rw [if_neg (by omega), if_pos (by omega), v8 h8] at hX
      rw [show (0 + st / 2 ^ (V 2 q).toNat % 2) % 2 = st / 2 ^ (V 2 q).toNat % 2 by omega] at hX; exact hX
    rw [← d3 h8] at e3
    subst e3
    have tu2 : ∀ n : Nat, σ 58 42 / 2 ^ n % 2 = 0 ∨ σ 58 42 / 2 ^ n % 2 = 1 := fun n => zmod2 _
    have st2 : ∀ n : Nat, st / 2 ^ n % 2 = 0 ∨ st / 2 ^ n % 2 = 1 := fun n => zmod2 _
    have mir : V 1 q = 2 ∨ V 1 q = 3 → b_M_formAt_61 G q st X (V 3 q) σ := fun q23 => by
      obtain ⟨d5, d6⟩ := d4 (by omega)
      have v3' := v3 q23
      refine s_M_numberAt' hA (by omega) ⟨_, rfl, ?_⟩
      rw [← d5]
      have t2 := tu2 (V 2 q).toNat
      refine ⟨⟨htu.1, by omega, by omega⟩, ⟨by omega, by omega⟩, ?_⟩
      rw [zxor01 v3'.2 t2]
      rw [if_pos q23, if_neg (by omega)] at hX; exact hX
    have i1 : zI (V 1 q) := by omega
    refine ⟨i1, fun z => mir (Or.inl z), fun z2 => ⟨i1, fun z3 => ⟨i1, fun z9 => ⟨i1, fun z8 => ?_, fun z8 => ?_⟩, fun z9 => ?_⟩, fun z => mir (Or.inr z)⟩⟩
    · rw [if_neg (by omega), if_neg (by omega)] at hX; exact hX
    · obtain ⟨d5, d6⟩ := d4 (by omega)
      have v7' := v7 (Or.inl z8)
      refine s_M_numberAt' hA (by omega) ⟨_, rfl, ?_⟩
      rw [← d5]
      have t2 := st2 (V 2 q).toNat
      refine ⟨⟨hst.1, by omega, by omega⟩, ?_⟩
      rw [if_neg (by omega), if_pos (by omega), v8 z8] at hX
      rw [show (0 + st / 2 ^ (V 2 q).toNat % 2) % 2 = st / 2 ^ (V 2 q).toNat % 2 by omega] at hX; exact hX
    · obtain ⟨d5, d6⟩ := d4 (by omega)
      have v7' := v7 (Or.inr z9)
      refine s_M_numberAt' hA (by omega) ⟨_, rfl, ?_⟩
      rw [← d5]
      have t2 := st2 (V 2 q).toNat
      refine ⟨⟨hst.1, by omega, by omega⟩, ⟨by omega, by omega⟩, ?_⟩
      rw [zxor01 v7'.2.1 t2]
      rw [if_neg (by omega), if_pos (by omega)] at hX; exact hX
end MV
